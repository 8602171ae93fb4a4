/-! ===== the second symbolic machine: typed classes, cells, linear facts, loops by certificates, contracts ===== -/
abbrev TY : Type := Nat × Nat × Nat
abbrev LF : Type := List Nat × List Nat × Nat × Nat
abbrev CE : Type := Nat × SV × SV × SV
abbrev SC : Type := (Nat × TY) ⊕ List SV
abbrev SO : Type := Nat × SC
abbrev EN : Type := List (Nat × Nat × Nat)
/-- made objects; ranges of names; what names are made of; the next name; slots and objects made; cells; linear forms of names; linear facts; open couplings; places written; how many couplings stand -/
abbrev SG : Type := List SO × EN × List (Nat × Nat × SV × SV) × Nat × Nat × Nat × List CE × List (Nat × LF) × List LF × List (Nat × SV) × List Nat × Nat
abbrev SLV : Type := List (Nat × SV)
abbrev SOUT : Type := (Option Nat × SLV × List SV × SG) ⊕ ((Nat × List SV × List SV × SG) ⊕ (Option SV × SG))
/-- a coupling: class that bounds it (0: none, else the class and 1), its places (class, how, where), what holds of them inside and behind the bound -/
abbrev CPL : Type := Nat × List (Nat × Nat × Nat) × List (List (Nat × Nat × Nat)) × List (List (Nat × Nat × Nat))
-- tags: 0 int, 1 named int, 2 long, 3 named long, 4 null, 5 an object made, 6 an object of a class by a named index, 7 by a number
noncomputable def g_h (G : SG) : List SO := G.1
noncomputable def g_e (G : SG) : EN := G.2.1
noncomputable def g_d (G : SG) : List (Nat × Nat × SV × SV) := G.2.2.1
noncomputable def g_n (G : SG) : Nat := G.2.2.2.1
noncomputable def g_u (G : SG) : Nat := G.2.2.2.2.1
noncomputable def g_q (G : SG) : Nat := G.2.2.2.2.2.1
noncomputable def g_c (G : SG) : List CE := G.2.2.2.2.2.2.1
noncomputable def g_t (G : SG) : List (Nat × LF) := G.2.2.2.2.2.2.2.1
noncomputable def g_f (G : SG) : List LF := G.2.2.2.2.2.2.2.2.1
noncomputable def g_x (G : SG) : List (Nat × SV) := G.2.2.2.2.2.2.2.2.2.1
noncomputable def g_k (G : SG) : List Nat := G.2.2.2.2.2.2.2.2.2.2.1
noncomputable def g_p (G : SG) : Nat := G.2.2.2.2.2.2.2.2.2.2.2
noncomputable def upH (G : SG) (H : List SO) : SG := (H, G.2)
noncomputable def upE (G : SG) (E : EN) : SG := (G.1, E, G.2.2)
noncomputable def upU (G : SG) (u q : Nat) : SG := (G.1, G.2.1, G.2.2.1, G.2.2.2.1, u, q, G.2.2.2.2.2.2)
noncomputable def upC (G : SG) (C : List CE) : SG := (G.1, G.2.1, G.2.2.1, G.2.2.2.1, G.2.2.2.2.1, G.2.2.2.2.2.1, C, G.2.2.2.2.2.2.2)
noncomputable def upF (G : SG) (F : List LF) : SG := (G.1, G.2.1, G.2.2.1, G.2.2.2.1, G.2.2.2.2.1, G.2.2.2.2.2.1, G.2.2.2.2.2.2.1, G.2.2.2.2.2.2.2.1, F, G.2.2.2.2.2.2.2.2.2)
noncomputable def upX (G : SG) (X : List (Nat × SV)) (K : List Nat) : SG := (G.1, G.2.1, G.2.2.1, G.2.2.2.1, G.2.2.2.2.1, G.2.2.2.2.2.1, G.2.2.2.2.2.2.1, G.2.2.2.2.2.2.2.1, G.2.2.2.2.2.2.2.2.1, X, K, G.2.2.2.2.2.2.2.2.2.2.2)
noncomputable def y_fresh (G : SG) (lo hi : Nat) : SG := (G.1, (G.2.2.2.1, lo, hi) :: G.2.1, G.2.2.1, G.2.2.2.1 + 1, G.2.2.2.2)
noncomputable def isI (v : SV) : Bool := Nat.ble v.1 1
noncomputable def isL (v : SV) : Bool := Nat.beq v.1 2 || Nat.beq v.1 3
noncomputable def isR (v : SV) : Bool := Nat.ble 4 v.1
noncomputable def isT (v : SV) : Bool := Nat.ble 6 v.1
noncomputable def isN (v : SV) : Bool := Nat.beq v.1 1 || Nat.beq v.1 3
noncomputable def snull : SV := (4, 0, 0)
noncomputable def y_idx (v : SV) : SV := bif Nat.beq v.1 6 then (1, v.2.2, 0) else (0, v.2.2, 0)
noncomputable def y_ref (c : Nat) (e : SV) : SV := bif Nat.beq e.1 1 then (6, c, e.2.1) else (7, c, e.2.1)
noncomputable def e_find (i : Nat) (l : EN) : Nat × Nat := match l with
  | [] => (0, 18446744073709551615)
  | q :: r => bif Nat.beq q.1 i then q.2 else e_find i r
noncomputable def itv (G : SG) (v : SV) : Nat × Nat := bif isN v then e_find v.2.1 (g_e G) else (v.2.1, v.2.1)
noncomputable def y_know (G : SG) (v : SV) (lo hi : Nat) : SG := bif isN v then upE G ((v.2.1, lo, hi) :: g_e G) else G
/-! linear forms (P, N, c, d): the sum of P and c against the sum of N and d -/
noncomputable def t_find (i : Nat) (l : List (Nat × LF)) : Option LF := match l with
  | [] => none
  | q :: r => bif Nat.beq q.1 i then some q.2 else t_find i r
noncomputable def lf_of (G : SG) (v : SV) : LF := bif isN v then (match t_find v.2.1 (g_t G) with | some f => f | none => ([v.2.1], [], 0, 0)) else ([], [], v.2.1, 0)
noncomputable def mrem (a : Nat) (l : List Nat) : Option (List Nat) := match l with
  | [] => none
  | b :: r => bif Nat.beq a b then some r else (match mrem a r with | some q => some (b :: q) | none => none)
noncomputable def canc (P N : List Nat) : List Nat × List Nat := match P with
  | [] => ([], N)
  | a :: r => (match mrem a N with
    | some M => canc r M
    | none => (a :: (canc r N).1, (canc r N).2))
noncomputable def lnorm (f : LF) : LF := ((canc f.1 f.2.1).1, (canc f.1 f.2.1).2, f.2.2.1 - f.2.2.2, f.2.2.2 - f.2.2.1)
noncomputable def sum_hi (E : EN) (l : List Nat) : Nat := match l with
  | [] => 0
  | a :: r => (e_find a E).2 + sum_hi E r
noncomputable def sum_lo (E : EN) (l : List Nat) : Nat := match l with
  | [] => 0
  | a :: r => (e_find a E).1 + sum_lo E r
noncomputable def lbase (E : EN) (f : LF) : Bool := Nat.ble (sum_hi E f.1 + f.2.2.1) (sum_lo E f.2.1 + f.2.2.2)
noncomputable def nmem (a : Nat) (l : List Nat) : Bool := match l with
  | [] => false
  | b :: r => bif Nat.beq a b then true else nmem a r
noncomputable def nany (l m : List Nat) : Bool := match l with
  | [] => false
  | a :: r => bif nmem a m then true else nany r m
noncomputable def lshare (f g : LF) : Bool := bif nany f.1 g.1 then true else nany f.2.1 g.2.1
noncomputable def lcomb (f g : LF) : LF := lnorm (f.1 ++ g.2.1, f.2.1 ++ g.1, f.2.2.1 + g.2.2.2, f.2.2.2 + g.2.2.1)
noncomputable def lsome (t : LF → Bool) (f : LF) (F : List LF) : Bool := match F with
  | [] => false
  | g :: r => bif (bif lshare f g then t (lcomb f g) else false) then true else lsome t f r
noncomputable def lchk (E : EN) (F : List LF) (k : Nat) : LF → Bool := Nat.rec (fun f => lbase E f) (fun _ ih f => bif lbase E f then true else lsome ih f F) k
noncomputable def leform (G : SG) (x y : SV) (k : Nat) : LF := let a := lf_of G x; let b := lf_of G y; lnorm (a.1 ++ b.2.1, b.1 ++ a.2.1, a.2.2.1 + b.2.2.2 + k, b.2.2.1 + a.2.2.2)
/-- x + k is at most y -/
noncomputable def y_le (G : SG) (x y : SV) (k d : Nat) : Bool := lchk (g_e G) (g_f G) d (leform G x y k)
noncomputable def tgP (f : LF) (a : Nat) (E : EN) : Option EN := match mrem a f.1 with
  | none => some E
  | some r => (let s := sum_lo E r + f.2.2.1; let t := sum_hi E f.2.1 + f.2.2.2; let p := e_find a E
    bif Nat.ble (p.2 + s) t then some E else bif Nat.ble (p.1 + s) t then some ((a, p.1, t - s) :: E) else none)
noncomputable def tgN (f : LF) (a : Nat) (E : EN) : Option EN := match mrem a f.2.1 with
  | none => some E
  | some r => (let s := sum_lo E f.1 + f.2.2.1; let t := sum_hi E r + f.2.2.2; let p := e_find a E
    bif Nat.ble s (p.1 + t) then some E else bif Nat.ble s (p.2 + t) then some ((a, s - t, p.2) :: E) else none)
noncomputable def tgs (g : Nat → EN → Option EN) (l : List Nat) (E : EN) : Option EN := match l with
  | [] => some E
  | a :: r => (match g a E with | some E2 => tgs g r E2 | none => none)
/-- x + k at most y is known from now on; none: that can't be -/
noncomputable def y_fact (G : SG) (x y : SV) (k : Nat) : Option SG :=
  let f := leform G x y k
  match f.1 ++ f.2.1 with
  | [] => some G
  | _ :: _ => (match tgs (tgP f) f.1 (g_e G) with
    | none => none
    | some E => (match tgs (tgN f) f.2.1 E with
      | none => none
      | some E2 => some (upF (upE G E2) (f :: g_f G))))
/-! int and long operations -/
noncomputable def s_def (l : List (Nat × Nat × SV × SV)) (k : Nat) (x y : SV) : Option Nat := match l with
  | [] => none
  | q :: r => bif Nat.beq q.2.1 k && (veq q.2.2.1 x && veq q.2.2.2 y) then some q.1 else s_def r k x y
noncomputable def t_put (n : Nat) (f : Option LF) (l : List (Nat × LF)) : List (Nat × LF) := match f with
  | none => l
  | some g => (n, g) :: l
noncomputable def y_memo (k : Nat) (x y : SV) (tg lo hi : Nat) (f : Option LF) (G : SG) : SV × SG := match s_def (g_d G) k x y with
  | some i => ((tg, i, 0), G)
  | none => ((tg, g_n G, 0), (G.1, (g_n G, lo, hi) :: g_e G, (g_n G, k, x, y) :: g_d G, g_n G + 1, g_u G, g_q G, g_c G, t_put (g_n G) f (g_t G), G.2.2.2.2.2.2.2.2))
noncomputable def lf_add (G : SG) (x y : SV) (o : Nat) : LF := let a := lf_of G x; let b := lf_of G y; lnorm (a.1 ++ b.1, a.2.1 ++ b.2.1, a.2.2.1 + b.2.2.1, a.2.2.2 + b.2.2.2 + o)
noncomputable def lf_sub (G : SG) (x y : SV) (o : Nat) : LF := let a := lf_of G x; let b := lf_of G y; lnorm (a.1 ++ b.2.1, a.2.1 ++ b.1, a.2.2.1 + b.2.2.2 + o, a.2.2.2 + b.2.2.1)
noncomputable def lf_off (G : SG) (x : SV) (c d : Nat) : LF := let a := lf_of G x; lnorm (a.1, a.2.1, a.2.2.1 + c, a.2.2.2 + d)
noncomputable def lf_bin (k : Nat) (x y : SV) (p q : Nat × Nat) (G : SG) : Option LF :=
  bif Nat.beq k 0 then (bif Nat.ble 2147483648 (p.1 + q.1) && Nat.ble (p.2 + q.2) 6442450943 then some (lf_add G x y 2147483648) else none)
  else bif Nat.beq k 1 then (bif Nat.ble q.2 (p.1 + 2147483648) && Nat.ble (p.2 + 2147483648) (q.1 + 4294967295) then some (lf_sub G x y 2147483648) else none)
  else none
noncomputable def y_rng (k a b c d : Nat) : Option SV :=
  bif Nat.beq k 3 then (bif Nat.ble 2147483649 c then (bif Nat.ble 2147483648 a then some (0, 2147483648, 2147483648 + (b - 2147483648) / (c - 2147483648)) else some sfull) else bif Nat.ble d 2147483647 then some sfull else none)
  else bif Nat.beq k 4 && Nat.ble d 2147483647 then some sfull
  else bif Nat.beq k 6 && ((Nat.ble 2147483648 a && Nat.ble 2147483648 c) && (Nat.ble b 2147483711 && Nat.ble d 2147483711)) then some (0, 2147483648, 2147483711)
  else bif Nat.beq k 8 && ((Nat.beq a 2147483649 && Nat.beq b 2147483649) && (Nat.ble 2147483648 c && Nat.ble d 2147483654)) then some (0, 2147483649, 2147483648 + 2 ^ (d - 2147483648))
  else bnd k a b c d
noncomputable def y_bin (k : Nat) (x y : SV) (G : SG) : Option (SV × SG) :=
  bif isI x && isI y then
    (let p := itv G x; let q := itv G y
    bif Nat.beq p.1 p.2 && Nat.beq q.1 q.2 then (match kbin k p.1 q.1 with | some r => some (sk r, G) | none => none)
    else bif Nat.beq k 0 && (Nat.beq p.1 2147483648 && Nat.beq p.2 2147483648) then some (y, G)
    else bif Nat.ble k 1 && (Nat.beq q.1 2147483648 && Nat.beq q.2 2147483648) then some (x, G)
    else match y_rng k p.1 p.2 q.1 q.2 with
      | none => none
      | some v => some (y_memo k x y 1 v.2.1 v.2.2 (lf_bin k x y p q G) G))
  else none
noncomputable def y_lrng (k a b c d : Nat) : Option (Nat × Nat) :=
  bif Nat.beq k 0 then (bif Nat.ble 9223372036854775808 (a + c) && Nat.ble (b + d) 27670116110564327423 then some (a + c - 9223372036854775808, b + d - 9223372036854775808) else some (0, 18446744073709551615))
  else bif Nat.beq k 1 then (bif Nat.ble d (a + 9223372036854775808) && Nat.ble (b + 9223372036854775808) (c + 18446744073709551615) then some (a + 9223372036854775808 - d, b + 9223372036854775808 - c) else some (0, 18446744073709551615))
  else bif Nat.beq k 2 then (bif (Nat.ble 9223372036854775808 a && Nat.ble 9223372036854775808 c) && Nat.ble ((b - 9223372036854775808) * (d - 9223372036854775808)) 9223372036854775807 then some ((a - 9223372036854775808) * (c - 9223372036854775808) + 9223372036854775808, (b - 9223372036854775808) * (d - 9223372036854775808) + 9223372036854775808) else some (0, 18446744073709551615))
  else bif Nat.beq k 3 then (bif Nat.ble 9223372036854775809 c then some (0, 18446744073709551615) else bif Nat.ble d 9223372036854775807 then some (0, 18446744073709551615) else none)
  else none
noncomputable def lf_lbin (k : Nat) (x y : SV) (p q : Nat × Nat) (G : SG) : Option LF :=
  bif Nat.beq k 0 then (bif Nat.ble 9223372036854775808 (p.1 + q.1) && Nat.ble (p.2 + q.2) 27670116110564327423 then some (lf_add G x y 9223372036854775808) else none)
  else bif Nat.beq k 1 then (bif Nat.ble q.2 (p.1 + 9223372036854775808) && Nat.ble (p.2 + 9223372036854775808) (q.1 + 18446744073709551615) then some (lf_sub G x y 9223372036854775808) else none)
  else none
noncomputable def y_lbin (k : Nat) (x y : SV) (G : SG) : Option (SV × SG) :=
  bif isL x && isL y then
    (let p := itv G x; let q := itv G y
    match y_lrng k p.1 p.2 q.1 q.2 with
      | none => none
      | some v => some (y_memo (20 + k) x y 3 v.1 v.2 (lf_lbin k x y p q G) G))
  else none
/-- 0 i2l, 1 l2i, 2 i2b, 3 i2s, 4 ineg -/
noncomputable def y_conv (k : Nat) (x : SV) (G : SG) : Option (SV × SG) :=
  let p := itv G x
  bif Nat.beq k 1 then (bif isL x then (bif Nat.ble 9223372034707292160 p.1 && Nat.ble p.2 9223372039002259455 then some (y_memo 31 x snull 1 (p.1 - 9223372034707292160) (p.2 - 9223372034707292160) (some (lf_off G x 0 9223372034707292160)) G) else some (y_memo 31 x snull 1 0 4294967295 none G)) else none)
  else bif isI x then
    (bif Nat.beq k 0 then (bif Nat.beq x.1 0 then some ((2, x.2.1 + 9223372034707292160, 0), G) else some (y_memo 30 x snull 3 (p.1 + 9223372034707292160) (p.2 + 9223372034707292160) (some (lf_off G x 9223372034707292160 0)) G))
    else bif Nat.beq k 2 then some (y_memo 32 x snull 1 2147483520 2147483775 none G)
    else bif Nat.beq k 3 then some (y_memo 33 x snull 1 2147450880 2147516415 none G)
    else bif Nat.beq k 4 then some (y_memo 34 x snull 1 0 4294967295 none G) else none)
  else none
/-! comparisons -/
noncomputable def y_ltT (G : SG) (x y : SV) : Option SG := let p := itv G x; let q := itv G y; y_fact (y_know (y_know G x p.1 (nmin p.2 (q.2 - 1))) y (nmax q.1 (p.1 + 1)) q.2) x y 1
noncomputable def y_ltF (G : SG) (x y : SV) : Option SG := let p := itv G x; let q := itv G y; y_fact (y_know (y_know G x (nmax p.1 q.1) p.2) y q.1 (nmin q.2 p.2)) y x 0
noncomputable def oL (b : Bool) (o : Option SG) : List (Bool × SG) := match o with
  | none => []
  | some G => [(b, G)]
noncomputable def y_lt (G : SG) (x y : SV) (t f : Bool) : List (Bool × SG) :=
  let p := itv G x; let q := itv G y
  bif Nat.ble q.2 p.1 then [(f, G)]
  else bif Nat.ble (p.2 + 1) q.1 then [(t, G)]
  else bif veq x y then [(f, G)]
  else bif y_le G x y 1 2 then [(t, G)]
  else bif y_le G y x 0 2 then [(f, G)]
  else oL t (y_ltT G x y) ++ oL f (y_ltF G x y)
noncomputable def y_eqT (G : SG) (x y : SV) : Option SG := let p := itv G x; let q := itv G y
  match y_fact (y_know (y_know G x (nmax p.1 q.1) (nmin p.2 q.2)) y (nmax p.1 q.1) (nmin p.2 q.2)) x y 0 with
  | none => none
  | some G2 => y_fact G2 y x 0
noncomputable def y_neq (G : SG) (x y : SV) (f : Bool) : List (Bool × SG) :=
  let p := itv G x; let q := itv G y
  bif Nat.beq q.1 q.2 then (bif Nat.ble (p.1 + 1) q.1 then [(f, y_know G x p.1 (nmin p.2 (q.1 - 1)))] else []) ++ (bif Nat.ble (q.1 + 1) p.2 then [(f, y_know G x (nmax p.1 (q.1 + 1)) p.2)] else [])
  else bif Nat.beq p.1 p.2 then (bif Nat.ble (q.1 + 1) p.1 then [(f, y_know G y q.1 (nmin q.2 (p.1 - 1)))] else []) ++ (bif Nat.ble (p.1 + 1) q.2 then [(f, y_know G y (nmax q.1 (p.1 + 1)) q.2)] else [])
  else bif y_le G x y 0 2 then oL f (y_ltT G x y)
  else bif y_le G y x 0 2 then oL f (y_ltT G y x)
  else oL f (y_ltT G x y) ++ oL f (y_ltT G y x)
noncomputable def y_eq (G : SG) (x y : SV) (t f : Bool) : List (Bool × SG) :=
  let p := itv G x; let q := itv G y
  bif veq x y then [(t, G)]
  else bif Nat.ble (p.2 + 1) q.1 || Nat.ble (q.2 + 1) p.1 then [(f, G)]
  else bif Nat.beq p.1 p.2 && (Nat.beq q.1 q.2 && Nat.beq p.1 q.1) then [(t, G)]
  else bif isN x && isN y then
    (bif y_le G x y 1 2 || y_le G y x 1 2 then [(f, G)]
    else bif y_le G x y 0 2 && y_le G y x 0 2 then [(t, G)]
    else oL t (y_eqT G x y) ++ y_neq G x y f)
  else oL t (y_eqT G x y) ++ y_neq G x y f
noncomputable def y_cond (k : Nat) (x y : SV) (G : SG) : Option (List (Bool × SG)) :=
  bif isI x && isI y then
    (bif Nat.beq k 0 then some (y_eq G x y true false)
    else bif Nat.beq k 1 then some (y_eq G x y false true)
    else bif Nat.beq k 2 then some (y_lt G x y true false)
    else bif Nat.beq k 3 then some (y_lt G x y false true)
    else bif Nat.beq k 4 then some (y_lt G y x true false)
    else bif Nat.beq k 5 then some (y_lt G y x false true)
    else none)
  else none
