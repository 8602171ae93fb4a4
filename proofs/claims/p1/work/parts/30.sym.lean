/-! ===== the symbolic machine: ints by bounds (moved up by 2^31) and names, an exact heap; all by numbers that the kernel counts fast ===== -/
abbrev SV : Type := Nat × Nat × Nat
abbrev SC : Type := (Nat × SV) ⊕ List SV
abbrev SO : Type := Nat × SC
/-- heap; what is known of names; what names are made of; the next name; slots used -/
abbrev SG : Type := List SO × List (Nat × Nat × Nat) × List (Nat × Nat × SV × SV) × Nat × Nat
abbrev SLV : Type := List (Nat × SV)
abbrev SOUT : Type := (Option Nat × SLV × List SV × SG) ⊕ ((Nat × List SV × List SV × SG) ⊕ (Option SV × SG))
-- tags: 0 an int between two numbers, 1 a named int, 2 a long, 3 any long, 4 null, 5 an object
noncomputable def zi (c : Int) : Nat := match c with
  | .ofNat n => n + 2147483648
  | .negSucc n => 2147483647 - n
noncomputable def zl (c : Int) : Nat := match c with
  | .ofNat n => n + 9223372036854775808
  | .negSucc n => 9223372036854775807 - n
noncomputable def sk (c : Nat) : SV := (0, c, c)
noncomputable def sfull : SV := (0, 0, 4294967295)
noncomputable def slany : SV := (3, 0, 0)
noncomputable def snull : SV := (4, 0, 0)
noncomputable def sref (k : Nat) : SV := (5, k, 0)
noncomputable def g_h (G : SG) : List SO := G.1
noncomputable def g_e (G : SG) : List (Nat × Nat × Nat) := G.2.1
noncomputable def g_d (G : SG) : List (Nat × Nat × SV × SV) := G.2.2.1
noncomputable def g_n (G : SG) : Nat := G.2.2.2.1
noncomputable def g_u (G : SG) : Nat := G.2.2.2.2
noncomputable def s_find (i : Nat) (l : SLV) : Option SV := match l with
  | [] => none
  | q :: r => bif Nat.beq q.1 i then some q.2 else s_find i r
noncomputable def e_find (i : Nat) (l : List (Nat × Nat × Nat)) : Nat × Nat := match l with
  | [] => (0, 4294967295)
  | q :: r => bif Nat.beq q.1 i then q.2 else e_find i r
noncomputable def isI (v : SV) : Bool := Nat.ble v.1 1
noncomputable def isL (v : SV) : Bool := Nat.beq v.1 2 || Nat.beq v.1 3
noncomputable def isR (v : SV) : Bool := Nat.beq v.1 4 || Nat.beq v.1 5
noncomputable def isO (v : SV) : Bool := Nat.beq v.1 5
/-- bounds of an int -/
noncomputable def itv (G : SG) (v : SV) : Nat × Nat := bif Nat.beq v.1 0 then v.2 else e_find v.2.1 (g_e G)
noncomputable def s_heap (G : SG) (H : List SO) : SG := (H, G.2)
noncomputable def s_know (G : SG) (v : SV) (lo hi : Nat) : SG := bif Nat.beq v.1 1 then (G.1, (v.2.1, lo, hi) :: G.2.1, G.2.2) else G
noncomputable def s_fresh (G : SG) (lo hi : Nat) : SG := (G.1, (G.2.2.2.1, lo, hi) :: G.2.1, G.2.2.1, G.2.2.2.1 + 1, G.2.2.2.2)
noncomputable def s_name (G : SG) : SV := (1, G.2.2.2.1, 0)
noncomputable def nmin (a b : Nat) : Nat := bif Nat.ble a b then a else b
noncomputable def nmax (a b : Nat) : Nat := bif Nat.ble a b then b else a
/-- int operations on constants -/
noncomputable def kbin (k a c : Nat) : Option Nat :=
  bif Nat.beq k 0 then some ((a + c + 2147483648) % 4294967296)
  else bif Nat.beq k 1 then some ((a + 6442450944 - c) % 4294967296)
  else bif Nat.beq k 2 then some ((a * c + (8589934592 - a - c) * 2147483648 + 4611686020574871552) % 4294967296)
  else bif Nat.beq k 3 then (bif Nat.beq c 2147483648 then none else some (zi (ibin3 a c)))
  else bif Nat.beq k 4 then (bif Nat.beq c 2147483648 then none else some (zi (ibin4 a c)))
  else bif Nat.ble k 9 then some (zi (ibinz k a c)) else none
where
  ibin3 (a c : Nat) : Int := ((Int32.ofInt ((a : Int) - 2147483648)) / (Int32.ofInt ((c : Int) - 2147483648))).toInt
  ibin4 (a c : Nat) : Int := ((Int32.ofInt ((a : Int) - 2147483648)) - (Int32.ofInt ((a : Int) - 2147483648)) / (Int32.ofInt ((c : Int) - 2147483648)) * (Int32.ofInt ((c : Int) - 2147483648))).toInt
  ibinz (k a c : Nat) : Int := match ibin k (Int32.ofInt ((a : Int) - 2147483648)) (Int32.ofInt ((c : Int) - 2147483648)) with
    | some r => r.toInt
    | none => 0
/-- bounds of an int operation; a and c, b and d: least and greatest of each side -/
noncomputable def bnd (k a b c d : Nat) : Option SV :=
  bif Nat.beq k 0 then (bif Nat.ble 2147483648 (a + c) && Nat.ble (b + d) 6442450943 then some (0, a + c - 2147483648, b + d - 2147483648) else some sfull)
  else bif Nat.beq k 1 then (bif Nat.ble d (a + 2147483648) && Nat.ble (b + 2147483648) (c + 4294967295) then some (0, a + 2147483648 - d, b + 2147483648 - c) else some sfull)
  else bif Nat.beq k 2 then (bif (Nat.ble 2147483648 a && Nat.ble 2147483648 c) && Nat.ble ((b - 2147483648) * (d - 2147483648)) 2147483647 then some (0, (a - 2147483648) * (c - 2147483648) + 2147483648, (b - 2147483648) * (d - 2147483648) + 2147483648) else some sfull)
  else bif Nat.beq k 3 then (bif Nat.ble 2147483649 c then (bif Nat.ble 2147483648 a then some (0, 2147483648, b) else some sfull) else none)
  else bif Nat.beq k 4 then (bif Nat.ble 2147483649 c then (bif Nat.ble 2147483648 a then some (0, 2147483648, d - 1) else some sfull) else none)
  else bif Nat.beq k 5 then (bif Nat.ble 2147483648 c then some (0, 2147483648, d) else bif Nat.ble 2147483648 a then some (0, 2147483648, b) else some sfull)
  else bif Nat.ble k 9 then some sfull else none
noncomputable def veq (u v : SV) : Bool := Nat.beq u.1 v.1 && (Nat.beq u.2.1 v.2.1 && Nat.beq u.2.2 v.2.2)
noncomputable def s_def (l : List (Nat × Nat × SV × SV)) (k : Nat) (x y : SV) : Option Nat := match l with
  | [] => none
  | q :: r => bif Nat.beq q.2.1 k && (veq q.2.2.1 x && veq q.2.2.2 y) then some q.1 else s_def r k x y
noncomputable def fixd (v : SV) : Bool := bif Nat.beq v.1 0 then Nat.beq v.2.1 v.2.2 else true
noncomputable def s_bin (k : Nat) (x y : SV) (G : SG) : Option (SV × SG) :=
  bif isI x && isI y then
    (let p := itv G x; let q := itv G y
    bif Nat.beq p.1 p.2 && Nat.beq q.1 q.2 then (match kbin k p.1 q.1 with | some r => some (sk r, G) | none => none)
    else bif Nat.beq k 0 && (Nat.beq p.1 2147483648 && Nat.beq p.2 2147483648) then some (y, G)
    else bif Nat.ble k 1 && (Nat.beq q.1 2147483648 && Nat.beq q.2 2147483648) then some (x, G)
    else match bnd k p.1 p.2 q.1 q.2 with
      | none => none
      | some v => bif fixd x && fixd y then (match s_def (g_d G) k x y with
          | some i => some ((1, i, 0), G)
          | none => some (s_name G, (G.1, (G.2.2.2.1, v.2) :: G.2.1, (G.2.2.2.1, k, x, y) :: G.2.2.1, G.2.2.2.1 + 1, G.2.2.2.2)))
        else some (v, G))
  else none
/-- what was found once of two names is kept: 100 is 'less' -/
noncomputable def s_fact (G : SG) (x y : SV) (b : Nat) : SG := bif Nat.beq x.1 1 && Nat.beq y.1 1 then (G.1, G.2.1, (b, 100, x, y) :: G.2.2.1, G.2.2.2) else G
/-- x < y: what may come of it -/
noncomputable def s_ltn (x y : SV) (a b c d : Nat) (G : SG) (t f : Bool) : List (Bool × SG) :=
  (bif Nat.ble (a + 1) d then [(t, s_fact (s_know (s_know G x a (nmin b (d - 1))) y (nmax c (a + 1)) d) x y 1)] else []) ++
  (bif Nat.ble c b then [(f, s_fact (s_know (s_know G x (nmax a c) b) y c (nmin d b)) x y 0)] else [])
noncomputable def s_lt (x y : SV) (a b c d : Nat) (G : SG) (t f : Bool) : List (Bool × SG) :=
  bif Nat.beq x.1 1 && Nat.beq y.1 1 then (match s_def (g_d G) 100 x y with
    | some e => bif Nat.beq e 1 then [(t, G)] else bif Nat.beq e 0 then [(f, G)] else s_ltn x y a b c d G t f
    | none => s_ltn x y a b c d G t f)
  else s_ltn x y a b c d G t f
noncomputable def s_eq (x y : SV) (a b c d : Nat) (G : SG) (t f : Bool) : List (Bool × SG) :=
  bif Nat.beq x.1 1 && veq x y then [(t, G)]
  else (bif Nat.ble a d && Nat.ble c b then [(t, s_know (s_know G x (nmax a c) (nmin b d)) y (nmax a c) (nmin b d))] else []) ++
    (bif Nat.beq c d then (bif Nat.ble (a + 1) c then [(f, s_know G x a (nmin b (c - 1)))] else []) ++ (bif Nat.ble (c + 1) b then [(f, s_know G x (nmax a (c + 1)) b)] else [])
     else bif Nat.beq a b then (bif Nat.ble (c + 1) a then [(f, s_know G y c (nmin d (a - 1)))] else []) ++ (bif Nat.ble (a + 1) d then [(f, s_know G y (nmax c (a + 1)) d)] else [])
     else [(f, G)])
noncomputable def s_cond (k : Nat) (x y : SV) (G : SG) : Option (List (Bool × SG)) :=
  bif isI x && isI y then
    (let p := itv G x; let q := itv G y
    bif Nat.beq k 0 then some (s_eq x y p.1 p.2 q.1 q.2 G true false)
    else bif Nat.beq k 1 then some (s_eq x y p.1 p.2 q.1 q.2 G false true)
    else bif Nat.beq k 2 then some (s_lt x y p.1 p.2 q.1 q.2 G true false)
    else bif Nat.beq k 3 then some (s_lt x y p.1 p.2 q.1 q.2 G false true)
    else bif Nat.beq k 4 then some (s_lt y x q.1 q.2 p.1 p.2 G true false)
    else bif Nat.beq k 5 then some (s_lt y x q.1 q.2 p.1 p.2 G false true)
    else none)
  else none
noncomputable def o_nx (lv : SLV) (st : List SV) (G : SG) : Option (List SOUT) := some [.inl (none, lv, st, G)]
noncomputable def o_jp (t : Int) (lv : SLV) (st : List SV) (G : SG) : Option (List SOUT) := some [.inl (some t.toNat, lv, st, G)]
noncomputable def o_br (c : Int) (lv : SLV) (st : List SV) (l : List (Bool × SG)) : List SOUT := l.map (fun q => bif q.1 then .inl (some c.toNat, lv, st, q.2) else .inl (none, lv, st, q.2))
noncomputable def slv_rm (i : Nat) (l2 : Bool) (lv : SLV) : SLV := match lv with
  | [] => []
  | q :: r => bif Nat.beq q.1 i || ((l2 && Nat.beq q.1 (i + 1)) || (Nat.beq (q.1 + 1) i && isL q.2)) then slv_rm i l2 r else q :: slv_rm i l2 r
noncomputable def slv_put (i : Nat) (v : SV) (lv : SLV) : SLV := (i, v) :: slv_rm i (isL v) lv
noncomputable def so_len (o : SC) : Nat := match o with
  | .inl q => q.1
  | .inr l => l.length
noncomputable def set_o (k : Nat) (o : SO) (l : List SO) : List SO := l.set k o
/-- a value that was read: an int that isn't fixed gets a name, and the place where it stood keeps it -/
noncomputable def o_read (k kd : Nat) (l : List SV) (i : Nat) (lv : SLV) (r : List SV) (G : SG) : Option (List SOUT) := match l[i]? with
  | none => none
  | some v => bif fixd v then o_nx lv (v :: r) G else o_nx lv (s_name G :: r) (s_heap (s_fresh G v.2.1 v.2.2) (set_o k (kd, .inr (l.set i (s_name G))) G.1))
noncomputable def o_reads (k kd : Nat) (l : List SV) (x : SV) : Nat → Nat → SLV → List SV → SG → Option (List SOUT)
  | 0, _, _, _, _ => some []
  | n + 1, i, lv, r, G => match o_read k kd l i lv r (s_know G x (i + 2147483648) (i + 2147483648)), o_reads k kd l x n (i + 1) lv r G with
    | some a, some b => some (a ++ b)
    | _, _ => none
noncomputable def s_join (G : SG) (u v : SV) : Option SV :=
  bif veq u v && fixd u then some u
  else bif isI u && isI v then (let p := itv G u; let q := itv G v; some (0, nmin p.1 q.1, nmax p.2 q.2))
  else bif isL u && isL v then some slany else none
noncomputable def s_joins (G : SG) (v : SV) (l : List SV) : Option SV := match l with
  | [] => some v
  | u :: r => match s_join G v u with
    | some w => s_joins G w r
    | none => none
noncomputable def S_get (f : Nat) (lv : SLV) (st : List SV) (G : SG) : Option (List SOUT) := match st with
  | x :: r => bif isO x then (match (g_h G)[x.2.1]? with
    | some (kd, .inr l) => bif (fks f).contains kd then o_read x.2.1 kd l (fpos f) lv r G else none
    | _ => none) else none
  | _ => none
noncomputable def s_fit (c : Nat) (G : SG) (v : SV) : Bool := bif isI v then (Nat.beq c 0 || (Nat.beq c 2 && (let p := itv G v; Nat.ble 2147483648 p.1 && Nat.ble p.2 2147483649))) else isR v && Nat.beq c 3
noncomputable def S_put (f : Nat) (lv : SLV) (st : List SV) (G : SG) : Option (List SOUT) := match st with
  | v :: x :: r => bif isO x then (match (g_h G)[x.2.1]? with
    | some (kd, .inr l) => bif (fks f).contains kd && (Nat.ble (fpos f + 1) l.length && s_fit (dcode (fr f).2.2.1) G v) then o_nx lv r (s_heap G (set_o x.2.1 (kd, .inr (l.set (fpos f) v)) G.1)) else none
    | _ => none) else none
  | _ => none
noncomputable def S_ald (a : Nat) (lv : SLV) (st : List SV) (G : SG) : Option (List SOUT) := match st with
  | i :: x :: r => bif isI i && isO x then (match (g_h G)[x.2.1]? with
    | some (kd, o) => (let p := itv G i
      bif am_ld a kd && (Nat.ble 2147483648 p.1 && Nat.ble (p.2 + 1) (so_len o + 2147483648)) then (match o with
        | .inl q => bif fixd q.2 then o_nx lv (q.2 :: r) G else o_nx lv (s_name G :: r) (s_fresh G q.2.2.1 q.2.2.2)
        | .inr l => bif Nat.beq p.1 p.2 then o_read x.2.1 kd l (p.1 - 2147483648) lv r G else o_reads x.2.1 kd l i (p.2 - p.1 + 1) (p.1 - 2147483648) lv r G)
      else none)
    | none => none) else none
  | _ => none
noncomputable def s_stok (a kd : Nat) (G : SG) (v : SV) : Bool :=
  bif isI v then (bif Nat.beq a 0 then Nat.beq kd 20 else bif Nat.beq a 2 then Nat.beq kd 22 && (let p := itv G v; Nat.ble 2147483648 p.1 && Nat.ble p.2 2147483649) else false)
  else bif isL v then Nat.beq a 1 && Nat.beq kd 21
  else bif Nat.beq v.1 4 then Nat.beq a 4 && (Nat.beq kd 24 || (Nat.beq kd 25 || Nat.beq kd 26))
  else bif Nat.beq v.1 5 then Nat.beq a 4 && (match (g_h G)[v.2.1]? with
    | some (kv, _) => Nat.ble kv 12 && (Nat.beq kd 24 || ((Nat.beq kd 25 && Nat.beq kv 0) || (Nat.beq kd 26 && Nat.beq kv 9)))
    | none => false)
  else false
noncomputable def S_ast (a : Nat) (lv : SLV) (st : List SV) (G : SG) : Option (List SOUT) := match st with
  | v :: i :: x :: r => bif isI i && isO x then (match (g_h G)[x.2.1]? with
    | some (kd, o) => (let p := itv G i
      bif s_stok a kd G v && (Nat.ble 2147483648 p.1 && Nat.ble (p.2 + 1) (so_len o + 2147483648)) then (match o with
        | .inl q => (match s_join G q.2 v with
          | some w => bif Nat.beq w.1 1 then none else o_nx lv r (s_heap G (set_o x.2.1 (kd, .inl (q.1, w)) G.1))
          | none => none)
        | .inr l => bif Nat.beq p.1 p.2 then o_nx lv r (s_heap G (set_o x.2.1 (kd, .inr (l.set (p.1 - 2147483648) v)) G.1)) else (match s_joins G v l with
          | some w => bif Nat.beq w.1 0 || Nat.beq w.1 3 then o_nx lv r (s_heap G (set_o x.2.1 (kd, .inl (l.length, w)) G.1)) else none
          | none => none))
      else none)
    | none => none) else none
  | _ => none
noncomputable def s_cat (v : SV) : Nat := bif isL v then 2 else 1
noncomputable def S_w (st : List SV) : Nat := match st with
  | [] => 0
  | v :: r => s_cat v + S_w r
noncomputable def s_okv (v : SV) : Bool := isI v || isR v
noncomputable def S_ok (as : List SV) (M : Nat) : Bool := as.all s_okv && Nat.ble as.length (mL M)
noncomputable def S_call (i : Nat) (st : List SV) (G : SG) : Option (List SOUT) :=
  let sp := spec i
  let as := (st.take sp.2.1).reverse
  let r := st.drop sp.2.1
  bif Nat.beq as.length sp.2.1 then
    (bif Nat.beq sp.1 0 then (match sp.2.2 with
      | t :: [] => bif Nat.ble (S_w r) 8 && S_ok as t.2 then some [.inr (.inl (t.2, as, r, G))] else none
      | _ => none)
    else bif Nat.beq sp.1 1 then (match r with
      | x :: r2 => bif isO x then (match (g_h G)[x.2.1]? with
        | some (k, _) => (match sp.2.2.find? (fun t => t.1 == k) with
          | some t => bif Nat.ble (S_w r2) 8 && S_ok (x :: as) t.2 then some [.inr (.inl (t.2, x :: as, r2, G))] else none
          | none => none)
        | none => none) else none
      | _ => none)
    else none)
  else none
noncomputable def S_ret (a : Nat) (st : List SV) (G : SG) : Option (List SOUT) := match st with
  | [] => bif Nat.beq a 0 then some [.inr (.inr (none, G))] else none
  | x :: [] =>
    bif Nat.beq a 1 then (bif isI x then some [.inr (.inr (some x, G))] else none)
    else bif Nat.beq a 2 then (bif isL x then some [.inr (.inr (some x, G))] else none)
    else bif Nat.beq a 3 then (bif isR x then some [.inr (.inr (some x, G))] else none)
    else bif Nat.beq a 4 then (bif isI x && (let p := itv G x; Nat.ble 2147483648 p.1 && Nat.ble p.2 2147483649) then some [.inr (.inr (some x, G))] else none)
    else none
  | _ => none
noncomputable def S_stk (a : Nat) (lv : SLV) (st : List SV) (G : SG) : Option (List SOUT) := match st with
  | [] => none
  | v :: [] => bif s_okv v then (bif Nat.beq a 0 then o_nx lv (v :: v :: []) G else bif Nat.beq a 1 then o_nx lv [] G else none) else none
  | v :: u :: r => bif s_okv v then
    (bif Nat.beq a 0 then o_nx lv (v :: v :: u :: r) G
    else bif Nat.beq a 1 then o_nx lv (u :: r) G
    else bif s_okv u then (bif Nat.beq a 2 then o_nx lv (v :: u :: v :: r) G else bif Nat.beq a 3 then o_nx lv (v :: u :: v :: u :: r) G else none) else none) else none
noncomputable def S_null (a : Nat) (c : Int) (lv : SLV) (st : List SV) (G : SG) : Option (List SOUT) := match st with
  | x :: r => bif Nat.beq x.1 4 then (bif Nat.beq a 0 then o_jp c lv r G else bif Nat.beq a 1 then o_nx lv r G else none)
    else bif Nat.beq x.1 5 then (bif Nat.beq a 0 then o_nx lv r G else bif Nat.beq a 1 then o_jp c lv r G else none) else none
  | _ => none
/-- are two references one: 1 yes, 0 no, 2 unknown -/
noncomputable def s_same (u v : SV) : Nat :=
  bif Nat.beq u.1 4 then (bif Nat.beq v.1 4 then 1 else bif Nat.beq v.1 5 then 0 else 2)
  else bif Nat.beq u.1 5 then (bif Nat.beq v.1 4 then 0 else bif Nat.beq v.1 5 then (bif Nat.beq u.2.1 v.2.1 then 1 else bif Nat.ble 7 u.2.1 || Nat.ble 7 v.2.1 then 0 else 2) else 2)
  else 2
noncomputable def S_acmp (a : Nat) (c : Int) (lv : SLV) (st : List SV) (G : SG) : Option (List SOUT) := match st with
  | u :: v :: r => (let e := s_same u v
    bif Nat.beq e 1 then (bif Nat.beq a 0 then o_jp c lv r G else bif Nat.beq a 1 then o_nx lv r G else none)
    else bif Nat.beq e 0 then (bif Nat.beq a 0 then o_nx lv r G else bif Nat.beq a 1 then o_jp c lv r G else none)
    else none)
  | _ => none
noncomputable def sw_in (x : SV) (a b : Nat) (lv : SLV) (r : List SV) (G : SG) (i : Nat) (ts : List Nat) : List SOUT := match ts with
  | [] => []
  | t :: q => bif Nat.ble a i && Nat.ble i b then .inl (some t, lv, r, s_know G x i i) :: sw_in x a b lv r G (i + 1) q else sw_in x a b lv r G (i + 1) q
noncomputable def S_sw (a : Nat) (lv : SLV) (st : List SV) (G : SG) : Option (List SOUT) := match st with
  | x :: r => bif isI x then (match swt[a]? with
    | some (lo, hi, d, ts) => (let p := itv G x; let l := zi lo; let h := zi hi
      bif decide (-2147483648 ≤ lo) && (decide (hi < 2147483648) && (Nat.beq (h + 1) (l + ts.length) && decide (lo ≤ hi))) then
        some ((bif Nat.ble (p.1 + 1) l then [.inl (some d, lv, r, s_know G x p.1 (nmin p.2 (l - 1)))] else []) ++ ((bif Nat.ble (h + 1) p.2 then [.inl (some d, lv, r, s_know G x (nmax p.1 (h + 1)) p.2)] else []) ++ sw_in x p.1 p.2 lv r G l ts)) else none)
    | none => none) else none
  | _ => none
noncomputable def S_len (lv : SLV) (st : List SV) (G : SG) : Option (List SOUT) := match st with
  | x :: r => bif isO x then (match (g_h G)[x.2.1]? with
    | some (kd, o) => bif Nat.ble 20 kd && Nat.ble (so_len o) 2147483647 then o_nx lv (sk (so_len o + 2147483648) :: r) G else none
    | none => none) else none
  | _ => none
noncomputable def s_dv (k : Nat) : SV := bif Nat.beq k 21 then (2, 9223372036854775808, 0) else bif Nat.beq k 20 || (Nat.beq k 22 || Nat.beq k 23) then sk 2147483648 else snull
noncomputable def s_mk (G : SG) (o : SO) (n : Nat) : SG := (G.1 ++ [o], G.2.1, G.2.2.1, G.2.2.2.1, G.2.2.2.2 + n)
noncomputable def S_newa (k : Nat) (lv : SLV) (st : List SV) (G : SG) : Option (List SOUT) := match st with
  | x :: r => bif isI x then (let p := itv G x
    bif Nat.beq p.1 p.2 && (Nat.ble 2147483648 p.1 && Nat.ble p.1 2207483648) then o_nx lv (sref (g_h G).length :: r) (s_mk G (k, bif Nat.ble p.1 2147483748 then .inr (List.replicate (p.1 - 2147483648) (s_dv k)) else .inl (p.1 - 2147483648, s_dv k)) (p.1 - 2147483648)) else none) else none
  | _ => none
noncomputable def s_obj (k : Nat) : List SV := (kfl.getD k []).map (fun f => if dcode f.2.2.1 = 3 then snull else sk 2147483648)
noncomputable def S_cast (k : Nat) (lv : SLV) (st : List SV) (G : SG) : Option (List SOUT) := match st with
  | x :: r => bif isO x then (match (g_h G)[x.2.1]? with
    | some (k', _) => bif Nat.beq k' k then o_nx lv (x :: r) G else none
    | none => none) else none
  | _ => none
noncomputable def n31 (x : Nat) : Nat := x - 2147483648
noncomputable def S_acp (lv : SLV) (st : List SV) (G : SG) : Option (List SOUT) := match st with
  | n :: j :: y :: i :: x :: r => bif (isO x && isO y) && (isI n && (isI j && isI i)) then (match (g_h G)[x.2.1]?, (g_h G)[y.2.1]? with
    | some (k0, .inr xs), some (k1, .inr ys) => (let a := itv G n; let b := itv G j; let c := itv G i
      bif (Nat.beq k0 20 && Nat.beq k1 20) && (xs.all isI && ((Nat.beq a.1 a.2 && (Nat.beq b.1 b.2 && Nat.beq c.1 c.2)) && ((Nat.ble 2147483648 a.1 && (Nat.ble 2147483648 b.1 && Nat.ble 2147483648 c.1)) && ((Nat.ble (c.1 + a.1 - 4294967296) xs.length && Nat.ble (b.1 + a.1 - 4294967296) ys.length) && Nat.ble (S_w r) 8)))) then
        o_nx lv r (s_heap G (set_o y.2.1 (20, .inr (ys.take (n31 b.1) ++ ((xs.drop (n31 c.1)).take (n31 a.1) ++ ys.drop (n31 b.1 + n31 a.1)))) G.1)) else none)
    | _, _ => none) else none
  | _ => none
noncomputable def S_oinit (lv : SLV) (st : List SV) (G : SG) : Option (List SOUT) := match st with
  | x :: r => bif isO x && Nat.ble (S_w r) 8 then o_nx lv r G else none
  | _ => none
noncomputable def S_clone (lv : SLV) (st : List SV) (G : SG) : Option (List SOUT) := match st with
  | x :: r => bif isO x then (match (g_h G)[x.2.1]? with
    | some (kd, .inr l) => bif Nat.beq kd 30 && (l.all (fun v => isI v && fixd v) && Nat.ble (S_w r) 8) then o_nx lv (sref (g_h G).length :: r) (s_mk G (20, .inr l) l.length) else none
    | _ => none) else none
  | _ => none
noncomputable def s_tyc (c : Int) (v : SV) : Bool := bif decide (c = 0) then isI v else bif decide (c = 1) then isL v else bif decide (c = 2) then isR v else false
noncomputable def S_load (a : Nat) (c : Int) (lv : SLV) (st : List SV) (G : SG) : Option (List SOUT) := match s_find a lv with
  | some v => bif s_tyc c v then o_nx lv (v :: st) G else none
  | none => none
noncomputable def S_store (a : Nat) (c : Int) (lv : SLV) (st : List SV) (G : SG) : Option (List SOUT) := match st with
  | v :: r => bif s_tyc c v then o_nx (slv_put a v lv) r G else none
  | _ => none
noncomputable def S_iinc (a : Nat) (c : Int) (lv : SLV) (st : List SV) (G : SG) : Option (List SOUT) := match s_find a lv with
  | some v => (match s_bin 0 v (sk (zi c)) G with
    | some q => o_nx (slv_put a q.1 lv) st q.2
    | none => none)
  | none => none
noncomputable def S_ibin (a : Nat) (lv : SLV) (st : List SV) (G : SG) : Option (List SOUT) := match st with
  | y :: x :: r => (match s_bin a x y G with
    | some q => o_nx lv (q.1 :: r) q.2
    | none => none)
  | _ => none
noncomputable def S_lbin (a : Nat) (lv : SLV) (st : List SV) (G : SG) : Option (List SOUT) := match st with
  | y :: x :: r => bif isL x && isL y then
      (bif Nat.beq x.1 2 && Nat.beq y.1 2 then
        (bif Nat.beq a 0 then o_nx lv ((2, (x.2.1 + y.2.1 + 9223372036854775808) % 18446744073709551616, 0) :: r) G
        else bif Nat.beq a 1 then o_nx lv ((2, (x.2.1 + 27670116110564327424 - y.2.1) % 18446744073709551616, 0) :: r) G
        else bif Nat.beq a 2 then o_nx lv ((2, (x.2.1 * y.2.1 + (36893488147419103232 - x.2.1 - y.2.1) * 9223372036854775808 + 85070591730234615875067023894796828672) % 18446744073709551616, 0) :: r) G
        else none)
      else bif Nat.ble a 2 then o_nx lv (slany :: r) G else none) else none
  | _ => none
noncomputable def S_icmp (a : Nat) (c : Int) (lv : SLV) (st : List SV) (G : SG) : Option (List SOUT) := match st with
  | y :: x :: r => (match s_cond a x y G with
    | some l => some (o_br c lv r l)
    | none => none)
  | _ => none
noncomputable def S_if (a : Nat) (c : Int) (lv : SLV) (st : List SV) (G : SG) : Option (List SOUT) := match st with
  | x :: r => (match s_cond a x (sk 2147483648) G with
    | some l => some (o_br c lv r l)
    | none => none)
  | _ => none
noncomputable def S_conv (a : Nat) (lv : SLV) (st : List SV) (G : SG) : Option (List SOUT) := match st with
  | x :: r =>
    bif Nat.beq a 0 then (bif isI x then (let p := itv G x; bif Nat.beq p.1 p.2 then o_nx lv ((2, p.1 + 9223372034707292160, 0) :: r) G else o_nx lv (slany :: r) G) else none)
    else bif Nat.beq a 1 then (bif Nat.beq x.1 2 then o_nx lv (sk ((x.2.1 + 2147483648) % 4294967296) :: r) G else bif Nat.beq x.1 3 then o_nx lv (sfull :: r) G else none)
    else bif isI x then
      (bif Nat.beq a 2 then o_nx lv ((0, 2147483520, 2147483775) :: r) G
      else bif Nat.beq a 3 then o_nx lv ((0, 2147450880, 2147516415) :: r) G
      else bif Nat.beq a 4 then o_nx lv (sfull :: r) G else none) else none
  | _ => none
noncomputable def S_lcmp (lv : SLV) (st : List SV) (G : SG) : Option (List SOUT) := match st with
  | y :: x :: r => bif isL x && isL y then
      (bif Nat.beq x.1 2 && Nat.beq y.1 2 then o_nx lv (sk (bif Nat.ble (x.2.1 + 1) y.2.1 then 2147483647 else bif Nat.beq x.2.1 y.2.1 then 2147483648 else 2147483649) :: r) G
      else o_nx lv ((0, 2147483647, 2147483649) :: r) G) else none
  | _ => none
noncomputable def S_math (a : Nat) (lv : SLV) (st : List SV) (G : SG) : Option (List SOUT) := bif Nat.beq a 2 then (match st with
    | x :: r => bif isI x && Nat.ble (S_w r) 8 then (let p := itv G x; bif Nat.ble 2147483648 p.1 then o_nx lv (x :: r) G else o_nx lv (sfull :: r) G) else none
    | _ => none)
  else (match st with
    | y :: x :: r => bif (isI x && isI y) && Nat.ble (S_w r) 8 then (let p := itv G x; let q := itv G y
      bif Nat.beq a 0 then (bif Nat.ble q.2 p.1 then o_nx lv (x :: r) G else bif Nat.ble (p.2 + 1) q.1 then o_nx lv (y :: r) G else o_nx lv ((0, nmax p.1 q.1, nmax p.2 q.2) :: r) G)
      else bif Nat.beq a 1 then (bif Nat.ble p.2 q.1 then o_nx lv (x :: r) G else bif Nat.ble (q.2 + 1) p.1 then o_nx lv (y :: r) G else o_nx lv ((0, nmin p.1 q.1, nmin p.2 q.2) :: r) G)
      else none) else none
    | _ => none)
noncomputable def sstep (ai : AI) (lv : SLV) (st : List SV) (G : SG) : Option (List SOUT) := bif Nat.ble ai.1 32 then (bif Nat.ble ai.1 16 then (bif Nat.ble ai.1 8 then (bif Nat.ble ai.1 4 then (bif Nat.ble ai.1 2 then (bif Nat.ble ai.1 1 then (bif Nat.ble ai.1 0 then (o_nx lv (sk (zi ai.2.2) :: st) G) else (S_load ai.2.1 ai.2.2 lv st G)) else (S_store ai.2.1 ai.2.2 lv st G)) else (bif Nat.ble ai.1 3 then (S_iinc ai.2.1 ai.2.2 lv st G) else (S_ibin ai.2.1 lv st G))) else (bif Nat.ble ai.1 6 then (bif Nat.ble ai.1 5 then (S_icmp ai.2.1 ai.2.2 lv st G) else (S_if ai.2.1 ai.2.2 lv st G)) else (bif Nat.ble ai.1 7 then (o_jp ai.2.2 lv st G) else (S_get ai.2.1 lv st G)))) else (bif Nat.ble ai.1 12 then (bif Nat.ble ai.1 10 then (bif Nat.ble ai.1 9 then (S_put ai.2.1 lv st G) else (S_ald ai.2.1 lv st G)) else (bif Nat.ble ai.1 11 then (S_ast ai.2.1 lv st G) else (S_call ai.2.1 st G))) else (bif Nat.ble ai.1 14 then (bif Nat.ble ai.1 13 then (S_ret ai.2.1 st G) else (o_nx lv ((2, zl ai.2.2, 0) :: st) G)) else (bif Nat.ble ai.1 15 then (S_lbin ai.2.1 lv st G) else (S_conv ai.2.1 lv st G))))) else (bif Nat.ble ai.1 24 then (bif Nat.ble ai.1 20 then (bif Nat.ble ai.1 18 then (bif Nat.ble ai.1 17 then (S_lcmp lv st G) else (S_stk ai.2.1 lv st G)) else (bif Nat.ble ai.1 19 then (o_nx lv (snull :: st) G) else (S_null ai.2.1 ai.2.2 lv st G))) else (bif Nat.ble ai.1 22 then (bif Nat.ble ai.1 21 then (S_acmp ai.2.1 ai.2.2 lv st G) else (S_sw ai.2.1 lv st G)) else (bif Nat.ble ai.1 23 then (S_len lv st G) else (S_newa ai.2.1 lv st G)))) else (bif Nat.ble ai.1 28 then (bif Nat.ble ai.1 26 then (bif Nat.ble ai.1 25 then (S_newa ai.2.1 lv st G) else (o_nx lv (sref (g_h G).length :: st) (s_mk G (ai.2.1, .inr (s_obj ai.2.1)) (kNn ai.2.1)))) else (bif Nat.ble ai.1 27 then (o_nx lv (sref ai.2.1 :: st) G) else (S_cast ai.2.1 lv st G))) else (bif Nat.ble ai.1 30 then (bif Nat.ble ai.1 29 then (S_acp lv st G) else (S_oinit lv st G)) else (bif Nat.ble ai.1 31 then (S_clone lv st G) else (S_math ai.2.1 lv st G)))))) else none
noncomputable def cat2 {α : Type} (a b : Option (List α)) : Option (List α) := match a with
  | none => none
  | some x => match b with
    | none => none
    | some y => some (x ++ y)
noncomputable def jmp (t : Nat) (l : List (Nat × AI)) : List (Nat × AI) := match l with
  | [] => []
  | x :: r => bif Nat.beq x.1 t then x :: r else jmp t r
noncomputable def s_args : Nat → List SV → SLV
  | _, [] => []
  | i, v :: r => (i, v) :: s_args (i + 1) r
/-- all roads of a method: its ends -/
noncomputable def srun (w : Nat) (f : Nat) : Nat → List (Nat × AI) → SLV → List SV → SG → Option (List (Option SV × SG)) :=
  Nat.rec (fun _ _ _ _ _ => none) (fun _ ih M cd lv st G => match cd with
    | [] => none
    | (_, ai) :: tl =>
      let go : SOUT → Option (List (Option SV × SG)) := fun o => match o with
        | .inl (none, lv', st', G') => ih M tl lv' st' G'
        | .inl (some t, lv', st', G') => ih M (jmp t (codeOf M)) lv' st' G'
        | .inr (.inl (M', as, r, G')) => bif Nat.beq M' w then ih M tl lv (sref (g_h G').length :: r) (s_mk G' (21, .inl (1891, slany)) 1891) else (match ih M' (codeOf M') (s_args 0 as) [] G' with
          | none => none
          | some es => es.foldr (fun q acc => cat2 (ih M tl lv (q.1.toList ++ r) q.2) acc) (some []))
        | .inr (.inr q) => some [q]
      match sstep ai lv st G with
      | none => none
      | some [o] => go o
      | some os => os.foldr (fun o acc => cat2 (go o) acc) (some [])) f
