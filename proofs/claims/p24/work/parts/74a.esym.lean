/-! ===== the symbolic machine: ints by bounds (moved up by 2^31) and names, an exact heap; all by numbers that the kernel counts fast ===== -/
abbrev qe_SV : Type := Nat × Nat × Nat
abbrev qe_SC : Type := (Nat × qe_SV) ⊕ List qe_SV
abbrev qe_SO : Type := Nat × qe_SC
/-- heap; what is known of names; what names are made of; the next name; slots used -/
abbrev qe_SG : Type := List qe_SO × List (Nat × Nat × Nat) × List (Nat × Nat × qe_SV × qe_SV) × Nat × Nat
abbrev qe_SLV : Type := List (Nat × qe_SV)
abbrev qe_SOUT : Type := (Option Nat × qe_SLV × List qe_SV × qe_SG) ⊕ ((Nat × List qe_SV × List qe_SV × qe_SG) ⊕ (Option qe_SV × qe_SG))
-- tags: 0 an int between two numbers, 1 a named int, 2 a long, 3 any long, 4 null, 5 an object
noncomputable def qe_zi (c : Int) : Nat := match c with
  | .ofNat n => n + 2147483648
  | .negSucc n => 2147483647 - n
noncomputable def qe_zl (c : Int) : Nat := match c with
  | .ofNat n => n + 9223372036854775808
  | .negSucc n => 9223372036854775807 - n
noncomputable def qe_sk (c : Nat) : qe_SV := (0, c, c)
noncomputable def qe_sfull : qe_SV := (0, 0, 4294967295)
noncomputable def qe_slany : qe_SV := (3, 0, 0)
noncomputable def qe_snull : qe_SV := (4, 0, 0)
noncomputable def qe_sref (k : Nat) : qe_SV := (5, k, 0)
noncomputable def qe_g_h (G : qe_SG) : List qe_SO := G.1
noncomputable def qe_g_e (G : qe_SG) : List (Nat × Nat × Nat) := G.2.1
noncomputable def qe_g_d (G : qe_SG) : List (Nat × Nat × qe_SV × qe_SV) := G.2.2.1
noncomputable def qe_g_n (G : qe_SG) : Nat := G.2.2.2.1
noncomputable def qe_g_u (G : qe_SG) : Nat := G.2.2.2.2
noncomputable def qe_s_find (i : Nat) (l : qe_SLV) : Option qe_SV := match l with
  | [] => none
  | q :: r => bif Nat.beq q.1 i then some q.2 else qe_s_find i r
noncomputable def qe_e_find (i : Nat) (l : List (Nat × Nat × Nat)) : Nat × Nat := match l with
  | [] => (0, 4294967295)
  | q :: r => bif Nat.beq q.1 i then q.2 else qe_e_find i r
noncomputable def qe_isI (v : qe_SV) : Bool := Nat.ble v.1 1
noncomputable def qe_isL (v : qe_SV) : Bool := Nat.beq v.1 2 || Nat.beq v.1 3
noncomputable def qe_isR (v : qe_SV) : Bool := Nat.beq v.1 4 || Nat.beq v.1 5
noncomputable def qe_isO (v : qe_SV) : Bool := Nat.beq v.1 5
/-- bounds of an int -/
noncomputable def qe_itv (G : qe_SG) (v : qe_SV) : Nat × Nat := bif Nat.beq v.1 0 then v.2 else qe_e_find v.2.1 (qe_g_e G)
noncomputable def qe_s_heap (G : qe_SG) (H : List qe_SO) : qe_SG := (H, G.2)
noncomputable def qe_s_know (G : qe_SG) (v : qe_SV) (lo hi : Nat) : qe_SG := bif Nat.beq v.1 1 then (G.1, (v.2.1, lo, hi) :: G.2.1, G.2.2) else G
noncomputable def qe_s_fresh (G : qe_SG) (lo hi : Nat) : qe_SG := (G.1, (G.2.2.2.1, lo, hi) :: G.2.1, G.2.2.1, G.2.2.2.1 + 1, G.2.2.2.2)
noncomputable def qe_s_name (G : qe_SG) : qe_SV := (1, G.2.2.2.1, 0)
noncomputable def qe_nmin (a b : Nat) : Nat := bif Nat.ble a b then a else b
noncomputable def qe_nmax (a b : Nat) : Nat := bif Nat.ble a b then b else a
/-- int operations on constants -/
noncomputable def qe_kbin (k a c : Nat) : Option Nat :=
  bif Nat.beq k 0 then some ((a + c + 2147483648) % 4294967296)
  else bif Nat.beq k 1 then some ((a + 6442450944 - c) % 4294967296)
  else bif Nat.beq k 2 then some ((a * c + (8589934592 - a - c) * 2147483648 + 4611686020574871552) % 4294967296)
  else bif Nat.beq k 3 then (bif Nat.beq c 2147483648 then none else some (qe_zi (ibin3 a c)))
  else bif Nat.beq k 4 then (bif Nat.beq c 2147483648 then none else some (qe_zi (ibin4 a c)))
  else bif Nat.ble k 9 then some (qe_zi (ibinz k a c)) else none
where
  ibin3 (a c : Nat) : Int := ((Int32.ofInt ((a : Int) - 2147483648)) / (Int32.ofInt ((c : Int) - 2147483648))).toInt
  ibin4 (a c : Nat) : Int := ((Int32.ofInt ((a : Int) - 2147483648)) - (Int32.ofInt ((a : Int) - 2147483648)) / (Int32.ofInt ((c : Int) - 2147483648)) * (Int32.ofInt ((c : Int) - 2147483648))).toInt
  ibinz (k a c : Nat) : Int := match ibin k (Int32.ofInt ((a : Int) - 2147483648)) (Int32.ofInt ((c : Int) - 2147483648)) with
    | some r => r.toInt
    | none => 0
/-- bounds of an int operation; a and c, b and d: least and greatest of each side -/
noncomputable def qe_bnd (k a b c d : Nat) : Option qe_SV :=
  bif Nat.beq k 0 then (bif Nat.ble 2147483648 (a + c) && Nat.ble (b + d) 6442450943 then some (0, a + c - 2147483648, b + d - 2147483648) else some qe_sfull)
  else bif Nat.beq k 1 then (bif Nat.ble d (a + 2147483648) && Nat.ble (b + 2147483648) (c + 4294967295) then some (0, a + 2147483648 - d, b + 2147483648 - c) else some qe_sfull)
  else bif Nat.beq k 2 then (bif (Nat.ble 2147483648 a && Nat.ble 2147483648 c) && Nat.ble ((b - 2147483648) * (d - 2147483648)) 2147483647 then some (0, (a - 2147483648) * (c - 2147483648) + 2147483648, (b - 2147483648) * (d - 2147483648) + 2147483648) else some qe_sfull)
  else bif Nat.beq k 3 then (bif Nat.ble 2147483649 c then (bif Nat.ble 2147483648 a then some (0, 2147483648, b) else some qe_sfull) else none)
  else bif Nat.beq k 4 then (bif Nat.ble 2147483649 c then (bif Nat.ble 2147483648 a then some (0, 2147483648, d - 1) else some qe_sfull) else none)
  else bif Nat.beq k 5 then (bif Nat.ble 2147483648 c then some (0, 2147483648, d) else bif Nat.ble 2147483648 a then some (0, 2147483648, b) else some qe_sfull)
  else bif Nat.ble k 9 then some qe_sfull else none
noncomputable def qe_veq (u v : qe_SV) : Bool := Nat.beq u.1 v.1 && (Nat.beq u.2.1 v.2.1 && Nat.beq u.2.2 v.2.2)
noncomputable def qe_s_def (l : List (Nat × Nat × qe_SV × qe_SV)) (k : Nat) (x y : qe_SV) : Option Nat := match l with
  | [] => none
  | q :: r => bif Nat.beq q.2.1 k && (qe_veq q.2.2.1 x && qe_veq q.2.2.2 y) then some q.1 else qe_s_def r k x y
noncomputable def qe_fixd (v : qe_SV) : Bool := bif Nat.beq v.1 0 then Nat.beq v.2.1 v.2.2 else true
noncomputable def qe_s_bin (k : Nat) (x y : qe_SV) (G : qe_SG) : Option (qe_SV × qe_SG) :=
  bif qe_isI x && qe_isI y then
    (let p := qe_itv G x; let q := qe_itv G y
    bif Nat.beq p.1 p.2 && Nat.beq q.1 q.2 then (match qe_kbin k p.1 q.1 with | some r => some (qe_sk r, G) | none => none)
    else bif Nat.beq k 0 && (Nat.beq p.1 2147483648 && Nat.beq p.2 2147483648) then some (y, G)
    else bif Nat.ble k 1 && (Nat.beq q.1 2147483648 && Nat.beq q.2 2147483648) then some (x, G)
    else match qe_bnd k p.1 p.2 q.1 q.2 with
      | none => none
      | some v => bif qe_fixd x && qe_fixd y then (match qe_s_def (qe_g_d G) k x y with
          | some i => some ((1, i, 0), G)
          | none => some (qe_s_name G, (G.1, (G.2.2.2.1, v.2) :: G.2.1, (G.2.2.2.1, k, x, y) :: G.2.2.1, G.2.2.2.1 + 1, G.2.2.2.2)))
        else some (v, G))
  else none
/-- what was found once of two names is kept: 100 is 'less' -/
noncomputable def qe_s_fact (G : qe_SG) (x y : qe_SV) (b : Nat) : qe_SG := bif Nat.beq x.1 1 && Nat.beq y.1 1 then (G.1, G.2.1, (b, 100, x, y) :: G.2.2.1, G.2.2.2) else G
/-- x < y: what may come of it -/
noncomputable def qe_s_ltn (x y : qe_SV) (a b c d : Nat) (G : qe_SG) (t f : Bool) : List (Bool × qe_SG) :=
  (bif Nat.ble (a + 1) d then [(t, qe_s_fact (qe_s_know (qe_s_know G x a (qe_nmin b (d - 1))) y (qe_nmax c (a + 1)) d) x y 1)] else []) ++
  (bif Nat.ble c b then [(f, qe_s_fact (qe_s_know (qe_s_know G x (qe_nmax a c) b) y c (qe_nmin d b)) x y 0)] else [])
noncomputable def qe_s_lt (x y : qe_SV) (a b c d : Nat) (G : qe_SG) (t f : Bool) : List (Bool × qe_SG) :=
  bif Nat.beq x.1 1 && Nat.beq y.1 1 then (match qe_s_def (qe_g_d G) 100 x y with
    | some e => bif Nat.beq e 1 then [(t, G)] else bif Nat.beq e 0 then [(f, G)] else qe_s_ltn x y a b c d G t f
    | none => qe_s_ltn x y a b c d G t f)
  else qe_s_ltn x y a b c d G t f
noncomputable def qe_s_eq (x y : qe_SV) (a b c d : Nat) (G : qe_SG) (t f : Bool) : List (Bool × qe_SG) :=
  bif Nat.beq x.1 1 && qe_veq x y then [(t, G)]
  else (bif Nat.ble a d && Nat.ble c b then [(t, qe_s_know (qe_s_know G x (qe_nmax a c) (qe_nmin b d)) y (qe_nmax a c) (qe_nmin b d))] else []) ++
    (bif Nat.beq c d then (bif Nat.ble (a + 1) c then [(f, qe_s_know G x a (qe_nmin b (c - 1)))] else []) ++ (bif Nat.ble (c + 1) b then [(f, qe_s_know G x (qe_nmax a (c + 1)) b)] else [])
     else bif Nat.beq a b then (bif Nat.ble (c + 1) a then [(f, qe_s_know G y c (qe_nmin d (a - 1)))] else []) ++ (bif Nat.ble (a + 1) d then [(f, qe_s_know G y (qe_nmax c (a + 1)) d)] else [])
     else [(f, G)])
noncomputable def qe_s_cond (k : Nat) (x y : qe_SV) (G : qe_SG) : Option (List (Bool × qe_SG)) :=
  bif qe_isI x && qe_isI y then
    (let p := qe_itv G x; let q := qe_itv G y
    bif Nat.beq k 0 then some (qe_s_eq x y p.1 p.2 q.1 q.2 G true false)
    else bif Nat.beq k 1 then some (qe_s_eq x y p.1 p.2 q.1 q.2 G false true)
    else bif Nat.beq k 2 then some (qe_s_lt x y p.1 p.2 q.1 q.2 G true false)
    else bif Nat.beq k 3 then some (qe_s_lt x y p.1 p.2 q.1 q.2 G false true)
    else bif Nat.beq k 4 then some (qe_s_lt y x q.1 q.2 p.1 p.2 G true false)
    else bif Nat.beq k 5 then some (qe_s_lt y x q.1 q.2 p.1 p.2 G false true)
    else none)
  else none
noncomputable def qe_o_nx (lv : qe_SLV) (st : List qe_SV) (G : qe_SG) : Option (List qe_SOUT) := some [.inl (none, lv, st, G)]
noncomputable def qe_o_jp (t : Int) (lv : qe_SLV) (st : List qe_SV) (G : qe_SG) : Option (List qe_SOUT) := some [.inl (some t.toNat, lv, st, G)]
noncomputable def qe_o_br (c : Int) (lv : qe_SLV) (st : List qe_SV) (l : List (Bool × qe_SG)) : List qe_SOUT := l.map (fun q => bif q.1 then .inl (some c.toNat, lv, st, q.2) else .inl (none, lv, st, q.2))
noncomputable def qe_slv_rm (i : Nat) (l2 : Bool) (lv : qe_SLV) : qe_SLV := match lv with
  | [] => []
  | q :: r => bif Nat.beq q.1 i || ((l2 && Nat.beq q.1 (i + 1)) || (Nat.beq (q.1 + 1) i && qe_isL q.2)) then qe_slv_rm i l2 r else q :: qe_slv_rm i l2 r
noncomputable def qe_slv_put (i : Nat) (v : qe_SV) (lv : qe_SLV) : qe_SLV := (i, v) :: qe_slv_rm i (qe_isL v) lv
noncomputable def qe_so_len (o : qe_SC) : Nat := match o with
  | .inl q => q.1
  | .inr l => l.length
noncomputable def qe_set_o (k : Nat) (o : qe_SO) (l : List qe_SO) : List qe_SO := l.set k o
/-- a value that was read: an int that isn't fixed gets a name, and the place where it stood keeps it -/
noncomputable def qe_o_read (k kd : Nat) (l : List qe_SV) (i : Nat) (lv : qe_SLV) (r : List qe_SV) (G : qe_SG) : Option (List qe_SOUT) := match l[i]? with
  | none => none
  | some v => bif qe_fixd v then qe_o_nx lv (v :: r) G else qe_o_nx lv (qe_s_name G :: r) (qe_s_heap (qe_s_fresh G v.2.1 v.2.2) (qe_set_o k (kd, .inr (l.set i (qe_s_name G))) G.1))
noncomputable def qe_o_reads (k kd : Nat) (l : List qe_SV) (x : qe_SV) : Nat → Nat → qe_SLV → List qe_SV → qe_SG → Option (List qe_SOUT)
  | 0, _, _, _, _ => some []
  | n + 1, i, lv, r, G => match qe_o_read k kd l i lv r (qe_s_know G x (i + 2147483648) (i + 2147483648)), qe_o_reads k kd l x n (i + 1) lv r G with
    | some a, some b => some (a ++ b)
    | _, _ => none
noncomputable def qe_s_join (G : qe_SG) (u v : qe_SV) : Option qe_SV :=
  bif qe_veq u v && qe_fixd u then some u
  else bif qe_isI u && qe_isI v then (let p := qe_itv G u; let q := qe_itv G v; some (0, qe_nmin p.1 q.1, qe_nmax p.2 q.2))
  else bif qe_isL u && qe_isL v then some qe_slany else none
noncomputable def qe_s_joins (G : qe_SG) (v : qe_SV) (l : List qe_SV) : Option qe_SV := match l with
  | [] => some v
  | u :: r => match qe_s_join G v u with
    | some w => qe_s_joins G w r
    | none => none
noncomputable def qe_S_get (f : Nat) (lv : qe_SLV) (st : List qe_SV) (G : qe_SG) : Option (List qe_SOUT) := match st with
  | x :: r => bif qe_isO x then (match (qe_g_h G)[x.2.1]? with
    | some (kd, .inr l) => bif (fks f).contains kd then qe_o_read x.2.1 kd l (fpos f) lv r G else none
    | _ => none) else none
  | _ => none
noncomputable def qe_s_fit (c : Nat) (G : qe_SG) (v : qe_SV) : Bool := bif qe_isI v then (Nat.beq c 0 || (Nat.beq c 2 && (let p := qe_itv G v; Nat.ble 2147483648 p.1 && Nat.ble p.2 2147483649))) else qe_isR v && Nat.beq c 3
noncomputable def qe_S_put (f : Nat) (lv : qe_SLV) (st : List qe_SV) (G : qe_SG) : Option (List qe_SOUT) := match st with
  | v :: x :: r => bif qe_isO x then (match (qe_g_h G)[x.2.1]? with
    | some (kd, .inr l) => bif (fks f).contains kd && (Nat.ble (fpos f + 1) l.length && qe_s_fit (dcode (fr f).2.2.1) G v) then qe_o_nx lv r (qe_s_heap G (qe_set_o x.2.1 (kd, .inr (l.set (fpos f) v)) G.1)) else none
    | _ => none) else none
  | _ => none
noncomputable def qe_S_ald (a : Nat) (lv : qe_SLV) (st : List qe_SV) (G : qe_SG) : Option (List qe_SOUT) := match st with
  | i :: x :: r => bif qe_isI i && qe_isO x then (match (qe_g_h G)[x.2.1]? with
    | some (kd, o) => (let p := qe_itv G i
      bif am_ld a kd && (Nat.ble 2147483648 p.1 && Nat.ble (p.2 + 1) (qe_so_len o + 2147483648)) then (match o with
        | .inl q => bif qe_fixd q.2 then qe_o_nx lv (q.2 :: r) G else qe_o_nx lv (qe_s_name G :: r) (qe_s_fresh G q.2.2.1 q.2.2.2)
        | .inr l => bif Nat.beq p.1 p.2 then qe_o_read x.2.1 kd l (p.1 - 2147483648) lv r G else qe_o_reads x.2.1 kd l i (p.2 - p.1 + 1) (p.1 - 2147483648) lv r G)
      else none)
    | none => none) else none
  | _ => none
noncomputable def qe_s_stok (a kd : Nat) (G : qe_SG) (v : qe_SV) : Bool :=
  bif qe_isI v then (bif Nat.beq a 0 then Nat.beq kd 20 else bif Nat.beq a 2 then Nat.beq kd 22 && (let p := qe_itv G v; Nat.ble 2147483648 p.1 && Nat.ble p.2 2147483649) else false)
  else bif qe_isL v then Nat.beq a 1 && Nat.beq kd 21
  else bif Nat.beq v.1 4 then Nat.beq a 4 && (Nat.beq kd 24 || (Nat.beq kd 25 || Nat.beq kd 26))
  else bif Nat.beq v.1 5 then Nat.beq a 4 && (match (qe_g_h G)[v.2.1]? with
    | some (kv, _) => Nat.ble kv 12 && (Nat.beq kd 24 || ((Nat.beq kd 25 && Nat.beq kv 0) || (Nat.beq kd 26 && Nat.beq kv 9)))
    | none => false)
  else false
noncomputable def qe_S_ast (a : Nat) (lv : qe_SLV) (st : List qe_SV) (G : qe_SG) : Option (List qe_SOUT) := match st with
  | v :: i :: x :: r => bif qe_isI i && qe_isO x then (match (qe_g_h G)[x.2.1]? with
    | some (kd, o) => (let p := qe_itv G i
      bif qe_s_stok a kd G v && (Nat.ble 2147483648 p.1 && Nat.ble (p.2 + 1) (qe_so_len o + 2147483648)) then (match o with
        | .inl q => (match qe_s_join G q.2 v with
          | some w => bif Nat.beq w.1 1 then none else qe_o_nx lv r (qe_s_heap G (qe_set_o x.2.1 (kd, .inl (q.1, w)) G.1))
          | none => none)
        | .inr l => bif Nat.beq p.1 p.2 then qe_o_nx lv r (qe_s_heap G (qe_set_o x.2.1 (kd, .inr (l.set (p.1 - 2147483648) v)) G.1)) else (match qe_s_joins G v l with
          | some w => bif Nat.beq w.1 0 || Nat.beq w.1 3 then qe_o_nx lv r (qe_s_heap G (qe_set_o x.2.1 (kd, .inl (l.length, w)) G.1)) else none
          | none => none))
      else none)
    | none => none) else none
  | _ => none
noncomputable def qe_s_cat (v : qe_SV) : Nat := bif qe_isL v then 2 else 1
noncomputable def qe_S_w (st : List qe_SV) : Nat := match st with
  | [] => 0
  | v :: r => qe_s_cat v + qe_S_w r
noncomputable def qe_s_okv (v : qe_SV) : Bool := qe_isI v || qe_isR v
noncomputable def qe_S_ok (as : List qe_SV) (M : Nat) : Bool := as.all qe_s_okv && Nat.ble as.length (mL M)
noncomputable def qe_S_call (i : Nat) (st : List qe_SV) (G : qe_SG) : Option (List qe_SOUT) :=
  let sp := spec i
  let as := (st.take sp.2.1).reverse
  let r := st.drop sp.2.1
  bif Nat.beq as.length sp.2.1 then
    (bif Nat.beq sp.1 0 then (match sp.2.2 with
      | t :: [] => bif Nat.ble (qe_S_w r) 8 && qe_S_ok as t.2 then some [.inr (.inl (t.2, as, r, G))] else none
      | _ => none)
    else bif Nat.beq sp.1 1 then (match r with
      | x :: r2 => bif qe_isO x then (match (qe_g_h G)[x.2.1]? with
        | some (k, _) => (match sp.2.2.find? (fun t => t.1 == k) with
          | some t => bif Nat.ble (qe_S_w r2) 8 && qe_S_ok (x :: as) t.2 then some [.inr (.inl (t.2, x :: as, r2, G))] else none
          | none => none)
        | none => none) else none
      | _ => none)
    else none)
  else none
noncomputable def qe_S_ret (a : Nat) (st : List qe_SV) (G : qe_SG) : Option (List qe_SOUT) := match st with
  | [] => bif Nat.beq a 0 then some [.inr (.inr (none, G))] else none
  | x :: [] =>
    bif Nat.beq a 1 then (bif qe_isI x then some [.inr (.inr (some x, G))] else none)
    else bif Nat.beq a 2 then (bif qe_isL x then some [.inr (.inr (some x, G))] else none)
    else bif Nat.beq a 3 then (bif qe_isR x then some [.inr (.inr (some x, G))] else none)
    else bif Nat.beq a 4 then (bif qe_isI x && (let p := qe_itv G x; Nat.ble 2147483648 p.1 && Nat.ble p.2 2147483649) then some [.inr (.inr (some x, G))] else none)
    else none
  | _ => none
noncomputable def qe_S_stk (a : Nat) (lv : qe_SLV) (st : List qe_SV) (G : qe_SG) : Option (List qe_SOUT) := match st with
  | [] => none
  | v :: [] => bif qe_s_okv v then (bif Nat.beq a 0 then qe_o_nx lv (v :: v :: []) G else bif Nat.beq a 1 then qe_o_nx lv [] G else none) else none
  | v :: u :: r => bif qe_s_okv v then
    (bif Nat.beq a 0 then qe_o_nx lv (v :: v :: u :: r) G
    else bif Nat.beq a 1 then qe_o_nx lv (u :: r) G
    else bif qe_s_okv u then (bif Nat.beq a 2 then qe_o_nx lv (v :: u :: v :: r) G else bif Nat.beq a 3 then qe_o_nx lv (v :: u :: v :: u :: r) G else none) else none) else none
noncomputable def qe_S_null (a : Nat) (c : Int) (lv : qe_SLV) (st : List qe_SV) (G : qe_SG) : Option (List qe_SOUT) := match st with
  | x :: r => bif Nat.beq x.1 4 then (bif Nat.beq a 0 then qe_o_jp c lv r G else bif Nat.beq a 1 then qe_o_nx lv r G else none)
    else bif Nat.beq x.1 5 then (bif Nat.beq a 0 then qe_o_nx lv r G else bif Nat.beq a 1 then qe_o_jp c lv r G else none) else none
  | _ => none
/-- are two references one: 1 yes, 0 no, 2 unknown -/
noncomputable def qe_s_same (u v : qe_SV) : Nat :=
  bif Nat.beq u.1 4 then (bif Nat.beq v.1 4 then 1 else bif Nat.beq v.1 5 then 0 else 2)
  else bif Nat.beq u.1 5 then (bif Nat.beq v.1 4 then 0 else bif Nat.beq v.1 5 then (bif Nat.beq u.2.1 v.2.1 then 1 else bif Nat.ble 7 u.2.1 || Nat.ble 7 v.2.1 then 0 else 2) else 2)
  else 2
noncomputable def qe_S_acmp (a : Nat) (c : Int) (lv : qe_SLV) (st : List qe_SV) (G : qe_SG) : Option (List qe_SOUT) := match st with
  | u :: v :: r => (let e := qe_s_same u v
    bif Nat.beq e 1 then (bif Nat.beq a 0 then qe_o_jp c lv r G else bif Nat.beq a 1 then qe_o_nx lv r G else none)
    else bif Nat.beq e 0 then (bif Nat.beq a 0 then qe_o_nx lv r G else bif Nat.beq a 1 then qe_o_jp c lv r G else none)
    else none)
  | _ => none
noncomputable def qe_sw_in (x : qe_SV) (a b : Nat) (lv : qe_SLV) (r : List qe_SV) (G : qe_SG) (i : Nat) (ts : List Nat) : List qe_SOUT := match ts with
  | [] => []
  | t :: q => bif Nat.ble a i && Nat.ble i b then .inl (some t, lv, r, qe_s_know G x i i) :: qe_sw_in x a b lv r G (i + 1) q else qe_sw_in x a b lv r G (i + 1) q
noncomputable def qe_S_sw (a : Nat) (lv : qe_SLV) (st : List qe_SV) (G : qe_SG) : Option (List qe_SOUT) := match st with
  | x :: r => bif qe_isI x then (match swt[a]? with
    | some (lo, hi, d, ts) => (let p := qe_itv G x; let l := qe_zi lo; let h := qe_zi hi
      bif decide (-2147483648 ≤ lo) && (decide (hi < 2147483648) && (Nat.beq (h + 1) (l + ts.length) && decide (lo ≤ hi))) then
        some ((bif Nat.ble (p.1 + 1) l then [.inl (some d, lv, r, qe_s_know G x p.1 (qe_nmin p.2 (l - 1)))] else []) ++ ((bif Nat.ble (h + 1) p.2 then [.inl (some d, lv, r, qe_s_know G x (qe_nmax p.1 (h + 1)) p.2)] else []) ++ qe_sw_in x p.1 p.2 lv r G l ts)) else none)
    | none => none) else none
  | _ => none
noncomputable def qe_S_len (lv : qe_SLV) (st : List qe_SV) (G : qe_SG) : Option (List qe_SOUT) := match st with
  | x :: r => bif qe_isO x then (match (qe_g_h G)[x.2.1]? with
    | some (kd, o) => bif Nat.ble 20 kd && Nat.ble (qe_so_len o) 2147483647 then qe_o_nx lv (qe_sk (qe_so_len o + 2147483648) :: r) G else none
    | none => none) else none
  | _ => none
noncomputable def qe_s_dv (k : Nat) : qe_SV := bif Nat.beq k 21 then (2, 9223372036854775808, 0) else bif Nat.beq k 20 || (Nat.beq k 22 || Nat.beq k 23) then qe_sk 2147483648 else qe_snull
noncomputable def qe_s_mk (G : qe_SG) (o : qe_SO) (n : Nat) : qe_SG := (G.1 ++ [o], G.2.1, G.2.2.1, G.2.2.2.1, G.2.2.2.2 + n)
noncomputable def qe_S_newa (k : Nat) (lv : qe_SLV) (st : List qe_SV) (G : qe_SG) : Option (List qe_SOUT) := match st with
  | x :: r => bif qe_isI x then (let p := qe_itv G x
    bif Nat.beq p.1 p.2 && (Nat.ble 2147483648 p.1 && Nat.ble p.1 2207483648) then qe_o_nx lv (qe_sref (qe_g_h G).length :: r) (qe_s_mk G (k, bif Nat.ble p.1 2147483748 then .inr (List.replicate (p.1 - 2147483648) (qe_s_dv k)) else .inl (p.1 - 2147483648, qe_s_dv k)) (p.1 - 2147483648)) else none) else none
  | _ => none
noncomputable def qe_s_obj (k : Nat) : List qe_SV := (kfl.getD k []).map (fun f => if dcode f.2.2.1 = 3 then qe_snull else qe_sk 2147483648)
noncomputable def qe_S_cast (k : Nat) (lv : qe_SLV) (st : List qe_SV) (G : qe_SG) : Option (List qe_SOUT) := match st with
  | x :: r => bif qe_isO x then (match (qe_g_h G)[x.2.1]? with
    | some (k', _) => bif Nat.beq k' k then qe_o_nx lv (x :: r) G else none
    | none => none) else none
  | _ => none
noncomputable def qe_n31 (x : Nat) : Nat := x - 2147483648
noncomputable def qe_S_acp (lv : qe_SLV) (st : List qe_SV) (G : qe_SG) : Option (List qe_SOUT) := match st with
  | n :: j :: y :: i :: x :: r => bif (qe_isO x && qe_isO y) && (qe_isI n && (qe_isI j && qe_isI i)) then (match (qe_g_h G)[x.2.1]?, (qe_g_h G)[y.2.1]? with
    | some (k0, .inr xs), some (k1, .inr ys) => (let a := qe_itv G n; let b := qe_itv G j; let c := qe_itv G i
      bif (Nat.beq k0 20 && Nat.beq k1 20) && (xs.all qe_isI && ((Nat.beq a.1 a.2 && (Nat.beq b.1 b.2 && Nat.beq c.1 c.2)) && ((Nat.ble 2147483648 a.1 && (Nat.ble 2147483648 b.1 && Nat.ble 2147483648 c.1)) && ((Nat.ble (c.1 + a.1 - 4294967296) xs.length && Nat.ble (b.1 + a.1 - 4294967296) ys.length) && Nat.ble (qe_S_w r) 8)))) then
        qe_o_nx lv r (qe_s_heap G (qe_set_o y.2.1 (20, .inr (ys.take (qe_n31 b.1) ++ ((xs.drop (qe_n31 c.1)).take (qe_n31 a.1) ++ ys.drop (qe_n31 b.1 + qe_n31 a.1)))) G.1)) else none)
    | _, _ => none) else none
  | _ => none
noncomputable def qe_S_oinit (lv : qe_SLV) (st : List qe_SV) (G : qe_SG) : Option (List qe_SOUT) := match st with
  | x :: r => bif qe_isO x && Nat.ble (qe_S_w r) 8 then qe_o_nx lv r G else none
  | _ => none
noncomputable def qe_S_clone (lv : qe_SLV) (st : List qe_SV) (G : qe_SG) : Option (List qe_SOUT) := match st with
  | x :: r => bif qe_isO x then (match (qe_g_h G)[x.2.1]? with
    | some (kd, .inr l) => bif Nat.beq kd 30 && (l.all (fun v => qe_isI v && qe_fixd v) && Nat.ble (qe_S_w r) 8) then qe_o_nx lv (qe_sref (qe_g_h G).length :: r) (qe_s_mk G (20, .inr l) l.length) else none
    | _ => none) else none
  | _ => none
noncomputable def qe_s_tyc (c : Int) (v : qe_SV) : Bool := bif decide (c = 0) then qe_isI v else bif decide (c = 1) then qe_isL v else bif decide (c = 2) then qe_isR v else false
noncomputable def qe_S_load (a : Nat) (c : Int) (lv : qe_SLV) (st : List qe_SV) (G : qe_SG) : Option (List qe_SOUT) := match qe_s_find a lv with
  | some v => bif qe_s_tyc c v then qe_o_nx lv (v :: st) G else none
  | none => none
noncomputable def qe_S_store (a : Nat) (c : Int) (lv : qe_SLV) (st : List qe_SV) (G : qe_SG) : Option (List qe_SOUT) := match st with
  | v :: r => bif qe_s_tyc c v then qe_o_nx (qe_slv_put a v lv) r G else none
  | _ => none
noncomputable def qe_S_iinc (a : Nat) (c : Int) (lv : qe_SLV) (st : List qe_SV) (G : qe_SG) : Option (List qe_SOUT) := match qe_s_find a lv with
  | some v => (match qe_s_bin 0 v (qe_sk (qe_zi c)) G with
    | some q => qe_o_nx (qe_slv_put a q.1 lv) st q.2
    | none => none)
  | none => none
noncomputable def qe_S_ibin (a : Nat) (lv : qe_SLV) (st : List qe_SV) (G : qe_SG) : Option (List qe_SOUT) := match st with
  | y :: x :: r => (match qe_s_bin a x y G with
    | some q => qe_o_nx lv (q.1 :: r) q.2
    | none => none)
  | _ => none
noncomputable def qe_S_lbin (a : Nat) (lv : qe_SLV) (st : List qe_SV) (G : qe_SG) : Option (List qe_SOUT) := match st with
  | y :: x :: r => bif qe_isL x && qe_isL y then
      (bif Nat.beq x.1 2 && Nat.beq y.1 2 then
        (bif Nat.beq a 0 then qe_o_nx lv ((2, (x.2.1 + y.2.1 + 9223372036854775808) % 18446744073709551616, 0) :: r) G
        else bif Nat.beq a 1 then qe_o_nx lv ((2, (x.2.1 + 27670116110564327424 - y.2.1) % 18446744073709551616, 0) :: r) G
        else bif Nat.beq a 2 then qe_o_nx lv ((2, (x.2.1 * y.2.1 + (36893488147419103232 - x.2.1 - y.2.1) * 9223372036854775808 + 85070591730234615875067023894796828672) % 18446744073709551616, 0) :: r) G
        else none)
      else bif Nat.ble a 2 then qe_o_nx lv (qe_slany :: r) G else none) else none
  | _ => none
noncomputable def qe_S_icmp (a : Nat) (c : Int) (lv : qe_SLV) (st : List qe_SV) (G : qe_SG) : Option (List qe_SOUT) := match st with
  | y :: x :: r => (match qe_s_cond a x y G with
    | some l => some (qe_o_br c lv r l)
    | none => none)
  | _ => none
noncomputable def qe_S_if (a : Nat) (c : Int) (lv : qe_SLV) (st : List qe_SV) (G : qe_SG) : Option (List qe_SOUT) := match st with
  | x :: r => (match qe_s_cond a x (qe_sk 2147483648) G with
    | some l => some (qe_o_br c lv r l)
    | none => none)
  | _ => none
noncomputable def qe_S_conv (a : Nat) (lv : qe_SLV) (st : List qe_SV) (G : qe_SG) : Option (List qe_SOUT) := match st with
  | x :: r =>
    bif Nat.beq a 0 then (bif qe_isI x then (let p := qe_itv G x; bif Nat.beq p.1 p.2 then qe_o_nx lv ((2, p.1 + 9223372034707292160, 0) :: r) G else qe_o_nx lv (qe_slany :: r) G) else none)
    else bif Nat.beq a 1 then (bif Nat.beq x.1 2 then qe_o_nx lv (qe_sk ((x.2.1 + 2147483648) % 4294967296) :: r) G else bif Nat.beq x.1 3 then qe_o_nx lv (qe_sfull :: r) G else none)
    else bif qe_isI x then
      (bif Nat.beq a 2 then qe_o_nx lv ((0, 2147483520, 2147483775) :: r) G
      else bif Nat.beq a 3 then qe_o_nx lv ((0, 2147450880, 2147516415) :: r) G
      else bif Nat.beq a 4 then qe_o_nx lv (qe_sfull :: r) G else none) else none
  | _ => none
noncomputable def qe_S_lcmp (lv : qe_SLV) (st : List qe_SV) (G : qe_SG) : Option (List qe_SOUT) := match st with
  | y :: x :: r => bif qe_isL x && qe_isL y then
      (bif Nat.beq x.1 2 && Nat.beq y.1 2 then qe_o_nx lv (qe_sk (bif Nat.ble (x.2.1 + 1) y.2.1 then 2147483647 else bif Nat.beq x.2.1 y.2.1 then 2147483648 else 2147483649) :: r) G
      else qe_o_nx lv ((0, 2147483647, 2147483649) :: r) G) else none
  | _ => none
noncomputable def qe_S_math (a : Nat) (lv : qe_SLV) (st : List qe_SV) (G : qe_SG) : Option (List qe_SOUT) := bif Nat.beq a 2 then (match st with
    | x :: r => bif qe_isI x && Nat.ble (qe_S_w r) 8 then (let p := qe_itv G x; bif Nat.ble 2147483648 p.1 then qe_o_nx lv (x :: r) G else qe_o_nx lv (qe_sfull :: r) G) else none
    | _ => none)
  else (match st with
    | y :: x :: r => bif (qe_isI x && qe_isI y) && Nat.ble (qe_S_w r) 8 then (let p := qe_itv G x; let q := qe_itv G y
      bif Nat.beq a 0 then (bif Nat.ble q.2 p.1 then qe_o_nx lv (x :: r) G else bif Nat.ble (p.2 + 1) q.1 then qe_o_nx lv (y :: r) G else qe_o_nx lv ((0, qe_nmax p.1 q.1, qe_nmax p.2 q.2) :: r) G)
      else bif Nat.beq a 1 then (bif Nat.ble p.2 q.1 then qe_o_nx lv (x :: r) G else bif Nat.ble (q.2 + 1) p.1 then qe_o_nx lv (y :: r) G else qe_o_nx lv ((0, qe_nmin p.1 q.1, qe_nmin p.2 q.2) :: r) G)
      else none) else none
    | _ => none)
noncomputable def qe_sstep (ai : AI) (lv : qe_SLV) (st : List qe_SV) (G : qe_SG) : Option (List qe_SOUT) := bif Nat.ble ai.1 32 then (bif Nat.ble ai.1 16 then (bif Nat.ble ai.1 8 then (bif Nat.ble ai.1 4 then (bif Nat.ble ai.1 2 then (bif Nat.ble ai.1 1 then (bif Nat.ble ai.1 0 then (qe_o_nx lv (qe_sk (qe_zi ai.2.2) :: st) G) else (qe_S_load ai.2.1 ai.2.2 lv st G)) else (qe_S_store ai.2.1 ai.2.2 lv st G)) else (bif Nat.ble ai.1 3 then (qe_S_iinc ai.2.1 ai.2.2 lv st G) else (qe_S_ibin ai.2.1 lv st G))) else (bif Nat.ble ai.1 6 then (bif Nat.ble ai.1 5 then (qe_S_icmp ai.2.1 ai.2.2 lv st G) else (qe_S_if ai.2.1 ai.2.2 lv st G)) else (bif Nat.ble ai.1 7 then (qe_o_jp ai.2.2 lv st G) else (qe_S_get ai.2.1 lv st G)))) else (bif Nat.ble ai.1 12 then (bif Nat.ble ai.1 10 then (bif Nat.ble ai.1 9 then (qe_S_put ai.2.1 lv st G) else (qe_S_ald ai.2.1 lv st G)) else (bif Nat.ble ai.1 11 then (qe_S_ast ai.2.1 lv st G) else (qe_S_call ai.2.1 st G))) else (bif Nat.ble ai.1 14 then (bif Nat.ble ai.1 13 then (qe_S_ret ai.2.1 st G) else (qe_o_nx lv ((2, qe_zl ai.2.2, 0) :: st) G)) else (bif Nat.ble ai.1 15 then (qe_S_lbin ai.2.1 lv st G) else (qe_S_conv ai.2.1 lv st G))))) else (bif Nat.ble ai.1 24 then (bif Nat.ble ai.1 20 then (bif Nat.ble ai.1 18 then (bif Nat.ble ai.1 17 then (qe_S_lcmp lv st G) else (qe_S_stk ai.2.1 lv st G)) else (bif Nat.ble ai.1 19 then (qe_o_nx lv (qe_snull :: st) G) else (qe_S_null ai.2.1 ai.2.2 lv st G))) else (bif Nat.ble ai.1 22 then (bif Nat.ble ai.1 21 then (qe_S_acmp ai.2.1 ai.2.2 lv st G) else (qe_S_sw ai.2.1 lv st G)) else (bif Nat.ble ai.1 23 then (qe_S_len lv st G) else (qe_S_newa ai.2.1 lv st G)))) else (bif Nat.ble ai.1 28 then (bif Nat.ble ai.1 26 then (bif Nat.ble ai.1 25 then (qe_S_newa ai.2.1 lv st G) else (qe_o_nx lv (qe_sref (qe_g_h G).length :: st) (qe_s_mk G (ai.2.1, .inr (qe_s_obj ai.2.1)) (kNn ai.2.1)))) else (bif Nat.ble ai.1 27 then (qe_o_nx lv (qe_sref ai.2.1 :: st) G) else (qe_S_cast ai.2.1 lv st G))) else (bif Nat.ble ai.1 30 then (bif Nat.ble ai.1 29 then (qe_S_acp lv st G) else (qe_S_oinit lv st G)) else (bif Nat.ble ai.1 31 then (qe_S_clone lv st G) else (qe_S_math ai.2.1 lv st G)))))) else none
noncomputable def qe_cat2 {α : Type} (a b : Option (List α)) : Option (List α) := match a with
  | none => none
  | some x => match b with
    | none => none
    | some y => some (x ++ y)
noncomputable def qe_jmp (t : Nat) (l : List (Nat × AI)) : List (Nat × AI) := match l with
  | [] => []
  | x :: r => bif Nat.beq x.1 t then x :: r else qe_jmp t r
noncomputable def qe_s_args : Nat → List qe_SV → qe_SLV
  | _, [] => []
  | i, v :: r => (i, v) :: qe_s_args (i + 1) r
/-- all roads of a method: its ends -/
noncomputable def qe_srun (w : Nat) (f : Nat) : Nat → List (Nat × AI) → qe_SLV → List qe_SV → qe_SG → Option (List (Option qe_SV × qe_SG)) :=
  Nat.rec (fun _ _ _ _ _ => none) (fun _ ih M cd lv st G => match cd with
    | [] => none
    | (_, ai) :: tl =>
      let go : qe_SOUT → Option (List (Option qe_SV × qe_SG)) := fun o => match o with
        | .inl (none, lv', st', G') => ih M tl lv' st' G'
        | .inl (some t, lv', st', G') => ih M (qe_jmp t (codeOf M)) lv' st' G'
        | .inr (.inl (M', as, r, G')) => bif Nat.beq M' w then ih M tl lv (qe_sref (qe_g_h G').length :: r) (qe_s_mk G' (21, .inl (1891, qe_slany)) 1891) else (match ih M' (codeOf M') (qe_s_args 0 as) [] G' with
          | none => none
          | some es => es.foldr (fun q acc => qe_cat2 (ih M tl lv (q.1.toList ++ r) q.2) acc) (some []))
        | .inr (.inr q) => some [q]
      match qe_sstep ai lv st G with
      | none => none
      | some [o] => go o
      | some os => os.foldr (fun o acc => qe_cat2 (go o) acc) (some [])) f
