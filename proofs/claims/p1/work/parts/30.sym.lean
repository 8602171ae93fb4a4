/-! ===== the symbolic machine: values by intervals and names, an exact heap ===== -/
abbrev SV : Type := Nat × Int × Int
abbrev SC : Type := (Nat × SV) ⊕ List SV
abbrev SO : Type := Nat × SC
/-- heap, what is known of names, what names are made of, the next name, slots used -/
abbrev SG : Type := List SO × List (Nat × SV) × List (Nat × Nat × SV × SV) × Nat × Nat
abbrev SLV : Type := List (Nat × SV)
abbrev SOUT : Type := (Option Nat × SLV × List SV × SG) ⊕ ((Nat × List SV × List SV × SG) ⊕ (Option SV × SG))
noncomputable def sk (c : Int) : SV := (2, c, c)
noncomputable def snull : SV := (5, 0, 0)
noncomputable def sref (k : Nat) : SV := (6, (k : Int), 0)
noncomputable def g_h (G : SG) : List SO := G.1
noncomputable def g_e (G : SG) : List (Nat × SV) := G.2.1
noncomputable def g_d (G : SG) : List (Nat × Nat × SV × SV) := G.2.2.1
noncomputable def g_n (G : SG) : Nat := G.2.2.2.1
noncomputable def g_u (G : SG) : Nat := G.2.2.2.2
noncomputable def s_find (l : List (Nat × SV)) (i : Nat) : Option SV := match l with
  | [] => none
  | (j, v) :: r => if j == i then some v else s_find r i
/-- what is known of a value, its name aside -/
noncomputable def s_kn (G : SG) (v : SV) : SV := match v.1 with
  | 1 => (s_find (g_e G) v.2.1.toNat).getD (9, 0, 0)
  | _ => v
/-- 0 int, 1 long, 2 reference -/
noncomputable def s_ty (G : SG) (v : SV) : Nat := match (s_kn G v).1 with
  | 2 => 0
  | 3 => 1
  | 4 => 1
  | 5 => 2
  | 6 => 2
  | _ => 9
noncomputable def s_cat (G : SG) (v : SV) : Nat := if s_ty G v == 1 then 2 else 1
noncomputable def s_know (G : SG) (v : SV) (lo hi : Int) : SG := match v.1 with
  | 1 => (g_h G, (v.2.1.toNat, (2, lo, hi)) :: g_e G, g_d G, g_n G, g_u G)
  | _ => G
noncomputable def s_heap (G : SG) (H : List SO) : SG := (H, g_e G, g_d G, g_n G, g_u G)
noncomputable def s_fresh (G : SG) (v : SV) : SV × SG := ((1, (g_n G : Int), 0), (g_h G, (g_n G, v) :: g_e G, g_d G, g_n G + 1, g_u G))
noncomputable def imin : Int := -2147483648
noncomputable def imax : Int := 2147483647
noncomputable def inr (lo hi : Int) : Bool := decide (imin ≤ lo) && decide (hi ≤ imax)
noncomputable def nrm (c : Int) : Int := if inr c c then c else Int.bmod c 4294967296
noncomputable def lmin : Int := -9223372036854775808
noncomputable def lmax : Int := 9223372036854775807
noncomputable def nrmL (c : Int) : Int := if decide (lmin ≤ c) && decide (c ≤ lmax) then c else Int.bmod c 18446744073709551616
noncomputable def cl (lo hi : Int) : SV := if inr lo hi then (2, lo, hi) else (2, imin, imax)
/-- an int operation on constants -/
noncomputable def kbin (k : Nat) (x y : Int) : Option Int := match k with
  | 0 => some (nrm (x + y))
  | 1 => some (nrm (x - y))
  | 2 => some (nrm (x * y))
  | 3 => if y = 0 then none else some (nrm (Int.tdiv x y))
  | 4 => if y = 0 then none else some (nrm (x - Int.tdiv x y * y))
  | _ => (ibin k (Int32.ofInt x) (Int32.ofInt y)).map Int32.toInt
/-- bounds of an int operation -/
noncomputable def bnd (k : Nat) (a b c d : Int) : Option SV := match k with
  | 0 => some (cl (a + c) (b + d))
  | 1 => some (cl (a - d) (b - c))
  | 2 => if decide (0 ≤ a) && decide (0 ≤ c) then some (cl (a * c) (b * d)) else some (2, imin, imax)
  | 3 => if decide (0 < c) && decide (0 ≤ a) then some (2, 0, b) else if decide (0 < c) then some (2, imin, imax) else none
  | 4 => if decide (0 < c) && decide (0 ≤ a) then some (2, 0, d - 1) else if decide (0 < c) then some (2, imin, imax) else none
  | 5 => if decide (0 ≤ c) then some (2, 0, d) else if decide (0 ≤ a) then some (2, 0, b) else some (2, imin, imax)
  | 6 => some (2, imin, imax)
  | 7 => some (2, imin, imax)
  | 8 => some (2, imin, imax)
  | 9 => some (2, imin, imax)
  | _ => none
noncomputable def s_def (l : List (Nat × Nat × SV × SV)) (k : Nat) (x y : SV) : Option Nat := match l with
  | [] => none
  | (i, k', x', y') :: r => if k' == k && (decide (x' = x) && decide (y' = y)) then some i else s_def r k x y
noncomputable def named (v : SV) : Bool := v.1 == 1 || (v.1 == 2 && decide (v.2.1 = v.2.2))
noncomputable def s_bin (k : Nat) (x y : SV) (G : SG) : Option (SV × SG) := match s_kn G x, s_kn G y with
  | (2, a, b), (2, c, d) =>
    if decide (a = b) && decide (c = d) then (kbin k a c).map (fun r => (sk r, G))
    else if k == 0 && (decide (a = 0) && decide (b = 0)) then some (y, G)
    else if k ≤ 1 && (decide (c = 0) && decide (d = 0)) then some (x, G)
    else match bnd k a b c d with
      | none => none
      | some v => if named x && named y then match s_def (g_d G) k x y with
          | some i => some ((1, (i : Int), 0), G)
          | none => some ((1, (g_n G : Int), 0), (g_h G, (g_n G, v) :: g_e G, (g_n G, k, x, y) :: g_d G, g_n G + 1, g_u G))
        else some (v, G)
  | _, _ => none
/-- a comparison: what may come of it -/
noncomputable def s_lt (x y : SV) (a b c d : Int) (G : SG) : List (Bool × SG) :=
  (if decide (a < d) then [(true, s_know (s_know G x a (min b (d - 1))) y (max c (a + 1)) d)] else []) ++
  (if decide (c ≤ b) then [(false, s_know (s_know G x (max a c) b) y c (min d b))] else [])
noncomputable def s_eq (x y : SV) (a b c d : Int) (G : SG) : List (Bool × SG) :=
  if decide (x.1 = 1) && decide (x = y) then [(true, G)]
  else (if decide (a ≤ d) && decide (c ≤ b) then [(true, s_know (s_know G x (max a c) (min b d)) y (max a c) (min b d))] else []) ++
    (if decide (c = d) then (if decide (a < c) then [(false, s_know G x a (min b (c - 1)))] else []) ++ (if decide (c < b) then [(false, s_know G x (max a (c + 1)) b)] else [])
     else if decide (a = b) then (if decide (c < a) then [(false, s_know G y c (min d (a - 1)))] else []) ++ (if decide (a < d) then [(false, s_know G y (max c (a + 1)) d)] else [])
     else [(false, G)])
noncomputable def s_not (l : List (Bool × SG)) : List (Bool × SG) := l.map (fun q => (!q.1, q.2))
noncomputable def s_cond (k : Nat) (x y : SV) (G : SG) : Option (List (Bool × SG)) := match s_kn G x, s_kn G y with
  | (2, a, b), (2, c, d) => match k with
    | 0 => some (s_eq x y a b c d G)
    | 1 => some (s_not (s_eq x y a b c d G))
    | 2 => some (s_lt x y a b c d G)
    | 3 => some (s_not (s_lt x y a b c d G))
    | 4 => some (s_lt y x c d a b G)
    | 5 => some (s_not (s_lt y x c d a b G))
    | _ => none
  | _, _ => none
noncomputable def o_nx (lv : SLV) (st : List SV) (G : SG) : Option (List SOUT) := some [.inl (none, lv, st, G)]
noncomputable def o_jp (t : Int) (lv : SLV) (st : List SV) (G : SG) : Option (List SOUT) := some [.inl (some t.toNat, lv, st, G)]
noncomputable def o_br (c : Int) (lv : SLV) (st : List SV) (l : List (Bool × SG)) : List SOUT := l.map (fun q => if q.1 then .inl (some c.toNat, lv, st, q.2) else .inl (none, lv, st, q.2))
noncomputable def slv_put (G : SG) (i : Nat) (v : SV) (lv : SLV) : SLV := (i, v) :: lv.filter (fun q => !(q.1 == i) && (!(s_cat G v == 2 && q.1 == i + 1) && !(q.1 + 1 == i && s_cat G q.2 == 2)))
noncomputable def so_len (o : SC) : Nat := match o with
  | .inl (n, _) => n
  | .inr l => l.length
/-- a value that was read: an int that isn't known gets a name, and the place where it stood keeps it -/
noncomputable def s_named (G : SG) (v : SV) : Bool := match v.1 with
  | 2 => decide (v.2.1 = v.2.2)
  | _ => true
noncomputable def o_read (k : Nat) (kd : Nat) (l : List SV) (i : Nat) (lv : SLV) (r : List SV) (G : SG) : Option (List SOUT) := match l[i]? with
  | none => none
  | some v => if s_named G v then o_nx lv (v :: r) G else
    let f := s_fresh G v
    o_nx lv (f.1 :: r) (s_heap f.2 ((g_h G).set k (kd, .inr (l.set i f.1))))
/-- several readings, one for each place -/
noncomputable def o_reads (k : Nat) (kd : Nat) (l : List SV) (x : SV) : Nat → Nat → SLV → List SV → SG → Option (List SOUT)
  | _, 0, _, _, _ => some []
  | i, n + 1, lv, r, G => match o_read k kd l i lv r (s_know G x i i), o_reads k kd l x (i + 1) n lv r G with
    | some a, some b => some (a ++ b)
    | _, _ => none
noncomputable def s_join (G : SG) (u v : SV) : Option SV := if decide (u = v) && s_named G u then some u else match s_kn G u, s_kn G v with
  | (2, a, b), (2, c, d) => some (2, min a c, max b d)
  | (3, _, _), (3, _, _) => some (4, 0, 0)
  | (3, _, _), (4, _, _) => some (4, 0, 0)
  | (4, _, _), (3, _, _) => some (4, 0, 0)
  | (4, _, _), (4, _, _) => some (4, 0, 0)
  | _, _ => none
noncomputable def s_joins (G : SG) : SV → List SV → Option SV
  | v, [] => some v
  | v, u :: r => match s_join G v u with
    | some w => s_joins G w r
    | none => none
noncomputable def S_get (f : Nat) (lv : SLV) (st : List SV) (G : SG) : Option (List SOUT) := match st with
  | (6, k, _) :: r => match (g_h G)[k.toNat]? with
    | some (kd, .inr l) => if (fks f).contains kd then o_read k.toNat kd l (fpos f) lv r G else none
    | _ => none
  | _ => none
noncomputable def s_fit (c : Nat) (G : SG) (v : SV) : Bool := match s_kn G v with
  | (2, a, b) => c == 0 || (c == 2 && (decide (0 ≤ a) && decide (b ≤ 1)))
  | (5, _, _) => c == 3
  | (6, _, _) => c == 3
  | _ => false
noncomputable def S_put (f : Nat) (lv : SLV) (st : List SV) (G : SG) : Option (List SOUT) := match st with
  | v :: (6, k, _) :: r => match (g_h G)[k.toNat]? with
    | some (kd, .inr l) => if (fks f).contains kd && (decide (fpos f < l.length) && s_fit (dcode (fr f).2.2.1) G v) then o_nx lv r (s_heap G ((g_h G).set k.toNat (kd, .inr (l.set (fpos f) v)))) else none
    | _ => none
  | _ => none
noncomputable def S_ald (a : Nat) (lv : SLV) (st : List SV) (G : SG) : Option (List SOUT) := match st with
  | x :: (6, k, _) :: r => match s_kn G x, (g_h G)[k.toNat]? with
    | (2, lo, hi), some (kd, o) => if am_ld a kd && (decide (0 ≤ lo) && decide (hi < (so_len o : Int))) then match o with
        | .inl (_, v) => if s_named G v then o_nx lv (v :: r) G else let f := s_fresh G v; o_nx lv (f.1 :: r) f.2
        | .inr l => if decide (lo = hi) then o_read k.toNat kd l lo.toNat lv r G else o_reads k.toNat kd l x lo.toNat ((hi - lo).toNat + 1) lv r G
      else none
    | _, _ => none
  | _ => none
noncomputable def s_stok (a kd : Nat) (G : SG) (v : SV) : Bool := match a, s_kn G v with
  | 0, (2, _, _) => kd == 20
  | 1, (3, _, _) => kd == 21
  | 1, (4, _, _) => kd == 21
  | 2, (2, lo, hi) => kd == 22 && (decide (0 ≤ lo) && decide (hi ≤ 1))
  | 4, (5, _, _) => kd == 24 || (kd == 25 || kd == 26)
  | 4, (6, q, _) => match (g_h G)[q.toNat]? with
    | some (kv, _) => decide (kv < 13) && (kd == 24 || ((kd == 25 && kv == 0) || (kd == 26 && kv == 9)))
    | none => false
  | _, _ => false
noncomputable def S_ast (a : Nat) (lv : SLV) (st : List SV) (G : SG) : Option (List SOUT) := match st with
  | v :: x :: (6, k, _) :: r => match s_kn G x, (g_h G)[k.toNat]? with
    | (2, lo, hi), some (kd, o) => if s_stok a kd G v && (decide (0 ≤ lo) && decide (hi < (so_len o : Int))) then match o with
        | .inl (n, u) => match s_join G u v with
          | some w => o_nx lv r (s_heap G ((g_h G).set k.toNat (kd, .inl (n, w))))
          | none => none
        | .inr l => if decide (lo = hi) then o_nx lv r (s_heap G ((g_h G).set k.toNat (kd, .inr (l.set lo.toNat v)))) else match s_joins G v l with
          | some w => if w.1 == 2 || w.1 == 4 then o_nx lv r (s_heap G ((g_h G).set k.toNat (kd, .inl (l.length, w)))) else none
          | none => none
      else none
    | _, _ => none
  | _ => none
noncomputable def S_w (G : SG) (st : List SV) : Nat := (st.map (s_cat G)).sum
noncomputable def S_ok (G : SG) (as : List SV) (M : Nat) : Bool := as.all (fun v => s_cat G v == 1 && s_ty G v != 9) && decide (as.length ≤ mL M)
noncomputable def S_call (i : Nat) (st : List SV) (G : SG) : Option (List SOUT) :=
  let sp := spec i
  let as := (st.take sp.2.1).reverse
  let r := st.drop sp.2.1
  if as.length = sp.2.1 then
    match sp.1 with
    | 0 => match sp.2.2 with
      | [(_, M)] => if decide (S_w G r ≤ 8) && S_ok G as M then some [.inr (.inl (M, as, r, G))] else none
      | _ => none
    | 1 => match r with
      | (6, q, z) :: r2 => match (g_h G)[q.toNat]? with
        | some (k, _) => match sp.2.2.find? (fun t => t.1 == k) with
          | some (_, M) => if decide (S_w G r2 ≤ 8) && S_ok G ((6, q, z) :: as) M then some [.inr (.inl (M, (6, q, z) :: as, r2, G))] else none
          | none => none
        | none => none
      | _ => none
    | _ => none
  else none
noncomputable def S_ret (a : Nat) (st : List SV) (G : SG) : Option (List SOUT) := match a, st with
  | 0, [] => some [.inr (.inr (none, G))]
  | 1, [x] => if s_ty G x == 0 then some [.inr (.inr (some x, G))] else none
  | 2, [x] => if s_ty G x == 1 then some [.inr (.inr (some x, G))] else none
  | 3, [x] => if s_ty G x == 2 then some [.inr (.inr (some x, G))] else none
  | 4, [x] => match s_kn G x with
    | (2, lo, hi) => if decide (0 ≤ lo) && decide (hi ≤ 1) then some [.inr (.inr (some x, G))] else none
    | _ => none
  | _, _ => none
noncomputable def S_stk (a : Nat) (lv : SLV) (st : List SV) (G : SG) : Option (List SOUT) := match a, st with
  | 0, v :: r => if s_cat G v == 1 then o_nx lv (v :: v :: r) G else none
  | 1, v :: r => if s_cat G v == 1 then o_nx lv r G else none
  | 2, v :: u :: r => if s_cat G v == 1 && s_cat G u == 1 then o_nx lv (v :: u :: v :: r) G else none
  | 3, v :: u :: r => if s_cat G v == 1 && s_cat G u == 1 then o_nx lv (v :: u :: v :: u :: r) G else none
  | _, _ => none
noncomputable def S_null (a : Nat) (c : Int) (lv : SLV) (st : List SV) (G : SG) : Option (List SOUT) := match a, st with
  | 0, (5, _, _) :: r => o_jp c lv r G
  | 0, (6, _, _) :: r => o_nx lv r G
  | 1, (5, _, _) :: r => o_nx lv r G
  | 1, (6, _, _) :: r => o_jp c lv r G
  | _, _ => none
noncomputable def S_acmp (a : Nat) (c : Int) (lv : SLV) (st : List SV) (G : SG) : Option (List SOUT) := match st with
  | u :: v :: r =>
    let e : Option Bool := match u, v with
      | (5, _, _), (5, _, _) => some true
      | (5, _, _), (6, _, _) => some false
      | (6, _, _), (5, _, _) => some false
      | (6, x, _), (6, y, _) => if x = y then some true else if decide (7 ≤ x) || decide (7 ≤ y) then some false else none
      | _, _ => none
    match e, a with
    | some true, 0 => o_jp c lv r G
    | some false, 0 => o_nx lv r G
    | some true, 1 => o_nx lv r G
    | some false, 1 => o_jp c lv r G
    | _, _ => none
  | _ => none
noncomputable def sw_in (x : SV) (lo : Int) (ts : List Nat) (a b : Int) (lv : SLV) (r : List SV) (G : SG) : Int → List Nat → List SOUT
  | _, [] => []
  | i, t :: q => if decide (a ≤ i) && decide (i ≤ b) then .inl (some t, lv, r, s_know G x i i) :: sw_in x lo ts a b lv r G (i + 1) q else sw_in x lo ts a b lv r G (i + 1) q
noncomputable def S_sw (a : Nat) (lv : SLV) (st : List SV) (G : SG) : Option (List SOUT) := match st with
  | x :: r => match s_kn G x, swt[a]? with
    | (2, u, v), some (lo, hi, d, ts) => if decide (hi = lo + (ts.length : Int) - 1) then
        some ((if decide (u < lo) then [.inl (some d, lv, r, s_know G x u (min v (lo - 1)))] else []) ++ ((if decide (hi < v) then [.inl (some d, lv, r, s_know G x (max u (hi + 1)) v)] else []) ++ sw_in x lo ts u v lv r G lo ts)) else none
    | _, _ => none
  | _ => none
noncomputable def S_len (lv : SLV) (st : List SV) (G : SG) : Option (List SOUT) := match st with
  | (6, k, _) :: r => match (g_h G)[k.toNat]? with
    | some (kd, o) => if 20 ≤ kd ∧ so_len o < 2147483648 then o_nx lv (sk (so_len o) :: r) G else none
    | none => none
  | _ => none
noncomputable def s_dv (k : Nat) : SV := if k = 21 then (3, 0, 0) else if k = 20 ∨ k = 22 ∨ k = 23 then sk 0 else snull
noncomputable def s_mk (G : SG) (o : SO) (n : Nat) : SG := (g_h G ++ [o], g_e G, g_d G, g_n G, g_u G + n)
noncomputable def S_newa (k : Nat) (lv : SLV) (st : List SV) (G : SG) : Option (List SOUT) := match st with
  | x :: r => match s_kn G x with
    | (2, a, b) => if decide (a = b) && (decide (0 ≤ a) && decide (a ≤ 60000000)) then o_nx lv (sref (g_h G).length :: r) (s_mk G (k, if a ≤ 100 then .inr (List.replicate a.toNat (s_dv k)) else .inl (a.toNat, s_dv k)) a.toNat) else none
    | _ => none
  | _ => none
noncomputable def s_obj (k : Nat) : List SV := (kfl.getD k []).map (fun f => if dcode f.2.2.1 = 3 then snull else sk 0)
noncomputable def S_cast (k : Nat) (lv : SLV) (st : List SV) (G : SG) : Option (List SOUT) := match st with
  | (6, q, _) :: _ => match (g_h G)[q.toNat]? with
    | some (k', _) => if k' = k then o_nx lv st G else none
    | none => none
  | _ => none
noncomputable def S_acp (lv : SLV) (st : List SV) (G : SG) : Option (List SOUT) := match st with
  | n :: j :: (6, q1, _) :: i :: (6, q0, _) :: r => match (g_h G)[q0.toNat]?, (g_h G)[q1.toNat]?, s_kn G n, s_kn G j, s_kn G i with
    | some (k0, .inr xs), some (k1, .inr ys), (2, na, nb), (2, ja, jb), (2, ia, ib) =>
      if k0 = 20 ∧ k1 = 20 ∧ xs.all (fun v => s_ty G v == 0) = true ∧ na = nb ∧ ja = jb ∧ ia = ib ∧ 0 ≤ na ∧ 0 ≤ ja ∧ 0 ≤ ia ∧ ia + na ≤ (xs.length : Int) ∧ ja + na ≤ (ys.length : Int) ∧ S_w G r ≤ 8 then
        o_nx lv r (s_heap G ((g_h G).set q1.toNat (20, .inr (ys.take ja.toNat ++ ((xs.drop ia.toNat).take na.toNat ++ ys.drop (ja.toNat + na.toNat)))))) else none
    | _, _, _, _, _ => none
  | _ => none
noncomputable def S_oinit (lv : SLV) (st : List SV) (G : SG) : Option (List SOUT) := match st with
  | (6, _, _) :: r => if S_w G r ≤ 8 then o_nx lv r G else none
  | _ => none
noncomputable def S_clone (lv : SLV) (st : List SV) (G : SG) : Option (List SOUT) := match st with
  | (6, q, _) :: r => match (g_h G)[q.toNat]? with
    | some (30, .inr l) => if l.all (fun v => s_ty G v == 0 && s_named G v) = true ∧ S_w G r ≤ 8 then o_nx lv (sref (g_h G).length :: r) (s_mk G (20, .inr l) l.length) else none
    | _ => none
  | _ => none
noncomputable def S_load (a : Nat) (c : Int) (lv : SLV) (st : List SV) (G : SG) : Option (List SOUT) := match s_find lv a with
  | some v => if (s_ty G v : Int) = c then o_nx lv (v :: st) G else none
  | none => none
noncomputable def S_store (a : Nat) (c : Int) (lv : SLV) (st : List SV) (G : SG) : Option (List SOUT) := match st with
  | v :: r => if (s_ty G v : Int) = c then o_nx (slv_put G a v lv) r G else none
  | _ => none
noncomputable def S_iinc (a : Nat) (c : Int) (lv : SLV) (st : List SV) (G : SG) : Option (List SOUT) := match s_find lv a with
  | some v => match s_bin 0 v (sk c) G with
    | some (u, G') => o_nx (slv_put G' a u lv) st G'
    | none => none
  | none => none
noncomputable def S_ibin (a : Nat) (lv : SLV) (st : List SV) (G : SG) : Option (List SOUT) := match st with
  | y :: x :: r => match s_bin a x y G with
    | some (u, G') => o_nx lv (u :: r) G'
    | none => none
  | _ => none
noncomputable def S_lbin (a : Nat) (lv : SLV) (st : List SV) (G : SG) : Option (List SOUT) := match st with
  | y :: x :: r => match s_kn G x, s_kn G y with
    | (3, p, _), (3, q, _) => match a with
      | 0 => o_nx lv ((3, nrmL (p + q), 0) :: r) G
      | 1 => o_nx lv ((3, nrmL (p - q), 0) :: r) G
      | 2 => o_nx lv ((3, nrmL (p * q), 0) :: r) G
      | _ => none
    | u, v => if (s_ty G u == 1 && s_ty G v == 1) && decide (a < 3) then o_nx lv ((4, 0, 0) :: r) G else none
  | _ => none
noncomputable def S_icmp (a : Nat) (c : Int) (lv : SLV) (st : List SV) (G : SG) : Option (List SOUT) := match st with
  | y :: x :: r => (s_cond a x y G).map (o_br c lv r)
  | _ => none
noncomputable def S_if (a : Nat) (c : Int) (lv : SLV) (st : List SV) (G : SG) : Option (List SOUT) := match st with
  | x :: r => (s_cond a x (sk 0) G).map (o_br c lv r)
  | _ => none
noncomputable def S_conv (a : Nat) (lv : SLV) (st : List SV) (G : SG) : Option (List SOUT) := match st with
  | x :: r => match a, s_kn G x with
    | 0, (2, lo, hi) => o_nx lv ((if lo = hi then (3, lo, 0) else (4, 0, 0)) :: r) G
    | 1, (3, c, _) => o_nx lv (sk (nrm c) :: r) G
    | 1, (4, _, _) => o_nx lv ((2, imin, imax) :: r) G
    | 2, (2, _, _) => o_nx lv ((2, -128, 127) :: r) G
    | 3, (2, _, _) => o_nx lv ((2, -32768, 32767) :: r) G
    | 4, (2, lo, hi) => if lo = hi then o_nx lv (sk (nrm (-lo)) :: r) G else o_nx lv ((2, imin, imax) :: r) G
    | _, _ => none
  | _ => none
noncomputable def S_lcmp (lv : SLV) (st : List SV) (G : SG) : Option (List SOUT) := match st with
  | y :: x :: r => match s_kn G x, s_kn G y with
    | (3, p, _), (3, q, _) => o_nx lv (sk (if p < q then -1 else if p = q then 0 else 1) :: r) G
    | u, v => if s_ty G u == 1 && s_ty G v == 1 then let f := s_fresh G (2, -1, 1); o_nx lv (f.1 :: r) f.2 else none
  | _ => none
noncomputable def S_math (a : Nat) (lv : SLV) (st : List SV) (G : SG) : Option (List SOUT) := match a, st with
  | 2, x :: r => match s_kn G x with
    | (2, lo, hi) => if S_w G r ≤ 8 then (if 0 ≤ lo then o_nx lv (x :: r) G else if lo = hi then o_nx lv (sk (nrm (0 - lo)) :: r) G else o_nx lv ((2, imin, imax) :: r) G) else none
    | _ => none
  | k, y :: x :: r => match s_kn G x, s_kn G y with
    | (2, a1, b1), (2, c1, d1) => if S_w G r ≤ 8 ∧ k ≤ 1 then (if k = 0 then (if d1 ≤ a1 then o_nx lv (x :: r) G else if b1 < c1 then o_nx lv (y :: r) G else o_nx lv ((2, max a1 c1, max b1 d1) :: r) G) else (if b1 ≤ c1 then o_nx lv (x :: r) G else if d1 < a1 then o_nx lv (y :: r) G else o_nx lv ((2, min a1 c1, min b1 d1) :: r) G)) else none
    | _, _ => none
  | _, _ => none
noncomputable def sstep (ai : AI) (lv : SLV) (st : List SV) (G : SG) : Option (List SOUT) := bif Nat.ble ai.1 32 then (bif Nat.ble ai.1 16 then (bif Nat.ble ai.1 8 then (bif Nat.ble ai.1 4 then (bif Nat.ble ai.1 2 then (bif Nat.ble ai.1 1 then (bif Nat.ble ai.1 0 then (o_nx lv (sk ai.2.2 :: st) G) else (S_load ai.2.1 ai.2.2 lv st G)) else (S_store ai.2.1 ai.2.2 lv st G)) else (bif Nat.ble ai.1 3 then (S_iinc ai.2.1 ai.2.2 lv st G) else (S_ibin ai.2.1 lv st G))) else (bif Nat.ble ai.1 6 then (bif Nat.ble ai.1 5 then (S_icmp ai.2.1 ai.2.2 lv st G) else (S_if ai.2.1 ai.2.2 lv st G)) else (bif Nat.ble ai.1 7 then (o_jp ai.2.2 lv st G) else (S_get ai.2.1 lv st G)))) else (bif Nat.ble ai.1 12 then (bif Nat.ble ai.1 10 then (bif Nat.ble ai.1 9 then (S_put ai.2.1 lv st G) else (S_ald ai.2.1 lv st G)) else (bif Nat.ble ai.1 11 then (S_ast ai.2.1 lv st G) else (S_call ai.2.1 st G))) else (bif Nat.ble ai.1 14 then (bif Nat.ble ai.1 13 then (S_ret ai.2.1 st G) else (o_nx lv ((3, nrmL ai.2.2, 0) :: st) G)) else (bif Nat.ble ai.1 15 then (S_lbin ai.2.1 lv st G) else (S_conv ai.2.1 lv st G))))) else (bif Nat.ble ai.1 24 then (bif Nat.ble ai.1 20 then (bif Nat.ble ai.1 18 then (bif Nat.ble ai.1 17 then (S_lcmp lv st G) else (S_stk ai.2.1 lv st G)) else (bif Nat.ble ai.1 19 then (o_nx lv (snull :: st) G) else (S_null ai.2.1 ai.2.2 lv st G))) else (bif Nat.ble ai.1 22 then (bif Nat.ble ai.1 21 then (S_acmp ai.2.1 ai.2.2 lv st G) else (S_sw ai.2.1 lv st G)) else (bif Nat.ble ai.1 23 then (S_len lv st G) else (S_newa ai.2.1 lv st G)))) else (bif Nat.ble ai.1 28 then (bif Nat.ble ai.1 26 then (bif Nat.ble ai.1 25 then (S_newa ai.2.1 lv st G) else (o_nx lv (sref (g_h G).length :: st) (s_mk G (ai.2.1, .inr (s_obj ai.2.1)) (kNn ai.2.1)))) else (bif Nat.ble ai.1 27 then (o_nx lv (sref ai.2.1 :: st) G) else (S_cast ai.2.1 lv st G))) else (bif Nat.ble ai.1 30 then (bif Nat.ble ai.1 29 then (S_acp lv st G) else (S_oinit lv st G)) else (bif Nat.ble ai.1 31 then (S_clone lv st G) else (S_math ai.2.1 lv st G)))))) else none
noncomputable def cat2 {α : Type} (a b : Option (List α)) : Option (List α) := match a with
  | none => none
  | some x => match b with
    | none => none
    | some y => some (x ++ y)
/-- all roads of a method: its ends -/
noncomputable def srun (f : Nat) : Nat → List (Nat × AI) → SLV → List SV → SG → Option (List (Option SV × SG)) :=
  Nat.rec (fun _ _ _ _ _ => none) (fun _ ih M cd lv st G => match cd with
    | [] => none
    | (_, ai) :: tl =>
      let go : SOUT → Option (List (Option SV × SG)) := fun o => match o with
        | .inl (none, lv', st', G') => ih M tl lv' st' G'
        | .inl (some t, lv', st', G') => ih M (jump M t) lv' st' G'
        | .inr (.inl (M', as, r, G')) => match ih M' (codeOf M') (as.zipIdx.map (fun q => (q.2, q.1))) [] G' with
          | none => none
          | some es => es.foldr (fun q acc => cat2 (ih M tl lv (q.1.toList ++ r) q.2) acc) (some [])
        | .inr (.inr q) => some [q]
      match sstep ai lv st G with
      | none => none
      | some [o] => go o
      | some os => os.foldr (fun o acc => cat2 (go o) acc) (some [])) f
