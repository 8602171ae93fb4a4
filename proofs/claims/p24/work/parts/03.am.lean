/-! ===== the plain machine: what an instruction does to locals, stack and a plain heap ===== -/
abbrev ACT : Type := (Option Nat × LV × List Value × AH) ⊕ ((Nat × List Value × List Value) ⊕ Option Value)
noncomputable def nx (lv : LV) (st : List Value) (h : AH) : Option ACT := some (.inl (none, lv, st, h))
noncomputable def jp (t : Int) (lv : LV) (st : List Value) (h : AH) : Option ACT := some (.inl (some t.toNat, lv, st, h))
noncomputable def am_ty (c : Int) (v : Value) : Bool := match v with
  | .int _ => c == 0
  | .long _ => c == 1
  | .ref _ => c == 2
  | .null => c == 2
  | _ => false
noncomputable def lv_get (i : Nat) (lv : LV) : Option Value := (lv.find? (fun q => q.1 == i)).map Prod.snd
noncomputable def lv_put (i : Nat) (v : Value) (lv : LV) : LV := (i, v) :: lv.filter (fun q => !(q.1 == i) && (!(v.category == 2 && q.1 == i + 1) && !(q.1 + 1 == i && q.2.category == 2)))
noncomputable def ibin (k : Nat) (x y : Int32) : Option Int32 := match k with
  | 0 => some (x + y)
  | 1 => some (x - y)
  | 2 => some (x * y)
  | 3 => if y = 0 then none else some (x / y)
  | 4 => if y = 0 then none else some (x - x / y * y)
  | 5 => some (x &&& y)
  | 6 => some (x ||| y)
  | 7 => some (x ^^^ y)
  | 8 => some (x <<< (y &&& 31))
  | 9 => some (x >>> (y &&& 31))
  | _ => none
noncomputable def lbin (k : Nat) (x y : Int64) : Option Int64 := match k with
  | 0 => some (x + y)
  | 1 => some (x - y)
  | 2 => some (x * y)
  | 3 => if y = 0 then none else some (x / y)
  | _ => none
noncomputable def icond (k : Nat) (x y : Int32) : Option Bool := match k with
  | 0 => some (decide (x = y))
  | 1 => some (decide (¬ x = y))
  | 2 => some (decide (x < y))
  | 3 => some (decide (y ≤ x))
  | 4 => some (decide (y < x))
  | 5 => some (decide (x ≤ y))
  | _ => none
noncomputable def conv (k : Nat) (v : Value) : Option Value := match k, v with
  | 0, .int x => some (.long x.toInt64)
  | 1, .long x => some (.int x.toInt32)
  | 2, .int x => some (.int x.toInt8.toInt32)
  | 3, .int x => some (.int x.toInt16.toInt32)
  | 4, .int x => some (.int (-x))
  | _, _ => none
noncomputable def am_new (k : Nat) : List Value := (kfl.getD k []).map (fun f => if dcode f.2.2.1 = 3 then Value.null else .int 0)
noncomputable def am_def (k : Nat) : Value := if k = 21 then .long 0 else if k = 20 ∨ k = 22 ∨ k = 23 then .int 0 else .null
noncomputable def am_fit (c : Nat) (v : Value) : Bool := match v with
  | .int x => c == 0 || (c == 2 && (decide (x = 0) || decide (x = 1)))
  | .ref _ => c == 3
  | .null => c == 3
  | _ => false
noncomputable def am_ld (a k : Nat) : Bool := match a with
  | 0 => k == 20 || (k == 30 || k == 31)
  | 1 => k == 21
  | 2 => k == 22
  | 3 => k == 33
  | 4 => k == 24 || (k == 25 || (k == 26 || k == 34))
  | _ => false
noncomputable def am_get (h : AH) (q : Nat) : Option AO := h.1 q
noncomputable def am_set (h : AH) (q : Nat) (o : AO) : AH := (fun j => if j = q then some o else h.1 j, h.2)
noncomputable def am_push (h : AH) (o : AO) (n : Nat) : AH := (fun j => if j = h.2.1 then some o else h.1 j, h.2.1 + 1, h.2.2 + n)
/-- what may be stored into a row of a kind -/
noncomputable def am_st (a k : Nat) (v : Value) (h : AH) : Bool := match a, v with
  | 0, .int _ => k == 20
  | 1, .long _ => k == 21
  | 2, .int x => k == 22 && (decide (x = 0) || decide (x = 1))
  | 4, .null => k == 24 || (k == 25 || k == 26)
  | 4, .ref q => match am_get h q with
    | some (kv, _) => decide (kv < 13) && (k == 24 || ((k == 25 && kv == 0) || (k == 26 && kv == 9)))
    | none => false
  | _, _ => false
noncomputable def s_get (f : Nat) (lv : LV) (st : List Value) (h : AH) : Option ACT := match st with
  | .ref q :: r => match am_get h q with
    | some (k, fs) => if (fks f).contains k then match fs[fpos f]? with
      | some v => nx lv (v :: r) h
      | none => none else none
    | none => none
  | _ => none
noncomputable def s_put (f : Nat) (lv : LV) (st : List Value) (h : AH) : Option ACT := match st with
  | v :: .ref q :: r => match am_get h q with
    | some (k, fs) => if (fks f).contains k && (decide (fpos f < fs.length) && am_fit (dcode (fr f).2.2.1) v) then nx lv r (am_set h q (k, fs.set (fpos f) v)) else none
    | none => none
  | _ => none
noncomputable def s_ald (a : Nat) (lv : LV) (st : List Value) (h : AH) : Option ACT := match st with
  | .int j :: .ref q :: r => match am_get h q with
    | some (k, fs) => if am_ld a k && (decide (¬ j < 0)) then match fs[j.toNatClampNeg]? with
      | some v => nx lv (v :: r) h
      | none => none else none
    | none => none
  | _ => none
noncomputable def s_ast (a : Nat) (lv : LV) (st : List Value) (h : AH) : Option ACT := match st with
  | v :: .int j :: .ref q :: r => match am_get h q with
    | some (k, fs) => if am_st a k v h && (decide (¬ j < 0) && decide (j.toNatClampNeg < fs.length)) then nx lv r (am_set h q (k, fs.set j.toNatClampNeg v)) else none
    | none => none
  | _ => none
noncomputable def am_w (st : List Value) : Nat := (st.map fun v => v.category).sum
noncomputable def am_ok (as : List Value) (M : Nat) : Bool := as.all (fun v => v.category == 1) && decide (as.length ≤ mL M)
noncomputable def s_call (i : Nat) (st : List Value) (h : AH) : Option ACT :=
  let sp := spec i
  let as := (st.take sp.2.1).reverse
  let r := st.drop sp.2.1
  if as.length = sp.2.1 then
    match sp.1 with
    | 0 => match sp.2.2 with
      | [(_, M)] => if am_w r ≤ 8 ∧ am_ok as M = true then some (.inr (.inl (M, as, r))) else none
      | _ => none
    | 1 => match r with
      | .ref q :: r2 => match am_get h q with
        | some (k, _) => match sp.2.2.find? (fun t => t.1 == k) with
          | some (_, M) => if am_w r2 ≤ 8 ∧ am_ok (.ref q :: as) M = true then some (.inr (.inl (M, .ref q :: as, r2))) else none
          | none => none
        | none => none
      | _ => none
    | _ => none
  else none
noncomputable def s_ret (a : Nat) (st : List Value) : Option ACT := match a, st with
  | 0, [] => some (.inr (.inr none))
  | 1, [.int x] => some (.inr (.inr (some (.int x))))
  | 2, [.long x] => some (.inr (.inr (some (.long x))))
  | 3, [.ref x] => some (.inr (.inr (some (.ref x))))
  | 3, [.null] => some (.inr (.inr (some .null)))
  | 4, [.int x] => if x = 0 ∨ x = 1 then some (.inr (.inr (some (.int x)))) else none
  | _, _ => none
noncomputable def s_stk (a : Nat) (lv : LV) (st : List Value) (h : AH) : Option ACT := match a, st with
  | 0, v :: r => if v.category = 1 then nx lv (v :: v :: r) h else none
  | 1, v :: r => if v.category = 1 then nx lv r h else none
  | 2, v :: u :: r => if v.category = 1 ∧ u.category = 1 then nx lv (v :: u :: v :: r) h else none
  | 3, v :: u :: r => if v.category = 1 ∧ u.category = 1 then nx lv (v :: u :: v :: u :: r) h else none
  | 4, v :: r => if v.category = 2 then nx lv r h else none
  | _, _ => none
noncomputable def s_null (a : Nat) (c : Int) (lv : LV) (st : List Value) (h : AH) : Option ACT := match a, st with
  | 0, .null :: r => jp c lv r h
  | 0, .ref _ :: r => nx lv r h
  | 1, .null :: r => nx lv r h
  | 1, .ref _ :: r => jp c lv r h
  | _, _ => none
noncomputable def am_rf (v : Value) : Option (Option Nat) := match v with
  | .ref q => some (some q)
  | .null => some none
  | _ => none
noncomputable def s_acmp (a : Nat) (c : Int) (lv : LV) (st : List Value) (h : AH) : Option ACT := match st with
  | v :: u :: r => match am_rf v, am_rf u with
    | some y, some x => match a with
      | 0 => if x = y then jp c lv r h else nx lv r h
      | 1 => if x = y then nx lv r h else jp c lv r h
      | _ => none
    | _, _ => none
  | _ => none
noncomputable def s_sw (a : Nat) (lv : LV) (st : List Value) (h : AH) : Option ACT := match st with
  | .int x :: r => match swt[a]? with
    | some (lo, hi, d, ts) => if x.toInt < lo ∨ hi < x.toInt then jp d lv r h else match ts[(x.toInt - lo).toNat]? with
      | some t => jp t lv r h
      | none => none
    | none => none
  | _ => none
noncomputable def s_new (n : Int32) (k : Nat) (lv : LV) (r : List Value) (h : AH) : Option ACT :=
  if ¬ n < 0 ∧ n.toNatClampNeg ≤ 60000000 then nx lv (.ref h.2.1 :: r) (am_push h (k, List.replicate n.toNatClampNeg (am_def k)) n.toNatClampNeg) else none
noncomputable def am_cpy (xs ys : List Value) (i j n : Nat) : List Value := ys.take j ++ ((xs.drop i).take n ++ ys.drop (j + n))
noncomputable def s_acp (lv : LV) (st : List Value) (h : AH) : Option ACT := match st with
  | .int n :: .int j :: .ref q1 :: .int i :: .ref q0 :: r => match am_get h q0, am_get h q1 with
    | some (k0, xs), some (k1, ys) => if k0 = 20 ∧ k1 = 20 ∧ xs.all (am_ty 0) = true ∧ (¬ i < 0 ∧ ¬ j < 0 ∧ ¬ n < 0) ∧ i.toNatClampNeg + n.toNatClampNeg ≤ xs.length ∧ j.toNatClampNeg + n.toNatClampNeg ≤ ys.length ∧ am_w r ≤ 8 then
        nx lv r (am_set h q1 (20, am_cpy xs ys i.toNatClampNeg j.toNatClampNeg n.toNatClampNeg)) else none
    | _, _ => none
  | _ => none
noncomputable def s_load (a : Nat) (c : Int) (lv : LV) (st : List Value) (h : AH) : Option ACT := match lv_get a lv with
  | some v => if am_ty c v then nx lv (v :: st) h else none
  | none => none
noncomputable def s_store (a : Nat) (c : Int) (lv : LV) (st : List Value) (h : AH) : Option ACT := match st with
  | v :: r => if am_ty c v then nx (lv_put a v lv) r h else none
  | _ => none
noncomputable def s_iinc (a : Nat) (c : Int) (lv : LV) (st : List Value) (h : AH) : Option ACT := match lv_get a lv with
  | some (.int x) => nx (lv_put a (.int (x + Int32.ofInt c)) lv) st h
  | _ => none
noncomputable def s_ibin (a : Nat) (lv : LV) (st : List Value) (h : AH) : Option ACT := match st with
  | .int y :: .int x :: r => match ibin a x y with
    | some z => nx lv (.int z :: r) h
    | none => none
  | _ => none
noncomputable def s_lbin (a : Nat) (lv : LV) (st : List Value) (h : AH) : Option ACT := match st with
  | .long y :: .long x :: r => match lbin a x y with
    | some z => nx lv (.long z :: r) h
    | none => none
  | _ => none
noncomputable def s_icmp (a : Nat) (c : Int) (lv : LV) (st : List Value) (h : AH) : Option ACT := match st with
  | .int y :: .int x :: r => match icond a x y with
    | some true => jp c lv r h
    | some false => nx lv r h
    | none => none
  | _ => none
noncomputable def s_if (a : Nat) (c : Int) (lv : LV) (st : List Value) (h : AH) : Option ACT := match st with
  | .int x :: r => match icond a x 0 with
    | some true => jp c lv r h
    | some false => nx lv r h
    | none => none
  | _ => none
noncomputable def s_conv (a : Nat) (lv : LV) (st : List Value) (h : AH) : Option ACT := match st with
  | v :: r => match conv a v with
    | some u => nx lv (u :: r) h
    | none => none
  | _ => none
noncomputable def s_lcmp (lv : LV) (st : List Value) (h : AH) : Option ACT := match st with
  | .long y :: .long x :: r => nx lv (.int (lg_cmp x y) :: r) h
  | _ => none
noncomputable def s_len (lv : LV) (st : List Value) (h : AH) : Option ACT := match st with
  | .ref q :: r => match am_get h q with
    | some (k, fs) => if 20 ≤ k ∧ fs.length < 2 ^ 31 then nx lv (.int (nI fs.length) :: r) h else none
    | none => none
  | _ => none
noncomputable def s_newa (k : Nat) (lv : LV) (st : List Value) (h : AH) : Option ACT := match st with
  | .int n :: r => s_new n k lv r h
  | _ => none
noncomputable def s_cast (k : Nat) (lv : LV) (st : List Value) (h : AH) : Option ACT := match st with
  | .ref q :: r => match am_get h q with
    | some (k', _) => if k' = k then nx lv st h else none
    | none => none
  | _ => none
noncomputable def s_oinit (lv : LV) (st : List Value) (h : AH) : Option ACT := match st with
  | .ref _ :: r => if am_w r ≤ 8 then nx lv r h else none
  | _ => none
noncomputable def s_clone (lv : LV) (st : List Value) (h : AH) : Option ACT := match st with
  | .ref q :: r => match am_get h q with
    | some (k, fs) => if k = 30 ∧ fs.all (am_ty 0) = true ∧ am_w r ≤ 8 then nx lv (.ref h.2.1 :: r) (am_push h (20, fs) fs.length) else none
    | none => none
  | _ => none
noncomputable def s_math (a : Nat) (lv : LV) (st : List Value) (h : AH) : Option ACT := match a, st with
  | 0, .int y :: .int x :: r => if am_w r ≤ 8 then nx lv (.int (if x < y then y else x) :: r) h else none
  | 1, .int y :: .int x :: r => if am_w r ≤ 8 then nx lv (.int (if y < x then y else x) :: r) h else none
  | 2, .int x :: r => if am_w r ≤ 8 then nx lv (.int (if 0 ≤ x then x else 0 - x) :: r) h else none
  | _, _ => none
/-- getClass on a row of objects; q6: the Class object of Object[] -/
noncomputable def s_gcl (q6 : Nat) (lv : LV) (st : List Value) (h : AH) : Option ACT := match st with
  | .ref q :: r => match am_get h q with
    | some (k, _) => if k = 24 ∧ am_w r ≤ 8 then nx lv (.ref q6 :: r) h else none
    | none => none
  | _ => none
noncomputable def am_el (h : AH) (v : Value) : Bool := match v with
  | .null => true
  | .ref q => match am_get h q with
    | some (k, _) => decide (k < 13)
    | none => false
  | _ => false
noncomputable def s_acr (lv : LV) (st : List Value) (h : AH) : Option ACT := match st with
  | .int n :: .int j :: .ref q1 :: .int i :: .ref q0 :: r => match am_get h q0, am_get h q1 with
    | some (k0, xs), some (k1, ys) => if k0 = 24 ∧ k1 = 24 ∧ xs.all (am_el h) = true ∧ (¬ i < 0 ∧ ¬ j < 0 ∧ ¬ n < 0) ∧ i.toNatClampNeg + n.toNatClampNeg ≤ xs.length ∧ j.toNatClampNeg + n.toNatClampNeg ≤ ys.length ∧ am_w r ≤ 8 then
        nx lv r (am_set h q1 (24, am_cpy xs ys i.toNatClampNeg j.toNatClampNeg n.toNatClampNeg)) else none
    | _, _ => none
  | _ => none
/-- one instruction; σ: the cells that static fields hold -/
noncomputable def step1 (σ : Nat → Nat) (ai : AI) (lv : LV) (st : List Value) (h : AH) : Option ACT := match ai.1 with
  | 0 => nx lv (.int (Int32.ofInt ai.2.2) :: st) h
  | 1 => s_load ai.2.1 ai.2.2 lv st h
  | 2 => s_store ai.2.1 ai.2.2 lv st h
  | 3 => s_iinc ai.2.1 ai.2.2 lv st h
  | 4 => s_ibin ai.2.1 lv st h
  | 5 => s_icmp ai.2.1 ai.2.2 lv st h
  | 6 => s_if ai.2.1 ai.2.2 lv st h
  | 7 => jp ai.2.2 lv st h
  | 8 => s_get ai.2.1 lv st h
  | 9 => s_put ai.2.1 lv st h
  | 10 => s_ald ai.2.1 lv st h
  | 11 => s_ast ai.2.1 lv st h
  | 12 => s_call ai.2.1 st h
  | 13 => s_ret ai.2.1 st
  | 14 => nx lv (.long (Int64.ofInt ai.2.2) :: st) h
  | 15 => s_lbin ai.2.1 lv st h
  | 16 => s_conv ai.2.1 lv st h
  | 17 => s_lcmp lv st h
  | 18 => s_stk ai.2.1 lv st h
  | 19 => nx lv (.null :: st) h
  | 20 => s_null ai.2.1 ai.2.2 lv st h
  | 21 => s_acmp ai.2.1 ai.2.2 lv st h
  | 22 => s_sw ai.2.1 lv st h
  | 23 => s_len lv st h
  | 24 => s_newa ai.2.1 lv st h
  | 25 => s_newa ai.2.1 lv st h
  | 26 => nx lv (.ref h.2.1 :: st) (am_push h (ai.2.1, am_new ai.2.1) (kNn ai.2.1))
  | 27 => nx lv (.ref (σ ai.2.1) :: st) h
  | 28 => s_cast ai.2.1 lv st h
  | 29 => s_acp lv st h
  | 30 => s_oinit lv st h
  | 31 => s_clone lv st h
  | 32 => s_math ai.2.1 lv st h
  | 33 => s_gcl (σ 6) lv st h
  | 34 => nx lv (.ref (σ 6) :: st) h
  | 35 => s_acr lv st h
  | _ => none
noncomputable def jump (M t : Nat) : List (Nat × AI) := (codeOf M).dropWhile (fun x => !(x.1 == t))
noncomputable def am_args : Nat → List Value → LV
  | _, [] => []
  | i, v :: r => (i, v) :: am_args (i + 1) r
/-- so many steps of a method -/
noncomputable def run (σ : Nat → Nat) : Nat → Nat → List (Nat × AI) → LV → List Value → AH → Option (Option Value × AH)
  | 0, _, _, _, _, _ => none
  | f + 1, M, cd, lv, st, h => match cd with
    | [] => none
    | (_, ai) :: tl => match step1 σ ai lv st h with
      | none => none
      | some (.inl (none, lv', st', h')) => run σ f M tl lv' st' h'
      | some (.inl (some t, lv', st', h')) => run σ f M (jump M t) lv' st' h'
      | some (.inr (.inl (M', as, r))) => match run σ f M' (codeOf M') (am_args 0 as) [] h with
        | none => none
        | some (v, h') => run σ f M tl lv (v.toList ++ r) h'
      | some (.inr (.inr v)) => some (v, h)
