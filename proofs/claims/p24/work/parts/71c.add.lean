/-! ===== lists: clear, add ===== -/
theorem am_set2 (h : AH) (q : Nat) (o p : AO) : am_set (am_set h q o) q p = am_set h q p := by
  unfold am_set
  dsimp only
  congr 1
  funext j
  by_cases e : j = q
  · rw [if_pos e, if_pos e]
  · rw [if_neg e, if_neg e, if_neg e]
theorem fitI (x : Int32) : am_fit 0 (.int x) = true := rfl
theorem fitR (q : Nat) : am_fit 3 (.ref q) = true := rfl
section
variable {σ : Nat → Nat} {h h' : AH} {Q : Option Value → AH → Prop} {q bq : Nat} {mc sz : Int32} {ed : Value}
noncomputable def cl_cd : List (Nat × AI) := [(27, 1, 3, 0), (28, 1, 2, 0), (29, 5, 3, 42), (32, 1, 1, 2), (33, 1, 3, 0), (34, 19, 0, 0), (35, 11, 4, 0), (36, 3, 3, 1), (39, 7, 0, 27), (42, 13, 0, 0)]
noncomputable def cl_all : List (Nat × AI) := [(0, 1, 0, 2), (1, 18, 0, 0), (2, 8, 158, 0), (5, 0, 0, 1), (6, 4, 0, 0), (7, 9, 158, 0), (10, 1, 0, 2), (11, 8, 156, 0), (14, 2, 1, 2), (15, 1, 0, 2), (16, 8, 157, 0), (19, 2, 2, 0), (20, 1, 0, 2), (21, 0, 0, 0), (22, 18, 2, 0), (23, 9, 157, 0), (26, 2, 3, 0), (27, 1, 3, 0), (28, 1, 2, 0), (29, 5, 3, 42), (32, 1, 1, 2), (33, 1, 3, 0), (34, 19, 0, 0), (35, 11, 4, 0), (36, 3, 3, 1), (39, 7, 0, 27), (42, 13, 0, 0)]
theorem cl_e : codeOf mClear = cl_all := rfl
theorem cl_27 : jump mClear (27 : Int).toNat = cl_cd := by rw [jump_jmp, cl_e]; rfl
theorem cl_42 : jump mClear (42 : Int).toNat = [(42, 13, 0, 0)] := by rw [jump_jmp, cl_e]; rfl
/-- the loop of clear: rows of the same length, else nothing -/
theorem L_loop {hb : AH} {V0 : Value} : ∀ (d : Nat) (L : LV) (i n : Int32) (us : List Value), i2n n - i2n i = d → lv_get 1 L = some (.ref bq) → lv_get 2 L = some (.int n) → lv_get 3 L = some (.int i) → 2147483648 ≤ i2n i → i2n n ≤ 2147483648 + us.length → h.1 bq = some (24, us) → (∀ us', us'.length = us.length → Q none (am_set h bq (24, us'))) → Rt σ mClear cl_cd L [] h Q := by
  intro d
  induction d generalizing h with
  | zero =>
    intro L i n us hd l1 l2 l3 hi hn hb hQ
    refine rl_load l3 rfl (rl_load l2 rfl (rl_icmpT (by show some (decide (n ≤ i)) = some true; rw [decide_eq_true ((i_le n i).mpr (by omega))]) ?_))
    rw [cl_42]
    refine rl_ret0 ?_
    have := hQ us rfl
    have e : am_set h bq (24, us) = h := by
      unfold am_set
      refine Prod.ext ?_ rfl
      funext j
      show (if j = bq then _ else _) = _
      by_cases e : j = bq
      · rw [if_pos e, e, hb]
      · rw [if_neg e]
    rw [e] at this
    exact this
  | succ d ih =>
    intro L i n us hd l1 l2 l3 hi hn hb hQ
    obtain ⟨j1, j2⟩ := j_of hi
    refine rl_load l3 rfl (rl_load l2 rfl (rl_icmpF (by show some (decide (n ≤ i)) = some false; rw [decide_eq_false (fun e => by have := (i_le n i).mp e; omega)]) ?_))
    refine rl_load l1 rfl (rl_load l3 rfl (rl_null (rl_ast hb rfl j1 (by omega) (rl_iinc l3 (rl_goto ?_)))))
    rw [cl_27]
    have hadd : i2n (i + Int32.ofInt 1) = i2n i + 1 := by
      have := i2n_lt n
      have e1 : i2n (Int32.ofInt 1) = 2147483649 := c_1
      rw [kb_add, e1]
      omega
    have ne : ∀ a v, a ≠ 3 → v.category = 1 → lv_get a L = some v → lv_get a (lv_put 3 (.int (i + Int32.ofInt 1)) L) = some v := by
      intro a v ha hc hv
      unfold lv_put
      have : lv_get a ((3, Value.int (i + Int32.ofInt 1)) :: List.filter (fun q => !(q.1 == 3) && (!((Value.int (i + Int32.ofInt 1)).category == 2 && q.1 == 3 + 1) && !(q.1 + 1 == 3 && q.2.category == 2))) L) = lv_get a (List.filter (fun q => !(q.1 == 3) && (!((Value.int (i + Int32.ofInt 1)).category == 2 && q.1 == 3 + 1) && !(q.1 + 1 == 3 && q.2.category == 2))) L) := by
        unfold lv_get
        rw [List.find?_cons]
        have : ((3 : Nat) == a) = false := by
          rw [nbeq]
          cases e : Nat.beq 3 a
          · rfl
          · exact absurd (beqt e).symm ha
        dsimp only
        rw [this]
      rw [this]
      exact lg_filter (v := .int (i + Int32.ofInt 1)) ha (fun e => absurd e.1 (by show ¬ ((1 : Nat) = 2); omega)) (fun e => by
        have e2 := e.2
        omega) hv
    refine ih (h := am_set h bq (24, us.set i.toNatClampNeg .null)) _ (i + Int32.ofInt 1) n (us.set i.toNatClampNeg .null) (by omega) (ne 1 _ (by omega) rfl l1) (ne 2 _ (by omega) rfl l2) rfl (by omega) (by rw [List.length_set]; exact hn) (am_at _ _ _) (fun us' hl => ?_)
    rw [am_set2]
    exact hQ us' (by rw [hl, List.length_set])
theorem L_clear (hq : h.1 q = some (12, [.int mc, ed, .int sz])) (hsz : 2147483648 ≤ i2n sz) (hed : ∃ bq, ed = .ref bq ∧ (bq ≠ q ∧ ∃ k us, h.1 bq = some (k, us) ∧ ((i2n sz = 2147483648) ∨ (k = 24 ∧ i2n sz ≤ 2147483648 + us.length))))
    (hQ : ∀ h', h'.2 = h.2 → (∀ a, a ≠ q → ed ≠ .ref a → h'.1 a = h.1 a) → h'.1 q = some (12, [.int (mc + 1), ed, .int 0]) → (∀ bq k us, ed = .ref bq → h.1 bq = some (k, us) → ∃ us', us'.length = us.length ∧ h'.1 bq = some (k, us')) → Q none h') : Rt σ mClear (codeOf mClear) (am_args 0 [.ref q]) [] h Q := by
  obtain ⟨bq, rfl, hbq, k, us, hb, hcase⟩ := hed
  have e : codeOf mClear = cl_all := rfl
  rw [e]
  have p0 : ([.int mc, .ref bq, .int sz] : List Value).set (fpos 158) (.int (mc + Int32.ofInt 1)) = [.int (mc + 1), .ref bq, .int sz] := by rw [k158.2.1]; rfl
  have p2 : ([.int (mc + 1), .ref bq, .int sz] : List Value).set (fpos 157) (.int (Int32.ofInt 0)) = [.int (mc + 1), .ref bq, .int 0] := by rw [k157.2.1]; rfl
  refine rl_load rfl rfl (rl_dup rfl (rl_get hq k158.1 g158 (rl_const (rl_bin rfl (rl_put hq k158.1 (by rw [k158.2.1]; exact Nat.zero_lt_succ _) (by rw [k158.2.2]; rfl) ?_)))))
  rw [p0]
  have q1 : (am_set h q (12, [.int (mc + 1), .ref bq, .int sz])).1 q = some (12, [.int (mc + 1), .ref bq, .int sz]) := am_at _ _ _
  refine rl_load rfl rfl (rl_get q1 k156.1 g156 (rl_store rfl (rl_load rfl rfl (rl_get q1 k157.1 g157 (rl_store rfl (rl_load rfl rfl (rl_const (rl_dupx rfl rfl (rl_put q1 k157.1 (by rw [k157.2.1]; exact Nat.lt_succ_self _) (by rw [k157.2.2]; rfl) ?_)))))))))
  rw [p2, am_set2]
  refine rl_store rfl ?_
  have hb2 : (am_set h q (12, [.int (mc + 1), .ref bq, .int 0])).1 bq = some (k, us) := (am_ne hbq).trans hb
  rcases hcase with h0 | ⟨rfl, h1⟩
  · have hz : i2n (Int32.ofInt 0) = 2147483648 := c_0
    refine rl_load rfl rfl (rl_load rfl rfl (rl_icmpT (by show some (decide (sz ≤ Int32.ofInt 0)) = some true; rw [decide_eq_true ((i_le _ _).mpr (by omega))]) ?_))
    rw [cl_42]
    refine rl_ret0 (hQ _ rfl (fun a ha _ => am_ne ha) (am_at _ _ _) (fun bq' k' us' e1 e2 => ?_))
    cases e1
    rw [hb] at e2
    cases e2
    exact ⟨us, rfl, hb2⟩
  · have hz : i2n (Int32.ofInt 0) = 2147483648 := c_0
    refine L_loop (hb := h) (V0 := .null) (i2n sz - i2n (Int32.ofInt 0)) _ (Int32.ofInt 0) sz us rfl rfl rfl rfl (by omega) h1 hb2 (fun us' hl => ?_)
    refine hQ _ rfl (fun a ha hne => ?_) ?_ (fun bq' k' us2 e1 e2 => ?_)
    · exact (am_ne (fun e => hne (by rw [e]))).trans (am_ne ha)
    · exact (am_ne (fun e => hbq e.symm)).trans (am_at _ _ _)
    · cases e1
      rw [hb] at e2
      cases e2
      exact ⟨us', hl, am_at _ _ _⟩
end
