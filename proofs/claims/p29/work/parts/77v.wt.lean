section
/-! ===== weighings: what the class and the model say of a LOAD ===== -/
theorem code_84 : codeOf 84 = [(0, (1, 0, 2)), (1, (8, 39, 0)), (4, (0, 0, 4)), (5, (32, 1, 0)), (8, (0, 0, 1)), (9, (4, 1, 0)), (10, (2, 3, 0)), (11, (1, 3, 0)), (12, (6, 2, 70)), (15, (1, 2, 0)), (16, (0, 0, -1)), (17, (5, 0, 30)), (20, (1, 0, 2)), (21, (8, 59, 0)), (24, (1, 3, 0)), (25, (10, 0, 0)), (26, (1, 2, 0)), (27, (5, 4, 64)), (30, (1, 1, 0)), (31, (6, 1, 43)), (34, (1, 0, 2)), (35, (8, 57, 0)), (38, (1, 3, 0)), (39, (10, 0, 0)), (40, (7, 0, 63)), (43, (1, 1, 0)), (44, (0, 0, 1)), (45, (5, 1, 57)), (48, (1, 0, 2)), (49, (8, 58, 0)), (52, (1, 3, 0)), (53, (10, 0, 0)), (54, (7, 0, 63)), (57, (1, 0, 2)), (58, (8, 59, 0)), (61, (1, 3, 0)), (62, (10, 0, 0)), (63, (13, 1, 0)), (64, (3, 3, -1)), (67, (7, 0, 11)), (70, (0, 0, -3)), (72, (13, 1, 0))] := by decide +kernel
theorem head_84 : codeOf 84 = [(0, (1, 0, 2)), (1, (8, 39, 0)), (4, (0, 0, 4)), (5, (32, 1, 0)), (8, (0, 0, 1)), (9, (4, 1, 0)), (10, (2, 3, 0))] ++ jump 84 11 := by rw [jump_jmp, code_84]; rfl
theorem j84_11 : jump 84 11 = [(11, (1, 3, 0)), (12, (6, 2, 70)), (15, (1, 2, 0)), (16, (0, 0, -1)), (17, (5, 0, 30)), (20, (1, 0, 2)), (21, (8, 59, 0)), (24, (1, 3, 0)), (25, (10, 0, 0)), (26, (1, 2, 0)), (27, (5, 4, 64))] ++ jump 84 30 := by rw [jump_jmp, jump_jmp, code_84]; rfl
theorem j84_30 : jump 84 30 = [(30, (1, 1, 0)), (31, (6, 1, 43)), (34, (1, 0, 2)), (35, (8, 57, 0)), (38, (1, 3, 0)), (39, (10, 0, 0)), (40, (7, 0, 63))] ++ jump 84 43 := by rw [jump_jmp, jump_jmp, code_84]; rfl
theorem j84_43 : jump 84 43 = [(43, (1, 1, 0)), (44, (0, 0, 1)), (45, (5, 1, 57)), (48, (1, 0, 2)), (49, (8, 58, 0)), (52, (1, 3, 0)), (53, (10, 0, 0)), (54, (7, 0, 63))] ++ jump 84 57 := by rw [jump_jmp, jump_jmp, code_84]; rfl
theorem j84_57 : jump 84 57 = [(57, (1, 0, 2)), (58, (8, 59, 0)), (61, (1, 3, 0)), (62, (10, 0, 0))] ++ jump 84 63 := by rw [jump_jmp, jump_jmp, code_84]; rfl
theorem j84_63 : jump 84 63 = [(63, (13, 1, 0))] ++ jump 84 64 := by rw [jump_jmp, jump_jmp, code_84]; rfl
theorem j84_64 : jump 84 64 = [(64, (3, 3, -1)), (67, (7, 0, 11))] ++ jump 84 70 := by rw [jump_jmp, jump_jmp, code_84]; rfl
theorem j84_70 : jump 84 70 = [(70, (0, 0, -3)), (72, (13, 1, 0))] := by rw [jump_jmp, code_84]; rfl
theorem code_218 : codeOf 218 = [(0, (0, 0, -1)), (1, (2, 2, 0)), (2, (0, 0, 4)), (3, (1, 1, 0)), (4, (4, 2, 0)), (5, (2, 3, 0)), (6, (1, 3, 0)), (7, (0, 0, 4)), (8, (1, 1, 0)), (9, (4, 2, 0)), (10, (1, 0, 2)), (11, (8, 114, 0)), (14, (1, 1, 0)), (15, (10, 0, 0)), (16, (4, 0, 0)), (17, (5, 3, 53)), (20, (1, 0, 2)), (21, (8, 118, 0)), (24, (0, 0, -1)), (25, (5, 0, 41)), (28, (1, 0, 2)), (29, (8, 117, 0)), (32, (1, 3, 0)), (33, (10, 0, 0)), (34, (1, 0, 2)), (35, (8, 118, 0)), (38, (5, 4, 45)), (41, (1, 3, 0)), (42, (7, 0, 46)), (45, (1, 2, 0)), (46, (2, 2, 0)), (47, (3, 3, 1)), (50, (7, 0, 6)), (53, (1, 2, 0)), (54, (13, 1, 0))] := by decide +kernel
theorem head_218 : codeOf 218 = [(0, (0, 0, -1)), (1, (2, 2, 0)), (2, (0, 0, 4)), (3, (1, 1, 0)), (4, (4, 2, 0)), (5, (2, 3, 0))] ++ jump 218 6 := by rw [jump_jmp, code_218]; rfl
theorem j218_6 : jump 218 6 = [(6, (1, 3, 0)), (7, (0, 0, 4)), (8, (1, 1, 0)), (9, (4, 2, 0)), (10, (1, 0, 2)), (11, (8, 114, 0)), (14, (1, 1, 0)), (15, (10, 0, 0)), (16, (4, 0, 0)), (17, (5, 3, 53)), (20, (1, 0, 2)), (21, (8, 118, 0)), (24, (0, 0, -1)), (25, (5, 0, 41)), (28, (1, 0, 2)), (29, (8, 117, 0)), (32, (1, 3, 0)), (33, (10, 0, 0)), (34, (1, 0, 2)), (35, (8, 118, 0)), (38, (5, 4, 45))] ++ jump 218 41 := by rw [jump_jmp, jump_jmp, code_218]; rfl
theorem j218_41 : jump 218 41 = [(41, (1, 3, 0)), (42, (7, 0, 46))] ++ jump 218 45 := by rw [jump_jmp, jump_jmp, code_218]; rfl
theorem j218_45 : jump 218 45 = [(45, (1, 2, 0))] ++ jump 218 46 := by rw [jump_jmp, jump_jmp, code_218]; rfl
theorem j218_46 : jump 218 46 = [(46, (2, 2, 0)), (47, (3, 3, 1)), (50, (7, 0, 6))] ++ jump 218 53 := by rw [jump_jmp, jump_jmp, code_218]; rfl
theorem j218_53 : jump 218 53 = [(53, (1, 2, 0)), (54, (13, 1, 0))] := by rw [jump_jmp, code_218]; rfl
theorem wt_f : ((((fks 39).contains 6 = true ∧ fpos 39 = 3) ∧ ((fks 57).contains 6 = true ∧ fpos 57 = 4)) ∧ (((fks 58).contains 6 = true ∧ fpos 58 = 5) ∧ ((fks 59).contains 6 = true ∧ fpos 59 = 6))) ∧ ((((fks 114).contains 11 = true ∧ fpos 114 = 43) ∧ ((fks 118).contains 11 = true ∧ fpos 118 = 47)) ∧ ((fks 117).contains 11 = true ∧ fpos 117 = 46)) := by decide +kernel
theorem wt_c : (((cdm 6 = 0 ∧ cdk 6 = 6) ∧ (cdm 5 = 0 ∧ cdk 5 = 5)) ∧ ((arrI 25 4 = true ∧ cdk 25 = 20) ∧ ((arrI 26 4 = true ∧ cdk 26 = 20) ∧ (arrI 27 4 = true ∧ cdk 27 = 20)))) ∧ (((arrI 77 60 = true ∧ cdk 77 = 20) ∧ (arrI 78 240 = true ∧ cdk 78 = 20)) ∧ ((arrI 79 240 = true ∧ cdk 79 = 20) ∧ (arrI 80 240 = true ∧ cdk 80 = 20))) := by decide +kernel
theorem wt_t : (((ct_at 6 4 = some (4, 25, 0) ∧ ct_at 6 5 = some (4, 26, 0)) ∧ (ct_at 6 6 = some (4, 27, 0) ∧ ct_at 5 7 = some (5, 6, 0))) ∧ (((ct_at 11 43 = some (7, 77, 0) ∧ ct_at 11 46 = some (7, 80, 0)) ∧ ((ct_at 11 47).map (fun t => t.1) = some 0 ∧ (ct_at 11 33).map (fun t => t.1) = some 0)) ∧ ((sgl 77 = true ∧ sgl 80 = true) ∧ (cd 5).2.2.length = 8))) := by decide +kernel
theorem nI_dec {m : Nat} (hm : m < 2147483647) : nI (m + 1) + Int32.ofInt (-1) = nI m := by
  refine i2n_inj ?_
  have e : i2n (Int32.ofInt (-1)) = 2147483647 := by decide +kernel
  rw [kb_add, e, nI_ok (by omega), nI_ok (by omega)]
  omega
theorem nI_4 {e : Nat} (he : e < 1000) : Int32.ofInt 4 * nI e = nI (4 * e) := by
  refine i2n_inj ?_
  have c4 : i2n (Int32.ofInt 4) = 2147483652 := by decide +kernel
  rw [kb_mul, c4, nI_ok (by omega), nI_ok (by omega)]
  omega
/-- by a number: the weight, the TIP, the DAY -/
noncomputable def wsel (ws ts ds : Nat → Int32) (wh : Int32) (j : Nat) : Int32 := if wh = 0 then ws j else if wh = Int32.ofInt 1 then ts j else ds j
noncomputable def tdF (ws ts ds : Nat → Int32) (kn wh : Int32) (n : Nat) : Int32 := match n with
  | 0 => Int32.ofInt (-3)
  | n + 1 => if kn = Int32.ofInt (-1) ∨ ds n ≤ kn then wsel ws ts ds wh n else tdF ws ts ds kn wh n
theorem kw_td {ws ts ds : Nat → Int32} {kn wh : Int32} {e : Nat} : ∀ n, (kwF ds kn e n = Int32.ofInt (-1) ∧ tdF ws ts ds kn wh n = Int32.ofInt (-3)) ∨ ∃ j, j < n ∧ (kwF ds kn e n = nI (4 * e + j) ∧ tdF ws ts ds kn wh n = wsel ws ts ds wh j) := by
  intro n
  induction n with
  | zero => exact Or.inl ⟨rfl, rfl⟩
  | succ n ih =>
    by_cases hk : kn = Int32.ofInt (-1) ∨ ds n ≤ kn
    · refine Or.inr ⟨n, Nat.lt_succ_self _, ?_, ?_⟩
      · rw [kwF, if_pos hk]
      · rw [tdF, if_pos hk]
    · rw [kwF, if_neg hk, tdF, if_neg hk]
      rcases ih with h | ⟨j, h1, h2⟩
      · exact Or.inl h
      · exact Or.inr ⟨j, by omega, h2⟩
section
variable {σ : Nat → Nat} {ad : AD} {h : AH} {np e q n : Nat} {ex ho : Nat → Nat → Prop} {Q : Option Value → AH → Prop} {ws ts ds : Nat → Int32} {kn wh : Int32}
theorem X_told (hT : TS ad h np ex ho) (hq : ad 6 e = some q) (hn : n ≤ 4) (h3 : At ad h 6 e 3 (.int (nI n))) (hw : ∀ j, j < n → At ad h 25 e j (.int (ws j))) (ht : ∀ j, j < n → At ad h 26 e j (.int (ts j))) (hd : ∀ j, j < n → At ad h 27 e j (.int (ds j))) (hQ : Q (some (.int (tdF ws ts ds kn wh n))) h) : Rt σ 84 (codeOf 84) (am_args 0 [.ref q, .int wh, .int kn]) [] h Q := by
  obtain ⟨⟨⟨⟨f1, f1'⟩, f2, f2'⟩, ⟨f3, f3'⟩, f4, f4'⟩, -⟩ := wt_f
  obtain ⟨⟨⟨⟨c1, c1'⟩, -⟩, ⟨-, c2⟩, ⟨-, c3⟩, -, c4⟩, -⟩ := wt_c
  obtain ⟨⟨⟨t1, t2⟩, t3, -⟩, -⟩ := wt_t
  obtain ⟨q1, a1, b1⟩ := fld_own hT (by omega) c1 t1 hq
  obtain ⟨q2, a2, b2⟩ := fld_own hT (by omega) c1 t2 hq
  obtain ⟨q3, a3, b3⟩ := fld_own hT (by omega) c1 t3 hq
  have ret : ∀ (L : LV) (x : Int32), Q (some (.int x)) h → Rt σ 84 (jump 84 63) L [.int x] h Q := fun L x hx => by
    rw [j84_63]
    exact rl_ret1 hx
  have hit : ∀ (L : LV) (m : Nat), m < n → Q (some (.int (wsel ws ts ds wh m))) h → lv_get 0 L = some (.ref q) → lv_get 1 L = some (.int wh) → lv_get 3 L = some (.int (nI m)) → Rt σ 84 (jump 84 30) L [] h Q := fun L m hm hx l0 l1 l3 => by
    rw [j84_30]
    by_cases e0 : wh = 0
    · refine rl_load l1 rfl (rl_ifF (by show some (decide (¬ wh = 0)) = some false; rw [decide_eq_false (fun h => h e0)]) (rl_load l0 rfl (ra_get hT.1 (by omega) (by omega) hq (by rw [f2']; exact a1) (by rw [c1']; exact f2) (rl_load l3 rfl (ra_ald hT.1 (by omega) (by omega) b1 (hw m hm) (by rw [c2]; rfl) (by omega) (rl_goto (ret _ _ ?_)))))))
      unfold wsel at hx
      rw [if_pos e0] at hx
      exact hx
    · refine rl_load l1 rfl (rl_ifT (by show some (decide (¬ wh = 0)) = some true; rw [decide_eq_true e0]) ?_)
      show Rt σ 84 (jump 84 43) _ _ _ _
      rw [j84_43]
      by_cases e1 : wh = Int32.ofInt 1
      · refine rl_load l1 rfl (rl_const (rl_icmpF (by show some (decide (¬ wh = Int32.ofInt 1)) = some false; rw [decide_eq_false (fun h => h e1)]) (rl_load l0 rfl (ra_get hT.1 (by omega) (by omega) hq (by rw [f3']; exact a2) (by rw [c1']; exact f3) (rl_load l3 rfl (ra_ald hT.1 (by omega) (by omega) b2 (ht m hm) (by rw [c3]; rfl) (by omega) (rl_goto (ret _ _ ?_))))))))
        unfold wsel at hx
        rw [if_neg e0, if_pos e1] at hx
        exact hx
      · refine rl_load l1 rfl (rl_const (rl_icmpT (by show some (decide (¬ wh = Int32.ofInt 1)) = some true; rw [decide_eq_true e1]) ?_))
        show Rt σ 84 (jump 84 57) _ _ _ _
        rw [j84_57]
        refine rl_load l0 rfl (ra_get hT.1 (by omega) (by omega) hq (by rw [f4']; exact a3) (by rw [c1']; exact f4) (rl_load l3 rfl (ra_ald hT.1 (by omega) (by omega) b3 (hd m hm) (by rw [c4]; rfl) (by omega) (ret _ _ ?_))))
        unfold wsel at hx
        rw [if_neg e0, if_neg e1] at hx
        exact hx
  have loop : ∀ (m : Nat) (L : LV) (x : Int32), m ≤ n → Q (some (.int (tdF ws ts ds kn wh m))) h → lv_get 0 L = some (.ref q) → lv_get 1 L = some (.int wh) → lv_get 2 L = some (.int kn) → lv_get 3 L = some (.int x) → x + Int32.ofInt 1 = nI m → Rt σ 84 (jump 84 11) L [] h Q := by
    intro m
    induction m with
    | zero =>
      intro L x hm hQ l0 l1 l2 l3 hx
      have ex : x = Int32.ofInt (-1) := by
        have e1 := kb_add x (Int32.ofInt 1)
        have c1 : i2n (Int32.ofInt 1) = 2147483649 := by decide +kernel
        have cm : i2n (Int32.ofInt (-1)) = 2147483647 := by decide +kernel
        have := i2n_lt x
        rw [hx, nI_ok (by omega), c1] at e1
        exact i2n_inj (by omega)
      subst ex
      rw [j84_11]
      refine rl_load l3 rfl (rl_ifT (by decide +kernel) ?_)
      show Rt σ 84 (jump 84 70) _ _ _ _
      rw [j84_70]
      exact rl_const (rl_ret1 hQ)
    | succ m ih =>
      intro L x hm hQ l0 l1 l2 l3 hx
      have ex : x = nI m := by
        have e1 := kb_add x (Int32.ofInt 1)
        have c1 : i2n (Int32.ofInt 1) = 2147483649 := by decide +kernel
        have := i2n_lt x
        rw [hx, nI_ok (by omega), c1] at e1
        exact i2n_inj (by rw [nI_ok (by omega)]; omega)
      subst ex
      rw [j84_11]
      refine rl_load l3 rfl (rl_ifF (by show some (decide (nI m < 0)) = some false; rw [decide_eq_false (nI_nn (by omega)).1]) (rl_load l2 rfl (rl_const ?_)))
      by_cases e0 : kn = Int32.ofInt (-1)
      · refine rl_icmpT (by show some (decide (kn = Int32.ofInt (-1))) = some true; rw [decide_eq_true e0]) (hit L m (by omega) ?_ l0 l1 l3)
        rw [tdF, if_pos (Or.inl e0)] at hQ
        exact hQ
      · refine rl_icmpF (by show some (decide (kn = Int32.ofInt (-1))) = some false; rw [decide_eq_false e0]) (rl_load l0 rfl (ra_get hT.1 (by omega) (by omega) hq (by rw [f4']; exact a3) (by rw [c1']; exact f4) (rl_load l3 rfl (ra_ald hT.1 (by omega) (by omega) b3 (hd m (by omega)) (by rw [c4]; rfl) (by omega) (rl_load l2 rfl ?_)))))
        by_cases e1 : ds m ≤ kn
        · refine rl_icmpF (by show some (decide (kn < ds m)) = some false; rw [decide_eq_false (Int32.not_lt.mpr e1)]) (hit L m (by omega) ?_ l0 l1 l3)
          rw [tdF, if_pos (Or.inr e1)] at hQ
          exact hQ
        · refine rl_icmpT (by show some (decide (kn < ds m)) = some true; rw [decide_eq_true (Int32.not_le.mp e1)]) ?_
          show Rt σ 84 (jump 84 64) _ _ _ _
          rw [j84_64]
          rw [tdF, if_neg (fun h => h.elim e0 e1)] at hQ
          refine rl_iinc l3 (rl_goto ?_)
          refine ih _ (nI m + Int32.ofInt (-1)) (by omega) hQ (get_put rfl rfl (by omega) l0) (get_put rfl rfl (by omega) l1) (get_put rfl rfl (by omega) l2) rfl ?_
          have e2 : Int32.ofInt (-1) + Int32.ofInt 1 = 0 := by decide +kernel
          rw [Int32.add_assoc, e2, Int32.add_zero]
  have e4 : ¬ Int32.ofInt 4 < nI n := by
    show ¬ nI 4 < nI n
    rw [tx_lt (by omega) (by omega)]
    omega
  rw [head_84]
  refine rl_load rfl rfl (ra_get hT.1 (by omega) (by omega) hq (by rw [f1']; exact h3) (by rw [c1']; exact f1) (rl_const (rl_min (by show 0 ≤ 8; omega) (rl_const (rl_bin rfl (rl_store rfl ?_))))))
  rw [if_neg e4]
  exact loop n _ _ (Nat.le_refl _) hQ rfl rfl rfl rfl (Int32.sub_add_cancel _ _)
theorem M_wof {m : Nat} (hT : TS ad h np ex ho) (hm : ad 11 0 = some m) (he : e < 60) (hn : n ≤ 4) (hwn : At ad h 77 0 e (.int (nI n))) (hk : At ad h 11 0 47 (.int kn)) (hd : ∀ j, j < n → At ad h 80 0 (4 * e + j) (.int (ds j))) (hQ : Q (some (.int (kwF ds kn e n))) h) : Rt σ 218 (codeOf 218) (am_args 0 [.ref m, .int (nI e)]) [] h Q := by
  obtain ⟨-, ⟨⟨f1, f1'⟩, f2, f2'⟩, f3, f3'⟩ := wt_f
  obtain ⟨-, ⟨⟨-, c1⟩, -⟩, -, -, c2⟩ := wt_c
  obtain ⟨-, ⟨⟨t1, t2⟩, -⟩, -⟩ := wt_t
  obtain ⟨⟨⟨c10, c11⟩, -⟩, -⟩ := m_cls
  have loop : ∀ (r j : Nat) (L : LV), j + r = n → lv_get 0 L = some (.ref m) → lv_get 1 L = some (.int (nI e)) → lv_get 2 L = some (.int (kwF ds kn e j)) → lv_get 3 L = some (.int (nI (4 * e + j))) → Rt σ 218 (jump 218 6) L [] h Q := by
    intro r
    induction r with
    | zero =>
      intro j L hj l0 l1 l2 l3
      have ej : j = n := by omega
      subst ej
      rw [j218_6]
      refine rl_load l3 rfl (rl_const (rl_load l1 rfl (rl_bin (z := nI (4 * e)) (by show some _ = _; rw [nI_4 (by omega)]) (rl_load l0 rfl (ra_row hT hm (by rw [f1']; exact t1) f1 fun q77 hq77 => rl_load l1 rfl (ra_ald hT.1 (by omega) (by omega) hq77 hwn (by rw [c1]; rfl) (by omega) (rl_bin (z := nI (4 * e + j)) (by show some _ = _; rw [nI_plus (by omega)]) (rl_icmpT ?_ ?_))))))))
      · show some (decide (nI (4 * e + j) ≤ nI (4 * e + j))) = some true
        rw [decide_eq_true ((tx_le (by omega) (by omega)).mpr (Nat.le_refl _))]
      · show Rt σ 218 (jump 218 53) _ _ _ _
        rw [j218_53]
        exact rl_load l2 rfl (rl_ret1 hQ)
    | succ r ih =>
      intro j L hj l0 l1 l2 l3
      have nxt : ∀ (x : Int32), x = kwF ds kn e (j + 1) → Rt σ 218 (jump 218 46) L [.int x] h Q := fun x hx => by
        rw [j218_46]
        refine rl_store rfl (rl_iinc (get_put rfl rfl (by omega) l3) (rl_goto ?_))
        rw [nI_suc (by omega)]
        exact ih (j + 1) _ (by omega) (get_put rfl rfl (by omega) (get_put rfl rfl (by omega) l0)) (get_put rfl rfl (by omega) (get_put rfl rfl (by omega) l1)) (get_put rfl rfl (by omega) (by rw [hx]; rfl)) rfl
      have yes : kn = Int32.ofInt (-1) ∨ ds j ≤ kn → Rt σ 218 (jump 218 41) L [] h Q := fun hy => by
        rw [j218_41]
        refine rl_load l3 rfl (rl_goto (nxt _ ?_))
        rw [kwF, if_pos hy]
      rw [j218_6]
      refine rl_load l3 rfl (rl_const (rl_load l1 rfl (rl_bin (z := nI (4 * e)) (by show some _ = _; rw [nI_4 (by omega)]) (rl_load l0 rfl (ra_row hT hm (by rw [f1']; exact t1) f1 fun q77 hq77 => rl_load l1 rfl (ra_ald hT.1 (by omega) (by omega) hq77 hwn (by rw [c1]; rfl) (by omega) (rl_bin (z := nI (4 * e + n)) (by show some _ = _; rw [nI_plus (by omega)]) (rl_icmpF ?_ (rl_load l0 rfl (ra_get hT.1 (by omega) (by omega) hm (by rw [f2']; exact hk) (by rw [c11]; exact f2) (rl_const ?_)))))))))))
      · show some (decide (nI (4 * e + n) ≤ nI (4 * e + j))) = some false
        rw [decide_eq_false (by rw [tx_le (by omega) (by omega)]; omega)]
      · by_cases e0 : kn = Int32.ofInt (-1)
        · exact rl_icmpT (by show some (decide (kn = Int32.ofInt (-1))) = some true; rw [decide_eq_true e0]) (yes (Or.inl e0))
        · refine rl_icmpF (by show some (decide (kn = Int32.ofInt (-1))) = some false; rw [decide_eq_false e0]) (rl_load l0 rfl (ra_row hT hm (by rw [f3']; exact t2) f3 fun q80 hq80 => rl_load l3 rfl (ra_ald hT.1 (by omega) (by omega) hq80 (hd j (by omega)) (by rw [c2]; rfl) (by omega) (rl_load l0 rfl (ra_get hT.1 (by omega) (by omega) hm (by rw [f2']; exact hk) (by rw [c11]; exact f2) ?_)))))
          by_cases e1 : ds j ≤ kn
          · exact rl_icmpF (by show some (decide (kn < ds j)) = some false; rw [decide_eq_false (Int32.not_lt.mpr e1)]) (yes (Or.inr e1))
          · refine rl_icmpT (by show some (decide (kn < ds j)) = some true; rw [decide_eq_true (Int32.not_le.mp e1)]) ?_
            show Rt σ 218 (jump 218 45) _ _ _ _
            rw [j218_45]
            refine rl_load l2 rfl (nxt _ ?_)
            rw [kwF, if_neg (fun h => h.elim e0 e1)]
  rw [head_218]
  refine rl_const (rl_store rfl (rl_const (rl_load rfl rfl (rl_bin (z := nI (4 * e)) (by show some _ = _; rw [nI_4 (by omega)]) (rl_store rfl ?_)))))
  exact loop n 0 _ (by omega) rfl rfl rfl rfl
end
end
