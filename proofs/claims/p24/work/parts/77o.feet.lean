/-! ===== the class's free feet ===== -/
theorem code_20 : codeOf 20 = [(0, (1, 1, 2)), (1, (8, 17, 0)), (4, (2, 2, 0)), (5, (0, 0, 0)), (6, (2, 3, 0)), (7, (1, 3, 0)), (8, (1, 0, 2)), (9, (8, 5, 0)), (12, (12, 13, 0)), (15, (5, 3, 65)), (18, (1, 0, 2)), (19, (8, 5, 0)), (22, (1, 3, 0)), (23, (12, 17, 0)), (26, (28, 3, 0)), (29, (2, 4, 2)), (31, (1, 4, 2)), (33, (8, 19, 0)), (36, (20, 0, 59)), (39, (1, 4, 2)), (41, (8, 19, 0)), (44, (8, 21, 0)), (47, (1, 1, 2)), (48, (21, 1, 59)), (51, (1, 2, 0)), (52, (1, 4, 2)), (54, (12, 20, 0)), (57, (4, 1, 0)), (58, (2, 2, 0)), (59, (3, 3, 1)), (62, (7, 0, 7)), (65, (1, 2, 0)), (66, (13, 1, 0))] := by decide +kernel
theorem head_20 : codeOf 20 = [(0, (1, 1, 2)), (1, (8, 17, 0)), (4, (2, 2, 0)), (5, (0, 0, 0)), (6, (2, 3, 0))] ++ jump 20 7 := by rw [jump_jmp, code_20]; rfl
theorem j20_7 : jump 20 7 = [(7, (1, 3, 0)), (8, (1, 0, 2)), (9, (8, 5, 0)), (12, (12, 13, 0)), (15, (5, 3, 65)), (18, (1, 0, 2)), (19, (8, 5, 0)), (22, (1, 3, 0)), (23, (12, 17, 0)), (26, (28, 3, 0)), (29, (2, 4, 2)), (31, (1, 4, 2)), (33, (8, 19, 0)), (36, (20, 0, 59)), (39, (1, 4, 2)), (41, (8, 19, 0)), (44, (8, 21, 0)), (47, (1, 1, 2)), (48, (21, 1, 59)), (51, (1, 2, 0)), (52, (1, 4, 2)), (54, (12, 20, 0)), (57, (4, 1, 0)), (58, (2, 2, 0))] ++ jump 20 59 := by rw [jump_jmp, jump_jmp, code_20]; rfl
theorem j20_59 : jump 20 59 = [(59, (3, 3, 1)), (62, (7, 0, 7))] ++ jump 20 65 := by rw [jump_jmp, jump_jmp, code_20]; rfl
theorem j20_65 : jump 20 65 = [(65, (1, 2, 0)), (66, (13, 1, 0))] := by rw [jump_jmp, code_20]; rfl
theorem code_21 : codeOf 21 = [(0, (0, 0, 4)), (1, (1, 0, 2)), (2, (8, 20, 0)), (5, (4, 0, 0)), (6, (13, 1, 0))] := by decide +kernel
theorem spec_13 : spec 13 = (1, 0, [(12, 2)]) := by decide +kernel
theorem spec_17 : spec 17 = (1, 1, [(12, 3)]) := by decide +kernel
theorem spec_20 : spec 20 = (1, 0, [(3, 21)]) := by decide +kernel
theorem ml_ff : (Nat.ble 1 (mL 2) && (Nat.ble 2 (mL 3) && Nat.ble 1 (mL 21))) = true := by decide +kernel
theorem cf_ck : (((fks 17).contains 2 = true ∧ fpos 17 = 5) ∧ ((fks 5).contains 10 = true ∧ fpos 5 = 9)) ∧ ((((fks 19).contains 3 = true ∧ fpos 19 = 2) ∧ ((fks 20).contains 3 = true ∧ fpos 20 = 1)) ∧ (((fks 21).contains 5 = true ∧ fpos 21 = 2) ∧ ((cdk 2 = 2 ∧ cdk 3 = 3) ∧ (cdk 5 = 5 ∧ cdk 10 = 10)))) := by decide +kernel
/-- the class's skips and lets -/
noncomputable def FcE (ad : AD) (h : AH) (k n : Nat) (sl sz lk : Nat → Int32) (f : Int32) : Prop := (n ≤ 40 ∧ At ad h 2 k 5 (.int f)) ∧ ((∃ ql mc ed, At ad h 10 0 9 (.ref ql) ∧ (h.1 ql = some (12, [.int mc, ed, .int (nI n)]) ∧ (n = 0 ∨ ∃ bq us, ed = .ref bq ∧ (h.1 bq = some (24, us) ∧ ∀ s, s < n → ∃ q, us[s]? = some (.ref q) ∧ ad 3 s = some q)))) ∧
  ∀ s, s < n → At ad h 3 s 1 (.int (sz s)) ∧ ((¬ 0 < sl s ∧ At ad h 3 s 2 .null) ∨ (0 < sl s ∧ ∃ q j, At ad h 3 s 2 (.ref q) ∧ (ad 5 j = some q ∧ ((sl s).toInt.toNat = j + 1 ∧ ∃ q2 kk, At ad h 5 j 2 (.ref q2) ∧ (ad 2 kk = some q2 ∧ (lk j = nI kk ∧ kk < 2147483648)))))))
section
variable {σ : Nat → Nat} {ad : AD} {h : AH} {np n ox qk k q M pc kd : Nat} {ex ho : Nat → Nat → Prop} {Q : Option Value → AH → Prop} {sl sz lk : Nat → Int32} {f : Int32} {tl : List (Nat × AI)} {L : LV} {S fs : List Value} {c : Int}
theorem rl_cast (h1 : h.1 q = some (kd, fs)) (hk : Rt σ M tl L (.ref q :: S) h Q) : Rt σ M ((pc, (28, kd, c)) :: tl) L (.ref q :: S) h Q := by
  refine rt_nx ?_ hk
  show s_cast kd L (.ref q :: S) h = _
  unfold s_cast am_get
  dsimp only
  rw [h1]
  dsimp only
  rw [if_pos rfl]
  rfl
theorem rl_acmpT1 {q' : Nat} (h1 : q' ≠ q) (hk : Rt σ M (jump M c.toNat) L S h Q) : Rt σ M ((pc, (21, 1, c)) :: tl) L (.ref q :: .ref q' :: S) h Q := by
  refine rt_jp ?_ hk
  show s_acmp 1 c L (.ref q :: .ref q' :: S) h = _
  rw [acmp1 (x := some q') (y := some q) rfl rfl, if_neg (fun e => h1 (Option.some.inj e))]
  rfl
theorem X_freeFeet (hT : TS ad h np ex ho) (hox : ad 10 0 = some ox) (hqk : ad 2 k = some qk) (hk : k < 2147483648) (he : FcE ad h k n sl sz lk f) (hQ : Q (some (.int (ffF sl sz lk k f n))) h) : Rt σ 20 (codeOf 20) (am_args 0 [.ref ox, .ref qk]) [] h Q := by
  obtain ⟨⟨⟨f1, f1'⟩, f2, f2'⟩, ⟨⟨f3, f3'⟩, f4, f4'⟩, ⟨f5, f5'⟩, ⟨d1, d2⟩, d3, d4⟩ := cf_ck
  obtain ⟨m1, m2⟩ := and2 ml_ff
  obtain ⟨m2, m3⟩ := and2 m2
  obtain ⟨⟨hn, e1⟩, ⟨ql, mc, ed, e2, e3, e4⟩, e5⟩ := he
  have loop : ∀ (j s : Nat) (L : LV), s + j = n → lv_get 0 L = some (.ref ox) → lv_get 1 L = some (.ref qk) → lv_get 2 L = some (.int (ffF sl sz lk k f s)) → lv_get 3 L = some (.int (nI s)) → Rt σ 20 (jump 20 7) L [] h Q := by
    intro j
    induction j with
    | zero =>
      intro s L hs l0 l1 l2 l3
      have : s = n := by omega
      subst this
      rw [j20_7]
      refine rl_load l3 rfl (rl_load l0 rfl (ra_get hT.1 (by omega) (by omega) hox (by rw [f2']; exact e2) (by rw [d4]; exact f2) (rl_callv (as := []) (r := [.int (nI s)]) spec_13 rfl rfl e3 (by show 1 ≤ 8; omega) (ref_ok (blet m1)) (L_size e3 (rl_icmpT ?_ ?_)))))
      · show some (decide (nI s ≤ nI s)) = some true
        rw [decide_eq_true ((tx_le (by omega) (by omega)).mpr (Nat.le_refl _))]
      · show Rt σ 20 (jump 20 65) _ _ _ _
        rw [j20_65]
        exact rl_load l2 rfl (rl_ret1 hQ)
    | succ j ih =>
      intro s L hs l0 l1 l2 l3
      obtain ⟨a1, a2⟩ := e5 s (by omega)
      rcases e4 with e4 | ⟨bq, us, rfl, e6, e7⟩
      · omega
      · obtain ⟨qs, u1, u2⟩ := e7 s (by omega)
        obtain ⟨vs, o1, o2⟩ := at_kind hT.1 (by omega) (by omega) a1 u2
        rw [d2] at o1
        have next : ∀ (L' : LV), lv_get 0 L' = some (.ref ox) → lv_get 1 L' = some (.ref qk) → lv_get 2 L' = some (.int (ffF sl sz lk k f (s + 1))) → lv_get 3 L' = some (.int (nI s)) → Rt σ 20 (jump 20 59) L' [] h Q := fun L' k0 k1 k2 k3 => by
          rw [j20_59]
          refine rl_iinc k3 (rl_goto ?_)
          show Rt σ 20 (jump 20 7) _ _ _ _
          rw [nI_suc (by omega)]
          exact ih (s + 1) _ (by omega) (get_put rfl rfl (by omega) k0) (get_put rfl rfl (by omega) k1) (get_put rfl rfl (by omega) k2) rfl
        have hi := nI_nn (show s < 2147483648 by omega)
        rw [j20_7]
        refine rl_load l3 rfl (rl_load l0 rfl (ra_get hT.1 (by omega) (by omega) hox (by rw [f2']; exact e2) (by rw [d4]; exact f2) (rl_callv (as := []) (r := [.int (nI s)]) spec_13 rfl rfl e3 (by show 1 ≤ 8; omega) (ref_ok (blet m1)) (L_size e3 (rl_icmpF ?_ (rl_load l0 rfl (ra_get hT.1 (by omega) (by omega) hox (by rw [f2']; exact e2) (by rw [d4]; exact f2) (rl_load l3 rfl (rl_callv (as := [.int (nI s)]) (r := []) spec_17 rfl rfl e3 (by show 0 ≤ 8; omega) (two_ok (blet m2)) (L_get (u := qs) e3 e6 hi.1 ((tx_lt (by omega) (by omega)).mpr (by omega)) (by rw [hi.2]; exact u1) (rl_cast o1 (rl_store rfl ?_))))))))))))
        · show some (decide (nI n ≤ nI s)) = some false
          rw [decide_eq_false (by rw [tx_le (by omega) (by omega)]; omega)]
        · have g0 : lv_get 0 (lv_put 4 (.ref qs) L) = some (.ref ox) := get_put rfl rfl (by omega) l0
          have g1 : lv_get 1 (lv_put 4 (.ref qs) L) = some (.ref qk) := get_put rfl rfl (by omega) l1
          have g2 : lv_get 2 (lv_put 4 (.ref qs) L) = some (.int (ffF sl sz lk k f s)) := get_put rfl rfl (by omega) l2
          have g3 : lv_get 3 (lv_put 4 (.ref qs) L) = some (.int (nI s)) := get_put rfl rfl (by omega) l3
          have skip : ¬ (0 < sl s ∧ lk ((sl s).toInt.toNat - 1) = nI k) → Rt σ 20 (jump 20 59) (lv_put 4 (.ref qs) L) [] h Q := fun hc => next _ g0 g1 (by
            rw [ffF_1, if_neg hc, Int32.sub_zero]
            exact g2) g3
          refine rl_load rfl rfl ?_
          rcases a2 with ⟨b1, b2⟩ | ⟨b1, q, jj, b2, b3, b4, q2, kk, b5, b6, b7, b8⟩
          · refine ra_get hT.1 (by omega) (by omega) u2 (by rw [f3']; exact b2) (by rw [d2]; exact f3) (rl_nulT0 ?_)
            show Rt σ 20 (jump 20 59) _ _ _ _
            exact skip fun hc => b1 hc.1
          · refine ra_get hT.1 (by omega) (by omega) u2 (by rw [f3']; exact b2) (by rw [d2]; exact f3) (rl_nulF0 (rl_load rfl rfl (ra_get hT.1 (by omega) (by omega) u2 (by rw [f3']; exact b2) (by rw [d2]; exact f3) (ra_get hT.1 (by omega) (by omega) b3 (by rw [f5']; exact b5) (by rw [d3]; exact f5) (rl_load g1 rfl ?_)))))
            by_cases ek : kk = k
            · have eq : q2 = qk := by
                rw [ek, hqk] at b6
                exact (Option.some.inj b6).symm
              have hc : 0 < sl s ∧ lk ((sl s).toInt.toNat - 1) = nI k := ⟨b1, by rw [b4, Nat.add_sub_cancel, b7, ek]⟩
              refine rl_acmpF1 eq (rl_load g2 rfl (rl_load rfl rfl (rl_callv (as := []) (r := [.int (ffF sl sz lk k f s)]) spec_20 rfl rfl o1 (by show 1 ≤ 8; omega) (ref_ok (blet m3)) ?_)))
              rw [code_21]
              refine rl_const (rl_load rfl rfl (ra_get hT.1 (by omega) (by omega) u2 (by rw [f4']; exact a1) (by rw [d2]; exact f4) (rl_bin rfl (rl_ret1 (rl_bin rfl (rl_store rfl ?_))))))
              refine next _ (get_put rfl rfl (by omega) g0) (get_put rfl rfl (by omega) g1) ?_ (get_put rfl rfl (by omega) g3)
              rw [ffF_1, if_pos hc]
              rfl
            · have ne : q2 ≠ qk := ref_ne hT.2.1 b6 hqk (by rw [d1]; omega) fun e => ek e.2
              refine rl_acmpT1 ne ?_
              show Rt σ 20 (jump 20 59) _ _ _ _
              exact skip fun hc => ek (by
                have := hc.2
                rw [b4, Nat.add_sub_cancel, b7] at this
                exact nI_inj b8 hk this)
  rw [head_20]
  refine rl_load rfl rfl (ra_get hT.1 (by omega) (by omega) hqk (by rw [f1']; exact e1) (by rw [d1]; exact f1) (rl_store rfl (rl_const (rl_store rfl ?_))))
  exact loop n 0 _ (by omega) rfl rfl rfl rfl
end
