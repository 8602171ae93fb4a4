/-! ===== the model's free feet ===== -/
noncomputable def FfE (ad : AD) (h : AH) (k n : Nat) (sl sz lk : Nat → Int32) (f : Int32) : Prop := (n ≤ 40 ∧ (At ad h 11 0 ffS (.int (nI n)) ∧ At ad h ffKf 0 k (.int f))) ∧ ((∀ s, s < n → At ad h ffSl 0 s (.int (sl s)) ∧ (At ad h ffSz 0 s (.int (sz s)) ∧ ∃ j, j ≤ 60 ∧ sl s = nI j)) ∧ ∀ l, l < 60 → At ad h ffLk 0 l (.int (lk l)))
theorem nI_tN {j : Nat} (hj : j < 2147483648) : (nI j).toInt.toNat = j := by
  have h1 := i2n_z (nI j)
  rw [nI_ok hj] at h1
  omega
theorem ffF_1 (sl sz lk : Nat → Int32) (k : Nat) (f : Int32) (s : Nat) : ffF sl sz lk k f (s + 1) = ffF sl sz lk k f s - (if 0 < sl s ∧ lk ((sl s).toInt.toNat - 1) = nI k then Int32.ofInt 4 + sz s else 0) := rfl
section
variable {σ : Nat → Nat} {ad : AD} {h : AH} {np n m k : Nat} {ex ho : Nat → Nat → Prop} {Q : Option Value → AH → Prop} {sl sz lk : Nat → Int32} {f : Int32}
theorem M_freeAt (hT : TS ad h np ex ho) (hm : ad 11 0 = some m) (hk : k < 2147483648) (he : FfE ad h k n sl sz lk f) (hQ : Q (some (.int (ffF sl sz lk k f n))) h) : Rt σ 170 (codeOf 170) (am_args 0 [.ref m, .int (nI k)]) [] h Q := by
  obtain ⟨⟨⟨f1, f1'⟩, f2, f2'⟩, ⟨⟨f3, f3'⟩, f4, f4'⟩, f5, f5'⟩ := mg_ck
  obtain ⟨⟨d1, d2⟩, -, ⟨⟨d3, d3'⟩, ⟨d4, d4'⟩, d5, d5'⟩, d6, d6'⟩ := md_ck
  obtain ⟨⟨hn, e1, e2⟩, e3, e4⟩ := he
  have loop : ∀ (j s : Nat) (L : LV), s + j = n → lv_get 0 L = some (.ref m) → lv_get 1 L = some (.int (nI k)) → lv_get 2 L = some (.int (ffF sl sz lk k f s)) → lv_get 3 L = some (.int (nI s)) → Rt σ 170 (jump 170 9) L [] h Q := by
    intro j
    induction j with
    | zero =>
      intro s L hs l0 l1 l2 l3
      have : s = n := by omega
      subst this
      rw [j170_9]
      refine rl_load l3 rfl (rl_load l0 rfl (ra_get hT.1 (by omega) (by omega) hm (by rw [f1']; exact e1) (by rw [d1]; exact f1) (rl_icmpT ?_ ?_)))
      · show some (decide (nI s ≤ nI s)) = some true
        rw [decide_eq_true ((tx_le (by omega) (by omega)).mpr (Nat.le_refl _))]
      · show Rt σ 170 (jump 170 64) _ _ _ _
        rw [j170_64]
        exact rl_load l2 rfl (rl_ret1 hQ)
    | succ j ih =>
      intro s L hs l0 l1 l2 l3
      obtain ⟨a1, a2, t, ht, a3⟩ := e3 s (by omega)
      have next : ∀ x : Int32, x = (if 0 < sl s ∧ lk ((sl s).toInt.toNat - 1) = nI k then Int32.ofInt 4 + sz s else 0) → Rt σ 170 (jump 170 56) L [.int x, .int (ffF sl sz lk k f s)] h Q := fun x hx => by
        rw [j170_56]
        refine rl_bin rfl (rl_store rfl (rl_iinc (get_put rfl rfl (by omega) l3) (rl_goto ?_)))
        show Rt σ 170 (jump 170 9) _ _ _ _
        rw [nI_suc (by omega)]
        refine ih (s + 1) _ (by omega) (get_put rfl rfl (by omega) (get_put rfl rfl (by omega) l0)) (get_put rfl rfl (by omega) (get_put rfl rfl (by omega) l1)) (get_put rfl rfl (by omega) ?_) rfl
        rw [ffF_1, ← hx]
        rfl
      have zero : ¬ (0 < sl s ∧ lk ((sl s).toInt.toNat - 1) = nI k) → Rt σ 170 (jump 170 55) L [.int (ffF sl sz lk k f s)] h Q := fun hc => by
        rw [j170_55]
        exact rl_const (next _ (by rw [if_neg hc]; rfl))
      rw [j170_9]
      refine rl_load l3 rfl (rl_load l0 rfl (ra_get hT.1 (by omega) (by omega) hm (by rw [f1']; exact e1) (by rw [d1]; exact f1) (rl_icmpF ?_ (rl_load l2 rfl (rl_load l0 rfl (ra_row hT hm f3' f3 fun q3 hq3 => rl_load l3 rfl (ra_ald hT.1 d4' (by omega) hq3 a1 (by rw [d4]; rfl) (by omega) ?_)))))))
      · show some (decide (nI n ≤ nI s)) = some false
        rw [decide_eq_false (by rw [tx_le (by omega) (by omega)]; omega)]
      · by_cases h0 : 0 < sl s
        · have htp : 0 < t := by
            rw [a3] at h0
            exact (tx_lt (a := 0) (by omega) (by omega)).mp h0
          have et : (sl s).toInt.toNat = t := by rw [a3]; exact nI_tN (by omega)
          have es : sl s - Int32.ofInt 1 = nI (t - 1) := by
            rw [a3]
            have : nI (t - 1) + Int32.ofInt 1 = nI t := by rw [nI_suc (by omega)]; congr 1; omega
            rw [← this, Int32.add_sub_cancel]
          refine rl_ifF ?_ (rl_load l0 rfl (ra_row hT hm f5' f5 fun q5 hq5 => rl_load l0 rfl (ra_row hT hm f3' f3 fun q3 hq3 => rl_load l3 rfl (ra_ald hT.1 d4' (by omega) hq3 a1 (by rw [d4]; rfl) (by omega) (rl_const (rl_bin rfl ?_))))))
          · show some (decide (sl s ≤ 0)) = some false
            rw [decide_eq_false (Int32.not_le.mpr h0)]
          · show Rt σ 170 _ L (.int (sl s - Int32.ofInt 1) :: _) h Q
            rw [es]
            refine ra_ald hT.1 d6' (by omega) hq5 (e4 (t - 1) (by omega)) (by rw [d6]; rfl) (by omega) (rl_load l1 rfl ?_)
            by_cases hk2 : lk (t - 1) = nI k
            · refine rl_icmpF (by show some (decide (¬ lk (t - 1) = nI k)) = some false; rw [decide_eq_false (fun h => h hk2)]) (rl_const (rl_load l0 rfl (ra_row hT hm f4' f4 fun q4 hq4 => rl_load l3 rfl (ra_ald hT.1 d5' (by omega) hq4 a2 (by rw [d5]; rfl) (by omega) (rl_bin rfl (rl_goto ?_))))))
              show Rt σ 170 (jump 170 56) _ _ _ _
              exact next _ (by rw [if_pos ⟨h0, by rw [et]; exact hk2⟩])
            · refine rl_icmpT (by show some (decide (¬ lk (t - 1) = nI k)) = some true; rw [decide_eq_true hk2]) ?_
              show Rt σ 170 (jump 170 55) _ _ _ _
              exact zero fun hc => hk2 (by have := hc.2; rw [et] at this; exact this)
        · refine rl_ifT ?_ (zero fun hc => h0 hc.1)
          show some (decide (sl s ≤ 0)) = some true
          rw [decide_eq_true (Int32.not_lt.mp h0)]
  rw [head_170]
  refine rl_load rfl rfl (ra_row hT hm f2' f2 fun q2 hq2 => rl_load rfl rfl (ra_ald hT.1 d3' (by omega) hq2 e2 (by rw [d3]; rfl) hk (rl_store rfl (rl_const (rl_store rfl ?_)))))
  exact loop n 0 _ (by omega) rfl rfl rfl rfl
end
