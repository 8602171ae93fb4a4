/-! ===== the law's runs ===== -/
section
variable {σ nu : Nat → Nat} {base b kb : Nat} {xs : List Int32} {h0 h : AH} {L : LV} {i : Nat} {G : qe_SG}
theorem isv_ok {o : Option Nat} {w : Nat} (h : isV o w = true) : o = some w := by
  unfold isV at h
  split at h
  · rw [beqt h]
  · cases h
theorem val_ok : ∀ w, w < 6 → i2n (txD0.getD w 0) = valD w := by decide +kernel
theorem st5_start (hS : Start base b σ xs h0) (hR : qe_RM (qe_al σ (σ 0) base) nu base (h0.1, 0) G h) (hσ : ∀ k, k < 6 → adS (qe_al σ b base) tbS (stc k) 0 = some (σ k)) : St5 (adS (qe_al σ b base) tbS) h := fun k hk p hp => by
  obtain ⟨hl, -⟩ := start_lt hS
  refine ⟨σ k, tabK k, iv (Tab k), hσ k (by omega), ?_, ?_⟩
  · rw [hR.2.2.2.2.2 (σ k) (hl k (by omega))]
    exact hS.2.2.2.2 k (by omega)
  · have := tab_len k hk
    unfold iv
    rw [List.getElem?_map, List.getElem?_eq_getElem (by omega), List.getD_eq_getElem?_getD, List.getElem?_eq_getElem (by omega)]
    rfl
theorem r5_start (hR : qe_RM (qe_al σ (σ 0) base) nu base (h0.1, 0) G h) (hc : ckX tbS G = true) (hH : HeadOK σ (adS (qe_al σ b base) tbS) h L i) (hs : St5 (adS (qe_al σ b base) tbS) h) : R5 (adS (qe_al σ b base) tbS) h := fun t ht => by
  have h1 := List.all_eq_true.mp (and2 hc).1 t (List.mem_range.mpr ht)
  obtain ⟨c1, c2⟩ := and2 h1
  obtain ⟨c2, c3⟩ := and2 c2
  obtain ⟨x1, a1, v1⟩ := vls_ok (b := b) hR (isv_ok c1)
  obtain ⟨x3, a3, v3⟩ := vls_ok (b := b) hR (isv_ok c3)
  have kb : kBL = 0 := by decide +kernel
  have hn : adS (qe_al σ b base) tbS 0 t ≠ none := by
    have := (hH.2.2.2.2.1 t).mpr (by omega)
    rw [kb] at this
    exact this
  obtain ⟨o, ob, ov, oc, bs, s, he⟩ := bl_form hH.1 hH.2.1 hs hn
  refine ⟨0, bs, 0, ⟨by omega, he.2.2.1.2.2.2⟩, ⟨?_, fun p hp => ⟨ob, 20, bs.map .int, he.1.2.1, he.2.2.1.2.2.1, ?_⟩, fun w hw => ?_⟩, ?_, fun j hj => absurd hj (Nat.not_lt_zero _)⟩
  · rw [r5nI (x := x1) (j := 0) (by omega) (by omega)] at a1
    exact a1
  · have := he.2.2.1.2.2.2
    rw [List.getElem?_map, List.getElem?_eq_getElem (by omega), List.getD_eq_getElem?_getD, List.getElem?_eq_getElem (by omega)]
    rfl
  · obtain ⟨x2, a2, v2⟩ := vls_ok (b := b) hR (isv_ok (List.all_eq_true.mp c2 w (List.mem_range.mpr hw)))
    have e : x2 = (txEnd (txAll bs 0 0)).2.2.2.1.getD w 0 := i2n_inj (by rw [v2]; exact (val_ok w hw).symm)
    rw [← e]
    exact a2
  · rw [r5nI (x := x3) (j := 0) (by omega) (by omega)] at a3
    exact a3
theorem no_kerbs : tbS.all (fun q => !(Nat.beq q.1 2)) = true := by decide +kernel
theorem r2_start (hR : qe_RM (qe_al σ (σ 0) base) nu base (h0.1, 0) G h) (hc : ckX tbS G = true) : R2 (adS (qe_al σ b base) tbS) h := by
  obtain ⟨x, a1, v1⟩ := vls_ok (b := b) hR (isv_ok (and2 hc).2)
  rw [r5nI (x := x) (j := 0) (by omega) (by omega)] at a1
  refine ⟨0, fun _ => 0, fun _ => 0, fun _ => 0, ⟨by omega, a1⟩, fun p hp => absurd hp (Nat.not_lt_zero _), fun k hk => ?_⟩
  obtain ⟨j, hj⟩ := tb_has_ok (ads_has.mp hk)
  have := List.all_eq_true.mp no_kerbs _ (tb_mem hj)
  exact Bool.noConfusion (show false = true from this)
end
theorem law_runs : LawRuns 3584 := by
  intro base b σ xs h0 hlen hS
  obtain ⟨G2, nu, h', hc, hR, hk⟩ := pre_ok hS
  obtain ⟨hc0, hcx⟩ := and2 hc
  obtain ⟨hH, r1, r2⟩ := start_head hS hlen hR hc0
  have hs := st5_start hS hR hH.1
  obtain ⟨f, v, h2, e1, e2, e3, e4⟩ := hk _ (head_runs 3584 _ _ _ 0 rfl ⟨hH, r5_start hR hcx hH hs, fun _ => r2_start hR hcx, hs⟩)
  refine ⟨f, h2, ?_, ?_, ?_⟩
  · rw [law_m, e1, e2]
  · omega
  · omega
