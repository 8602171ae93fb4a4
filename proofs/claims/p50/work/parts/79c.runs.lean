/-! ===== the law's runs ===== -/
theorem law_runs : LawRuns 3584 := by
  intro base b σ xs h0 hlen hS
  obtain ⟨G2, nu, h', hc, hR, hk⟩ := pre_ok hS
  obtain ⟨hH, r1, r2⟩ := start_head hS hlen hR hc
  obtain ⟨f, v, h2, e1, e2, e3, e4⟩ := hk _ (head_runs 3584 _ _ _ 0 rfl hH)
  refine ⟨f, h2, ?_, ?_, ?_⟩
  · rw [law_m, e1, e2]
  · omega
  · omega
