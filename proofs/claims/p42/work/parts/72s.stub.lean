theorem cn_tab : ∀ l, l ∈ cntt → ∀ k, k ∈ l → ∀ C, C ∈ k → cn_ok C = true := by sorry
