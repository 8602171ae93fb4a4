theorem op_rest : okO (topL 2147483700 2147483711) = true := by sorry
theorem op_tab (k : Nat) (hk : k < 52) : okO (topL (2147483648 + k) (2147483648 + k)) = true ∨ k ∈ [9, 10, 11, 15, 18, 19, 24, 38, 40, 41, 42] := by sorry
