/-! ===== a call of each kind, from the law's head ===== -/
set_option maxRecDepth 100000 in
theorem op_0 : okO (topL (2147483648 + 0) (2147483648 + 0)) = true := by decide +kernel
set_option maxRecDepth 100000 in
theorem op_1 : okO (topL (2147483648 + 1) (2147483648 + 1)) = true := by decide +kernel
set_option maxRecDepth 100000 in
theorem op_2 : okO (topL (2147483648 + 2) (2147483648 + 2)) = true := by decide +kernel
set_option maxRecDepth 100000 in
theorem op_3 : okO (topL (2147483648 + 3) (2147483648 + 3)) = true := by decide +kernel
set_option maxRecDepth 100000 in
theorem op_4 : okO (topL (2147483648 + 4) (2147483648 + 4)) = true := by decide +kernel
set_option maxRecDepth 100000 in
theorem op_5 : okO (topL (2147483648 + 5) (2147483648 + 5)) = true := by decide +kernel
set_option maxRecDepth 100000 in
theorem op_6 : okO (topL (2147483648 + 6) (2147483648 + 6)) = true := by decide +kernel
set_option maxRecDepth 100000 in
theorem op_7 : okO (topL (2147483648 + 7) (2147483648 + 7)) = true := by decide +kernel
set_option maxRecDepth 100000 in
theorem op_8 : okO (topL (2147483648 + 8) (2147483648 + 8)) = true := by decide +kernel
set_option maxRecDepth 100000 in
theorem op_12 : okO (topL (2147483648 + 12) (2147483648 + 12)) = true := by decide +kernel
set_option maxRecDepth 100000 in
theorem op_13 : okO (topL (2147483648 + 13) (2147483648 + 13)) = true := by decide +kernel
set_option maxRecDepth 100000 in
theorem op_14 : okO (topL (2147483648 + 14) (2147483648 + 14)) = true := by decide +kernel
set_option maxRecDepth 100000 in
theorem op_15 : okO (topL (2147483648 + 15) (2147483648 + 15)) = true := by decide +kernel
set_option maxRecDepth 100000 in
theorem op_16 : okO (topL (2147483648 + 16) (2147483648 + 16)) = true := by decide +kernel
set_option maxRecDepth 100000 in
theorem op_17 : okO (topL (2147483648 + 17) (2147483648 + 17)) = true := by decide +kernel
set_option maxRecDepth 100000 in
theorem op_18 : okO (topL (2147483648 + 18) (2147483648 + 18)) = true := by decide +kernel
set_option maxRecDepth 100000 in
theorem op_19 : okO (topL (2147483648 + 19) (2147483648 + 19)) = true := by decide +kernel
set_option maxRecDepth 100000 in
theorem op_20 : okO (topL (2147483648 + 20) (2147483648 + 20)) = true := by decide +kernel
set_option maxRecDepth 100000 in
theorem op_21 : okO (topL (2147483648 + 21) (2147483648 + 21)) = true := by decide +kernel
set_option maxRecDepth 100000 in
theorem op_23 : okO (topL (2147483648 + 23) (2147483648 + 23)) = true := by decide +kernel
set_option maxRecDepth 100000 in
theorem op_24 : okO (topL (2147483648 + 24) (2147483648 + 24)) = true := by decide +kernel
set_option maxRecDepth 100000 in
theorem op_25 : okO (topL (2147483648 + 25) (2147483648 + 25)) = true := by decide +kernel
set_option maxRecDepth 100000 in
theorem op_26 : okO (topL (2147483648 + 26) (2147483648 + 26)) = true := by decide +kernel
set_option maxRecDepth 100000 in
theorem op_27 : okO (topL (2147483648 + 27) (2147483648 + 27)) = true := by decide +kernel
set_option maxRecDepth 100000 in
theorem op_28 : okO (topL (2147483648 + 28) (2147483648 + 28)) = true := by decide +kernel
set_option maxRecDepth 100000 in
theorem op_29 : okO (topL (2147483648 + 29) (2147483648 + 29)) = true := by decide +kernel
set_option maxRecDepth 100000 in
theorem op_30 : okO (topL (2147483648 + 30) (2147483648 + 30)) = true := by decide +kernel
set_option maxRecDepth 100000 in
theorem op_31 : okO (topL (2147483648 + 31) (2147483648 + 31)) = true := by decide +kernel
set_option maxRecDepth 100000 in
theorem op_32 : okO (topL (2147483648 + 32) (2147483648 + 32)) = true := by decide +kernel
set_option maxRecDepth 100000 in
theorem op_33 : okO (topL (2147483648 + 33) (2147483648 + 33)) = true := by decide +kernel
set_option maxRecDepth 100000 in
theorem op_34 : okO (topL (2147483648 + 34) (2147483648 + 34)) = true := by decide +kernel
set_option maxRecDepth 100000 in
theorem op_35 : okO (topL (2147483648 + 35) (2147483648 + 35)) = true := by decide +kernel
set_option maxRecDepth 100000 in
theorem op_36 : okO (topL (2147483648 + 36) (2147483648 + 36)) = true := by decide +kernel
set_option maxRecDepth 100000 in
theorem op_37 : okO (topL (2147483648 + 37) (2147483648 + 37)) = true := by decide +kernel
set_option maxRecDepth 100000 in
theorem op_38 : okO (topL (2147483648 + 38) (2147483648 + 38)) = true := by decide +kernel
set_option maxRecDepth 100000 in
theorem op_39 : okO (topL (2147483648 + 39) (2147483648 + 39)) = true := by decide +kernel
set_option maxRecDepth 100000 in
theorem op_40 : okO (topL (2147483648 + 40) (2147483648 + 40)) = true := by decide +kernel
set_option maxRecDepth 100000 in
theorem op_41 : okO (topL (2147483648 + 41) (2147483648 + 41)) = true := by decide +kernel
set_option maxRecDepth 100000 in
theorem op_42 : okO (topL (2147483648 + 42) (2147483648 + 42)) = true := by decide +kernel
set_option maxRecDepth 100000 in
theorem op_43 : okO (topL (2147483648 + 43) (2147483648 + 43)) = true := by decide +kernel
set_option maxRecDepth 100000 in
theorem op_44 : okO (topL (2147483648 + 44) (2147483648 + 44)) = true := by decide +kernel
set_option maxRecDepth 100000 in
theorem op_45 : okO (topL (2147483648 + 45) (2147483648 + 45)) = true := by decide +kernel
set_option maxRecDepth 100000 in
theorem op_46 : okO (topL (2147483648 + 46) (2147483648 + 46)) = true := by decide +kernel
set_option maxRecDepth 100000 in
theorem op_47 : okO (topL (2147483648 + 47) (2147483648 + 47)) = true := by decide +kernel
set_option maxRecDepth 100000 in
theorem op_48 : okO (topL (2147483648 + 48) (2147483648 + 48)) = true := by decide +kernel
set_option maxRecDepth 100000 in
theorem op_49 : okO (topL (2147483648 + 49) (2147483648 + 49)) = true := by decide +kernel
set_option maxRecDepth 100000 in
theorem op_50 : okO (topL (2147483648 + 50) (2147483648 + 50)) = true := by decide +kernel
set_option maxRecDepth 100000 in
theorem op_51 : okO (topL (2147483648 + 51) (2147483648 + 51)) = true := by decide +kernel
set_option maxRecDepth 100000 in
theorem op_rest : okO (topL 2147483700 2147483711) = true := by decide +kernel
theorem op_tab (k : Nat) (hk : k < 52) : okO (topL (2147483648 + k) (2147483648 + k)) = true ∨ k ∈ [9, 10, 11, 22] := match k, hk with
  | 0, _ => Or.inl op_0
  | 1, _ => Or.inl op_1
  | 2, _ => Or.inl op_2
  | 3, _ => Or.inl op_3
  | 4, _ => Or.inl op_4
  | 5, _ => Or.inl op_5
  | 6, _ => Or.inl op_6
  | 7, _ => Or.inl op_7
  | 8, _ => Or.inl op_8
  | 9, _ => Or.inr (by decide)
  | 10, _ => Or.inr (by decide)
  | 11, _ => Or.inr (by decide)
  | 12, _ => Or.inl op_12
  | 13, _ => Or.inl op_13
  | 14, _ => Or.inl op_14
  | 15, _ => Or.inl op_15
  | 16, _ => Or.inl op_16
  | 17, _ => Or.inl op_17
  | 18, _ => Or.inl op_18
  | 19, _ => Or.inl op_19
  | 20, _ => Or.inl op_20
  | 21, _ => Or.inl op_21
  | 22, _ => Or.inr (by decide)
  | 23, _ => Or.inl op_23
  | 24, _ => Or.inl op_24
  | 25, _ => Or.inl op_25
  | 26, _ => Or.inl op_26
  | 27, _ => Or.inl op_27
  | 28, _ => Or.inl op_28
  | 29, _ => Or.inl op_29
  | 30, _ => Or.inl op_30
  | 31, _ => Or.inl op_31
  | 32, _ => Or.inl op_32
  | 33, _ => Or.inl op_33
  | 34, _ => Or.inl op_34
  | 35, _ => Or.inl op_35
  | 36, _ => Or.inl op_36
  | 37, _ => Or.inl op_37
  | 38, _ => Or.inl op_38
  | 39, _ => Or.inl op_39
  | 40, _ => Or.inl op_40
  | 41, _ => Or.inl op_41
  | 42, _ => Or.inl op_42
  | 43, _ => Or.inl op_43
  | 44, _ => Or.inl op_44
  | 45, _ => Or.inl op_45
  | 46, _ => Or.inl op_46
  | 47, _ => Or.inl op_47
  | 48, _ => Or.inl op_48
  | 49, _ => Or.inl op_49
  | 50, _ => Or.inl op_50
  | 51, _ => Or.inl op_51
  | k + 52, h => absurd h (by omega)
