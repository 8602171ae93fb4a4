/-! ===== cases ===== -/
set_option maxRecDepth 100000 in
theorem kc_20 : okC 2147483668 2147483668 9 0 4294967295 = true := by decide +kernel
set_option maxRecDepth 100000 in
theorem kc_21 : okC 2147483669 2147483669 9 0 4294967295 = true := by decide +kernel
set_option maxRecDepth 100000 in
theorem kc_22 : okC 2147483670 2147483670 9 0 4294967295 = true := by decide +kernel
set_option maxRecDepth 100000 in
theorem kc_23 : okC 2147483671 2147483671 9 0 4294967295 = true := by decide +kernel
set_option maxRecDepth 100000 in
theorem kc_24 : okC 2147483672 2147483672 9 0 4294967295 = true := by decide +kernel
set_option maxRecDepth 100000 in
theorem kc_25 : okC 2147483673 2147483673 9 0 4294967295 = true := by decide +kernel
set_option maxRecDepth 100000 in
theorem kc_26 : okC 2147483674 2147483674 9 0 4294967295 = true := by decide +kernel
set_option maxRecDepth 100000 in
theorem kc_27 : okC 2147483675 2147483675 9 0 4294967295 = true := by decide +kernel
set_option maxRecDepth 100000 in
theorem kc_28_0 : okC 2147483676 2147483676 4 0 2147483647 = true := by decide +kernel
set_option maxRecDepth 100000 in
theorem kc_28_1 : okC 2147483676 2147483676 4 2147483648 2147483648 = true := by decide +kernel
set_option maxRecDepth 100000 in
theorem kc_28_2 : okC 2147483676 2147483676 4 2147483649 2147483649 = true := by decide +kernel
set_option maxRecDepth 100000 in
theorem kc_28_3 : okC 2147483676 2147483676 4 2147483650 2147483650 = true := by decide +kernel
set_option maxRecDepth 100000 in
theorem kc_28_4 : okC 2147483676 2147483676 4 2147483651 2147483651 = true := by decide +kernel
set_option maxRecDepth 100000 in
theorem kc_28_5 : okC 2147483676 2147483676 4 2147483652 4294967295 = true := by decide +kernel
set_option maxRecDepth 100000 in
theorem kc_29 : okC 2147483677 2147483677 9 0 4294967295 = true := by decide +kernel
set_option maxRecDepth 100000 in
theorem kc_30 : okC 2147483678 2147483678 9 0 4294967295 = true := by decide +kernel
set_option maxRecDepth 100000 in
theorem kc_31 : okC 2147483679 2147483679 9 0 4294967295 = true := by decide +kernel
set_option maxRecDepth 100000 in
theorem kc_32 : okC 2147483680 2147483680 9 0 4294967295 = true := by decide +kernel
set_option maxRecDepth 100000 in
theorem kc_33 : okC 2147483681 2147483681 9 0 4294967295 = true := by decide +kernel
set_option maxRecDepth 100000 in
theorem kc_34 : okC 2147483682 2147483682 9 0 4294967295 = true := by decide +kernel
set_option maxRecDepth 100000 in
theorem kc_35 : okC 2147483683 2147483683 9 0 4294967295 = true := by decide +kernel
