/-! ===== cases ===== -/
set_option maxRecDepth 100000 in
theorem kc_36 : okC 2147483684 2147483684 9 0 4294967295 = true := by decide +kernel
set_option maxRecDepth 100000 in
theorem kc_37 : okC 2147483685 2147483685 9 0 4294967295 = true := by decide +kernel
set_option maxRecDepth 100000 in
theorem kc_38 : okC 2147483686 2147483686 9 0 4294967295 = true := by decide +kernel
set_option maxRecDepth 100000 in
theorem kc_39 : okC 2147483687 2147483687 9 0 4294967295 = true := by decide +kernel
set_option maxRecDepth 100000 in
theorem kc_40 : okC 2147483688 2147483688 9 0 4294967295 = true := by decide +kernel
set_option maxRecDepth 100000 in
theorem kc_41_0 : okC 2147483689 2147483689 1 0 2147483648 = true := by decide +kernel
set_option maxRecDepth 100000 in
theorem kc_41_1 : okC 2147483689 2147483689 1 2147483649 2147483649 = true := by decide +kernel
set_option maxRecDepth 100000 in
theorem kc_41_2 : okC 2147483689 2147483689 1 2147483650 2147483650 = true := by decide +kernel
set_option maxRecDepth 100000 in
theorem kc_41_3 : okC 2147483689 2147483689 1 2147483651 2147483651 = true := by decide +kernel
set_option maxRecDepth 100000 in
theorem kc_41_4 : okC 2147483689 2147483689 1 2147483652 4294967295 = true := by decide +kernel
set_option maxRecDepth 100000 in
theorem kc_42_0 : okC 2147483690 2147483690 1 0 2147483648 = true := by decide +kernel
set_option maxRecDepth 100000 in
theorem kc_42_1 : okC 2147483690 2147483690 1 2147483649 2147483649 = true := by decide +kernel
set_option maxRecDepth 100000 in
theorem kc_42_2 : okC 2147483690 2147483690 1 2147483650 2147483650 = true := by decide +kernel
set_option maxRecDepth 100000 in
theorem kc_42_3 : okC 2147483690 2147483690 1 2147483651 2147483651 = true := by decide +kernel
set_option maxRecDepth 100000 in
theorem kc_42_4 : okC 2147483690 2147483690 1 2147483652 4294967295 = true := by decide +kernel
set_option maxRecDepth 100000 in
theorem kc_43 : okC 2147483691 2147483691 9 0 4294967295 = true := by decide +kernel
