/-! ===== cases ===== -/
set_option maxRecDepth 100000 in
theorem kc_44 : okC 2147483692 2147483692 9 0 4294967295 = true := by decide +kernel
set_option maxRecDepth 100000 in
theorem kc_45 : okC 2147483693 2147483693 9 0 4294967295 = true := by decide +kernel
set_option maxRecDepth 100000 in
theorem kc_46 : okC 2147483694 2147483694 9 0 4294967295 = true := by decide +kernel
set_option maxRecDepth 100000 in
theorem kc_47 : okC 2147483695 2147483695 9 0 4294967295 = true := by decide +kernel
set_option maxRecDepth 100000 in
theorem kc_48 : okC 2147483696 2147483696 9 0 4294967295 = true := by decide +kernel
set_option maxRecDepth 100000 in
theorem kc_49 : okC 2147483697 2147483697 9 0 4294967295 = true := by decide +kernel
set_option maxRecDepth 100000 in
theorem kc_50 : okC 2147483698 2147483698 9 0 4294967295 = true := by decide +kernel
set_option maxRecDepth 100000 in
theorem kc_51 : okC 2147483699 2147483699 9 0 4294967295 = true := by decide +kernel
set_option maxRecDepth 100000 in
theorem kc_52 : okC 2147483700 2147483711 9 0 4294967295 = true := by decide +kernel
