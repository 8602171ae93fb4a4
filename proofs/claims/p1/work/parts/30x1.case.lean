/-! ===== cases: no call; the first calls ===== -/
set_option maxRecDepth 100000 in
theorem kl_0 : okL 0 = true := by decide +kernel
set_option maxRecDepth 100000 in
theorem kl_1 : okL 1 = true := by decide +kernel
set_option maxRecDepth 100000 in
theorem kl_2 : okL 2 = true := by decide +kernel
set_option maxRecDepth 100000 in
theorem kl_3 : okL 3 = true := by decide +kernel
set_option maxRecDepth 100000 in
theorem kl_4 : okL 4 = true := by decide +kernel
set_option maxRecDepth 100000 in
theorem kl_5 : okL 5 = true := by decide +kernel
set_option maxRecDepth 100000 in
theorem kl_6 : okL 6 = true := by decide +kernel
set_option maxRecDepth 100000 in
theorem kc_0 : okC 2147483648 2147483648 9 0 4294967295 = true := by decide +kernel
set_option maxRecDepth 100000 in
theorem kc_1 : okC 2147483649 2147483649 9 0 4294967295 = true := by decide +kernel
set_option maxRecDepth 100000 in
theorem kc_2 : okC 2147483650 2147483650 9 0 4294967295 = true := by decide +kernel
set_option maxRecDepth 100000 in
theorem kc_3 : okC 2147483651 2147483651 9 0 4294967295 = true := by decide +kernel
set_option maxRecDepth 100000 in
theorem kc_4 : okC 2147483652 2147483652 9 0 4294967295 = true := by decide +kernel
set_option maxRecDepth 100000 in
theorem kc_5 : okC 2147483653 2147483653 9 0 4294967295 = true := by decide +kernel
set_option maxRecDepth 100000 in
theorem kc_6 : okC 2147483654 2147483654 9 0 4294967295 = true := by decide +kernel
set_option maxRecDepth 100000 in
theorem kc_7 : okC 2147483655 2147483655 9 0 4294967295 = true := by decide +kernel
set_option maxRecDepth 100000 in
theorem kc_8 : okC 2147483656 2147483656 9 0 4294967295 = true := by decide +kernel
set_option maxRecDepth 100000 in
theorem kc_9 : okC 2147483657 2147483657 9 0 4294967295 = true := by decide +kernel
set_option maxRecDepth 100000 in
theorem kc_10 : okC 2147483658 2147483658 9 0 4294967295 = true := by decide +kernel
set_option maxRecDepth 100000 in
theorem kc_11 : okC 2147483659 2147483659 9 0 4294967295 = true := by decide +kernel
set_option maxRecDepth 100000 in
theorem kc_12 : okC 2147483660 2147483660 9 0 4294967295 = true := by decide +kernel
set_option maxRecDepth 100000 in
theorem kc_13 : okC 2147483661 2147483661 9 0 4294967295 = true := by decide +kernel
set_option maxRecDepth 100000 in
theorem kc_14 : okC 2147483662 2147483662 9 0 4294967295 = true := by decide +kernel
set_option maxRecDepth 100000 in
theorem kc_15 : okC 2147483663 2147483663 9 0 4294967295 = true := by decide +kernel
set_option maxRecDepth 100000 in
theorem kc_16 : okC 2147483664 2147483664 9 0 4294967295 = true := by decide +kernel
set_option maxRecDepth 100000 in
theorem kc_17 : okC 2147483665 2147483665 9 0 4294967295 = true := by decide +kernel
set_option maxRecDepth 100000 in
theorem kc_18 : okC 2147483666 2147483666 9 0 4294967295 = true := by decide +kernel
set_option maxRecDepth 100000 in
theorem kc_19 : okC 2147483667 2147483667 9 0 4294967295 = true := by decide +kernel
