set_option maxRecDepth 100000 in
theorem cke_15_0 : okEp kkN 56 196 (fra (g_n (topL (2147483648 + 15) (2147483648 + 15))) 4) (topL (2147483648 + 15) (2147483648 + 15)) (frG (topK (topL (2147483648 + 15) (2147483648 + 15))) 4) false (0 * 15) 15 = true := by decide +kernel
