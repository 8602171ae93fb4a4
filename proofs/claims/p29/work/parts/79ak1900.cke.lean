set_option maxRecDepth 100000 in
theorem cke_19_0 : okEp kkN 71 207 (fra (g_n (topL (2147483648 + 19) (2147483648 + 19))) 5) (topL (2147483648 + 19) (2147483648 + 19)) (frG (topK (topL (2147483648 + 19) (2147483648 + 19))) 5) false (0 * 15) 15 = true := by decide +kernel
