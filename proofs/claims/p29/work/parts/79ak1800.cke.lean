set_option maxRecDepth 100000 in
theorem cke_18_0 : okEp kkN 66 204 (fra (g_n (topL (2147483648 + 18) (2147483648 + 18))) 3) (topL (2147483648 + 18) (2147483648 + 18)) (frG (topK (topL (2147483648 + 18) (2147483648 + 18))) 3) false (0 * 15) 15 = true := by decide +kernel
