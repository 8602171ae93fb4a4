set_option maxRecDepth 100000 in
theorem cke_15_0 : okEp kkN 56 196 (fra (g_n (topL (2147483648 + 15) (2147483648 + 15))) 4) (topL (2147483648 + 15) (2147483648 + 15)) (frG (topK (topL (2147483648 + 15) (2147483648 + 15))) 4) false (0 * 15) 15 = true := by sorry
set_option maxRecDepth 100000 in
theorem cke_15_1 : okEp kkN 56 196 (fra (g_n (topL (2147483648 + 15) (2147483648 + 15))) 4) (topL (2147483648 + 15) (2147483648 + 15)) (frG (topK (topL (2147483648 + 15) (2147483648 + 15))) 4) false (1 * 15) 15 = true := by sorry
set_option maxRecDepth 100000 in
theorem cke_18_0 : okEp kkN 66 204 (fra (g_n (topL (2147483648 + 18) (2147483648 + 18))) 3) (topL (2147483648 + 18) (2147483648 + 18)) (frG (topK (topL (2147483648 + 18) (2147483648 + 18))) 3) false (0 * 15) 15 = true := by sorry
set_option maxRecDepth 100000 in
theorem cke_19_0 : okEp kkN 71 207 (fra (g_n (topL (2147483648 + 19) (2147483648 + 19))) 5) (topL (2147483648 + 19) (2147483648 + 19)) (frG (topK (topL (2147483648 + 19) (2147483648 + 19))) 5) false (0 * 15) 15 = true := by sorry
set_option maxRecDepth 100000 in
theorem cke_19_1 : okEp kkN 71 207 (fra (g_n (topL (2147483648 + 19) (2147483648 + 19))) 5) (topL (2147483648 + 19) (2147483648 + 19)) (frG (topK (topL (2147483648 + 19) (2147483648 + 19))) 5) false (1 * 15) 15 = true := by sorry
set_option maxRecDepth 100000 in
theorem cke_19_2 : okEp kkN 71 207 (fra (g_n (topL (2147483648 + 19) (2147483648 + 19))) 5) (topL (2147483648 + 19) (2147483648 + 19)) (frG (topK (topL (2147483648 + 19) (2147483648 + 19))) 5) false (2 * 15) 15 = true := by sorry
set_option maxRecDepth 100000 in
theorem okC_38 : (match ycall 122 ((7, kX, 2147483648) :: fra (g_n (topL (2147483648 + 38) (2147483648 + 38))) 0) (frG (topK (topL (2147483648 + 38) (2147483648 + 38))) 0) with | some es => es.all (okE1C rb0K 247 (fra (g_n (topL (2147483648 + 38) (2147483648 + 38))) 0) (topL (2147483648 + 38) (2147483648 + 38)) false) | none => false) = true := by sorry
