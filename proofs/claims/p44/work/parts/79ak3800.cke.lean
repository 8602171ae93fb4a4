set_option maxRecDepth 100000 in
theorem okC_38 : (match ycall 122 ((7, kX, 2147483648) :: fra (g_n (topL (2147483648 + 38) (2147483648 + 38))) 0) (frG (topK (topL (2147483648 + 38) (2147483648 + 38))) 0) with | some es => es.all (okE1C rb0K 247 (fra (g_n (topL (2147483648 + 38) (2147483648 + 38))) 0) (topL (2147483648 + 38) (2147483648 + 38)) false) | none => false) = true := by decide +kernel
