/-! ===== one call from the law's head ===== -/
noncomputable def okO (W : SG) : Bool := match yrun nC 100000 lawM (lps lawM) ((jmp 18 (codeOf lawM)).drop 1) lawV [(1, 0, 0)] W [lawT W] with
  | none => false
  | some es => es.all (fun q => (match q.1 with | some v => veq v (sk 2147483649) | none => false) && (Nat.ble (g_u q.2) 999 && Nat.ble (g_q q.2) 99))
theorem law_exit : jmp exL (codeOf lawM) = [(exL, (0, 0, 1)), (exL + 1, (13, 4, 0))] := by decide +kernel
theorem law_head : (jmp 18 (codeOf lawM)).take 6 = [(18, (1, 3, 0)), (19, (1, 0, 2)), (20, (23, 0, 0)), (21, (0, 0, 7)), (23, (4, 1, 0)), (24, (5, 4, Int.ofNat exL))] := by decide +kernel
