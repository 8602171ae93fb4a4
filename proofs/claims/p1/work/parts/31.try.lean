noncomputable def GL (L c i lo hi : Nat) : SG := ([(30, .inr ((Tab 0).map (fun z => sk (zi z)))), (33, .inr ((Tab 1).map (fun z => sk (zi z)))), (30, .inr ((Tab 2).map (fun z => sk (zi z)))), (30, .inr ((Tab 3).map (fun z => sk (zi z)))), (30, .inr ((Tab 4).map (fun z => sk (zi z)))), (34, .inr []), (31, .inr ((List.range L).map (fun (i : Nat) => ((1, i, 0) : SV))))], (0, c, c) :: (i, lo, hi) :: (List.range L).map (fun i => (i, 0, 4294967295)), [], L, 0)
noncomputable def okS (c i lo hi : Nat) : Bool := match srun 1000000 286 (codeOf 286) [(0, sref 6)] [] (GL 7 (c + 2147483648) i lo hi) with
  | some es => es.all (fun q => (match q.1 with | some v => veq v (sk 2147483649) | none => false) && (decide ((g_h q.2).length ≤ 600007) && decide (g_u q.2 ≤ 7302250)))
  | none => false
set_option maxRecDepth 100000 in
theorem try_0 : okS 28 4 0 2147483647 = true := by decide +kernel
set_option maxRecDepth 100000 in
theorem try_1 : okS 28 4 2147483648 2147483648 = true := by decide +kernel
set_option maxRecDepth 100000 in
theorem try_2 : okS 28 4 2147483649 2147483649 = true := by decide +kernel
set_option maxRecDepth 100000 in
theorem try_3 : okS 28 4 2147483650 2147483650 = true := by decide +kernel
set_option maxRecDepth 100000 in
theorem try_4 : okS 28 4 2147483651 2147483651 = true := by decide +kernel
set_option maxRecDepth 100000 in
theorem try_5 : okS 28 4 2147483652 4294967295 = true := by decide +kernel
set_option maxRecDepth 100000 in
theorem try_6 : okS 41 1 0 2147483648 = true := by decide +kernel
set_option maxRecDepth 100000 in
theorem try_7 : okS 41 1 2147483649 2147483649 = true := by decide +kernel
set_option maxRecDepth 100000 in
theorem try_8 : okS 41 1 2147483650 2147483650 = true := by decide +kernel
set_option maxRecDepth 100000 in
theorem try_9 : okS 41 1 2147483651 2147483651 = true := by decide +kernel
set_option maxRecDepth 100000 in
theorem try_10 : okS 41 1 2147483652 4294967295 = true := by decide +kernel
set_option maxRecDepth 100000 in
theorem try_11 : okS 42 1 0 2147483648 = true := by decide +kernel
set_option maxRecDepth 100000 in
theorem try_12 : okS 42 1 2147483649 2147483649 = true := by decide +kernel
set_option maxRecDepth 100000 in
theorem try_13 : okS 42 1 2147483650 2147483650 = true := by decide +kernel
set_option maxRecDepth 100000 in
theorem try_14 : okS 42 1 2147483651 2147483651 = true := by decide +kernel
set_option maxRecDepth 100000 in
theorem try_15 : okS 42 1 2147483652 4294967295 = true := by decide +kernel
