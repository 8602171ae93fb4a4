noncomputable def GL (L c : Nat) : SG := ([(30, .inr ((Tab 0).map (fun z => sk (zi z)))), (33, .inr ((Tab 1).map (fun z => sk (zi z)))), (30, .inr ((Tab 2).map (fun z => sk (zi z)))), (30, .inr ((Tab 3).map (fun z => sk (zi z)))), (30, .inr ((Tab 4).map (fun z => sk (zi z)))), (34, .inr []), (31, .inr ((List.range L).map (fun (i : Nat) => ((1, i, 0) : SV))))], (0, c, c) :: (List.range L).map (fun i => (i, 0, 4294967295)), [], L, 0)
noncomputable def okL (c : Nat) : Bool := match srun 1000000 286 (codeOf 286) [(0, sref 6)] [] (GL 7 (c + 2147483648)) with
  | some es => es.all (fun q => (match q.1 with | some v => veq v (sk 2147483649) | none => false) && (decide ((g_h q.2).length ≤ 600007) && decide (g_u q.2 ≤ 7302250)))
  | none => false
set_option maxRecDepth 100000 in
theorem try_7 : okL 7 = true := by decide +kernel
set_option maxRecDepth 100000 in
theorem try_30 : okL 30 = true := by decide +kernel
