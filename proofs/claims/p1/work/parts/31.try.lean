noncomputable def G0 (L : Nat) : SG := ([(30, .inr ((Tab 0).map (fun z => sk (zi z)))), (33, .inr ((Tab 1).map (fun z => sk (zi z)))), (30, .inr ((Tab 2).map (fun z => sk (zi z)))), (30, .inr ((Tab 3).map (fun z => sk (zi z)))), (30, .inr ((Tab 4).map (fun z => sk (zi z)))), (34, .inr []), (31, .inr ((List.range L).map (fun (i : Nat) => ((1, i, 0) : SV))))], (List.range L).map (fun i => (i, 0, 4294967295)), [], L, 0)
noncomputable def okE (M : Nat) (lv : SLV) (G : SG) (f : Nat) : Bool := match srun f M (codeOf M) lv [] G with
  | some es => es.all (fun q => (decide ((g_h q.2).length ≤ 600007) && decide (g_u q.2 ≤ 7302250)))
  | none => false
set_option maxRecDepth 100000 in
theorem try_0 : okE 284 [(0, sref 7), (1, sk 2147483653)] (s_mk (G0 0) (20, .inl (1000, sk 2147483653)) 0) 1000000 = true := by decide +kernel
