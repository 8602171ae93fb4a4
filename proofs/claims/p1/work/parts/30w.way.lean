/-! ===== the start, and waysToChoose by itself ===== -/
noncomputable def tG (i : Nat) : List SV := (Tab i).map (fun z => sk (zi z))
noncomputable def tGs : List SO := [(30, .inr (tG 0)), (33, .inr (tG 1)), (30, .inr (tG 2)), (30, .inr (tG 3)), (30, .inr (tG 4)), (34, .inr [])]
noncomputable def GW : SG := (tGs ++ [(30, .inr (tG 0))], [], [], 0, 0)
noncomputable def isU (o : Option SO) : Bool := match o with
  | none => false
  | some p => match p.2 with
    | .inl q => Nat.beq p.1 21 && (Nat.beq q.1 1891 && Nat.beq q.2.1 3)
    | .inr _ => false
noncomputable def isE (v : Option SV) (x : SV) : Bool := match v with
  | none => false
  | some u => veq u x
noncomputable def okW : Bool := match srun 999 1000000 8 (codeOf 8) [] [] GW with
  | none => false
  | some es => es.all (fun q => isE q.1 (sref 7) && ((Nat.beq (g_h q.2).length 8 && Nat.beq (g_u q.2) 1891) && isU (g_h q.2)[7]?))
set_option maxRecDepth 100000 in
theorem ways_run : okW = true := by decide +kernel
noncomputable def okE (r : Option (List (Option SV × SG))) : Bool := match r with
  | none => false
  | some es => es.all (fun q => isE q.1 (sk 2147483649) && (Nat.ble (g_h q.2).length 600007 && Nat.ble (g_u q.2) 7302250))
noncomputable def GL (L : Nat) : SG := (tGs ++ [(31, .inr ((List.range L).map (fun (i : Nat) => ((1, i, 0) : SV))))], [], [], L, 0)
noncomputable def GC (c d i lo hi : Nat) : SG := (tGs ++ [(31, .inr ((List.range 7).map (fun (i : Nat) => ((1, i, 0) : SV))))], [(7, c, d), (i, lo, hi)], [(7, 5, (1, 0, 0), sk 2147483711)], 8, 0)
noncomputable def okL (L : Nat) : Bool := okE (srun 8 1000000 286 (codeOf 286) [(0, sref 6)] [] (GL L))
noncomputable def okC (c d i lo hi : Nat) : Bool := okE (srun 8 1000000 286 (codeOf 286) [(0, sref 6)] [] (GC c d i lo hi))
