/-! ===== the start, and waysToChoose by itself ===== -/
noncomputable def qe_tG (i : Nat) : List qe_SV := (Tab i).map (fun z => qe_sk (qe_zi z))
noncomputable def qe_tGs : List qe_SO := [(30, .inr (qe_tG 0)), (33, .inr (qe_tG 1)), (30, .inr (qe_tG 2)), (30, .inr (qe_tG 3)), (30, .inr (qe_tG 4)), (34, .inr [])]
noncomputable def qe_GW : qe_SG := (qe_tGs ++ [(30, .inr (qe_tG 0))], [], [], 0, 0)
noncomputable def qe_isU (o : Option qe_SO) : Bool := match o with
  | none => false
  | some p => match p.2 with
    | .inl q => Nat.beq p.1 21 && (Nat.beq q.1 1891 && Nat.beq q.2.1 3)
    | .inr _ => false
noncomputable def qe_isE (v : Option qe_SV) (x : qe_SV) : Bool := match v with
  | none => false
  | some u => qe_veq u x
noncomputable def qe_okW : Bool := match qe_srun 999 1000000 8 (codeOf 8) [] [] qe_GW with
  | none => false
  | some es => es.all (fun q => qe_isE q.1 (qe_sref 7) && ((Nat.beq (qe_g_h q.2).length 8 && Nat.beq (qe_g_u q.2) 1891) && qe_isU (qe_g_h q.2)[7]?))
set_option maxRecDepth 100000 in
theorem qe_ways_run : qe_okW = true := by decide +kernel
