/-! ===== the start, and waysToChoose by itself ===== -/
noncomputable def qe_tG (i : Nat) : List qe_SV := (Tab i).map (fun z => qe_sk (qe_zi z))
noncomputable def qe_tGs : List qe_SO := [(30, .inr (qe_tG 0)), (33, .inr (qe_tG 1)), (30, .inr (qe_tG 2)), (30, .inr (qe_tG 3)), (30, .inr (qe_tG 4)), (34, .inr [])]
noncomputable def qe_GW : qe_SG := (qe_tGs ++ [(30, .inr (qe_tG 0))], [], [], 0, 0)
