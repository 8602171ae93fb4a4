/-! ===== the law's start: two constructors ===== -/
/-- places that the loop's head knows, with their numbers -/
noncomputable def pwS (T : List (Nat × Nat × Nat)) (G : qe_SG) (hh : Nat × Nat × Nat × Nat) : Option Nat := bif Nat.beq hh.1 0 then vlS T G (hh.2.1 / 128) 0 (hh.2.1 % 128) else bif Nat.beq hh.1 2 then (let n := (T.filter (fun q => Nat.beq q.1 hh.2.1)).length
  bif T.all (fun q => bif Nat.beq q.1 hh.2.1 then Nat.ble (q.2.1 + 1) n else true) && (List.range n).all (fun k => tb_has hh.2.1 k T) then some (2147483648 + n) else none) else none
noncomputable def hvS (T : List (Nat × Nat × Nat)) (G : qe_SG) (u : Nat) (hc : List (Nat × Nat × Nat × Nat)) : Option (List Nat) := match hc with
  | [] => some []
  | hh :: r => (match pwS T G hh with
    | none => none
    | some w => bif (bif Nat.ble hh.2.2.1 hh.2.2.2 then Nat.ble hh.2.2.1 w && Nat.ble w hh.2.2.2 else Nat.beq w u) then (match hvS T G w r with
      | some ws => some (w :: ws)
      | none => none) else none)
noncomputable def rlS (ws : List Nat) : Bool := rlL.all (fun q => match ws[q.1.2]? with
  | some w => Nat.ble (w + q.2.2) 2147483648
  | none => true)
noncomputable def isAt (c k : Nat) (T : List (Nat × Nat × Nat)) : Bool := match tb_at c 0 T with
  | some j => Nat.beq j k
  | none => false
noncomputable def ckP (T : List (Nat × Nat × Nat)) (G : qe_SG) : Bool := (isAt kX oX T && (isAt kM oM T && (isAt kSCR 6 T && (List.range 6).all (fun i => isAt (stc i) i T)))) && ((match hvS T G 4294967295 hcL with
  | some ws => rlS ws
  | none => false) && ((match pwS T G (2, kBL, 0, 0) with
  | some w => Nat.beq w 2147483652
  | none => false) && ((match pwS T G (2, kSH, 0, 0) with
  | some w => Nat.beq w 2147483652
  | none => false) && (Nat.ble (qe_g_h G).length 200 && Nat.ble (qe_g_u G) 10000))))
noncomputable def ckS0 (T : List (Nat × Nat × Nat)) (G : qe_SG) : Bool := tA T G && (tE T G && (tF T G && ckP T G))
/-- the texts of boroughs at the start -/
noncomputable def isV (o : Option Nat) (w : Nat) : Bool := match o with
  | some v => Nat.beq v w
  | none => false
noncomputable def valD (w : Nat) : Nat := [2147483662, 2147483650, 2147483653, 2147483648, 2147483648, 2147483688].getD w 0
noncomputable def ckX (T : List (Nat × Nat × Nat)) (G : qe_SG) : Bool := (List.range 4).all (fun b => isV (vlS T G 0 b 1) 2147483648 && ((List.range 6).all (fun w => isV (vlS T G 18 b w) (valD w)) && isV (vlS T G kMty 0 b) 2147483648)) && isV (vlS T G 11 0 19) 2147483648
noncomputable def ckS (T : List (Nat × Nat × Nat)) (G : qe_SG) : Bool := ckS0 T G && ckX T G
noncomputable def okPre : Bool := match qe_srun 8 1000000 inX (codeOf inX) [(0, qe_sref oX)] [] (qe_s_mk qe_GW (10, .inr (qe_s_obj 10)) (kNn 10)) with
  | some [(none, G1)] => (match qe_srun 8 1000000 inM (codeOf inM) [(0, qe_sref oM)] [] (qe_s_mk G1 (11, .inr (qe_s_obj 11)) (kNn 11)) with
    | some [(none, G2)] => Nat.beq (qe_g_h G1).length oM && ckS tbS G2
    | _ => false)
  | _ => false
theorem tb_T : (tB tbS && (tC tbS && Nat.beq oX 7)) = true := by decide +kernel
set_option maxRecDepth 100000 in
theorem ok_pre : okPre = true := by decide +kernel
