section
/-! ===== texts of boroughs, read by the class ===== -/
theorem code_44 : codeOf 44 = [(0, (1, 0, 2)), (1, (8, 77, 0)), (4, (6, 2, 42)), (7, (1, 0, 2)), (8, (8, 77, 0)), (11, (1, 0, 2)), (12, (8, 27, 0)), (15, (5, 3, 42)), (18, (1, 0, 2)), (19, (8, 77, 0)), (22, (1, 0, 2)), (23, (8, 76, 0)), (26, (23, 0, 0)), (27, (5, 3, 42)), (30, (1, 0, 2)), (31, (8, 76, 0)), (34, (1, 0, 2)), (35, (8, 77, 0)), (38, (10, 0, 0)), (39, (7, 0, 43)), (42, (0, 0, -1)), (43, (13, 1, 0))] := by decide +kernel
/-- a borough's text: bytes, length, fault, place, number, values, came -/
abbrev TXS : Type := Int32 × Int32 × Int32 × Int32 × List Int32 × List Int32
noncomputable def txF (ob ov oc : Nat) (s : TXS) : List Value := [.ref ob, .int s.1, .int s.2.1, .int s.2.2.1, .int s.2.2.2.1, .ref ov, .ref oc]
noncomputable def txH (h : AH) (o ob ov oc : Nat) (s : TXS) : AH := (fun a => if a = o then some (0, txF ob ov oc s) else if a = ov then some (20, s.2.2.2.2.1.map .int) else if a = oc then some (22, s.2.2.2.2.2.map .int) else h.1 a, h.2)
noncomputable def TxD (h : AH) (o ob ov oc : Nat) (bs : List Int32) : Prop := (o ≠ ob ∧ (o ≠ ov ∧ o ≠ oc)) ∧ ((ov ≠ ob ∧ (ov ≠ oc ∧ oc ≠ ob)) ∧ (h.1 ob = some (20, bs.map .int) ∧ bs.length = 60))
theorem f_tx : (fks 76).contains 0 = true ∧ (fks 27).contains 0 = true ∧ (fks 28).contains 0 = true ∧ (fks 77).contains 0 = true ∧ (fks 78).contains 0 = true ∧ (fks 53).contains 0 = true ∧ (fks 54).contains 0 = true := ⟨by decide +kernel, by decide +kernel, by decide +kernel, by decide +kernel, by decide +kernel, by decide +kernel, by decide +kernel⟩
theorem p_tx : fpos 76 = 0 ∧ fpos 27 = 1 ∧ fpos 28 = 2 ∧ fpos 77 = 3 ∧ fpos 78 = 4 ∧ fpos 53 = 5 ∧ fpos 54 = 6 := ⟨by decide +kernel, by decide +kernel, by decide +kernel, by decide +kernel, by decide +kernel, by decide +kernel, by decide +kernel⟩
section
variable {σ : Nat → Nat} {h : AH} {o ob ov oc M pc : Nat} {s : TXS} {bs : List Int32} {c : Int} {tl : List (Nat × AI)} {L : LV} {S : List Value} {Q : Option Value → AH → Prop}
theorem tx_o : (txH h o ob ov oc s).1 o = some (0, txF ob ov oc s) := if_pos rfl
theorem tx_b (hd : TxD h o ob ov oc bs) : (txH h o ob ov oc s).1 ob = some (20, bs.map .int) := by
  obtain ⟨⟨d1, d2, d3⟩, ⟨d4, d5, d6⟩, d7, -⟩ := hd
  show (if ob = o then _ else if ob = ov then _ else if ob = oc then _ else h.1 ob) = _
  rw [if_neg (fun e => d1 e.symm), if_neg (fun e => d4 e.symm), if_neg (fun e => d6 e.symm)]
  exact d7
theorem rt_len (hk : Rt σ M tl L (.int s.1 :: S) (txH h o ob ov oc s) Q) : Rt σ M ((pc, (8, 27, c)) :: tl) L (.ref o :: S) (txH h o ob ov oc s) Q := rl_get tx_o f_tx.2.1 (by rw [p_tx.2.1]; rfl) hk
theorem rt_plc (hk : Rt σ M tl L (.int s.2.2.1 :: S) (txH h o ob ov oc s) Q) : Rt σ M ((pc, (8, 77, c)) :: tl) L (.ref o :: S) (txH h o ob ov oc s) Q := rl_get tx_o f_tx.2.2.2.1 (by rw [p_tx.2.2.2.1]; rfl) hk
theorem rt_byt (hk : Rt σ M tl L (.ref ob :: S) (txH h o ob ov oc s) Q) : Rt σ M ((pc, (8, 76, c)) :: tl) L (.ref o :: S) (txH h o ob ov oc s) Q := rl_get tx_o f_tx.1 (by rw [p_tx.1]; rfl) hk
/-- the byte at a place -/
noncomputable def txN (bs : List Int32) (n p : Nat) : Int32 := if p < n then bs.getD p 0 else -1
theorem j44_42 : jump 44 42 = [(42, (0, 0, -1)), (43, (13, 1, 0))] := by rw [jump_jmp, code_44]; rfl
theorem j44_43 : jump 44 43 = [(43, (13, 1, 0))] := by rw [jump_jmp, code_44]; rfl
theorem tx_lt {a b : Nat} (ha : a < 2147483648) (hb : b < 2147483648) : (nI a < nI b) ↔ a < b := by
  rw [i_lt, nI_ok ha, nI_ok hb]
  omega
theorem tx_le {a b : Nat} (ha : a < 2147483648) (hb : b < 2147483648) : (nI a ≤ nI b) ↔ a ≤ b := by
  have := tx_lt hb ha
  rw [← Int32.not_lt, this]
  omega
theorem T_next {n p : Nat} (hd : TxD h o ob ov oc bs) (hn : n ≤ 60) (hp : p ≤ 60) (e1 : s.1 = nI n) (e2 : s.2.2.1 = nI p) (hQ : Q (some (.int (txN bs n p))) (txH h o ob ov oc s)) : Rt σ 44 (codeOf 44) (am_args 0 [.ref o]) [] (txH h o ob ov oc s) Q := by
  rw [code_44]
  have hp0 : ¬ (nI p < 0) := (nI_nn (by omega)).1
  refine rl_load rfl rfl (rt_plc (rl_ifF (by rw [e2]; show some (decide (nI p < 0)) = some false; rw [decide_eq_false hp0]) (rl_load rfl rfl (rt_plc (rl_load rfl rfl (rt_len ?_))))))
  rw [e1, e2]
  by_cases hlt : p < n
  · have h1 : icond 3 (nI p) (nI n) = some false := by
      show some (decide (nI n ≤ nI p)) = some false
      rw [decide_eq_false (by rw [tx_le (by omega) (by omega)]; omega)]
    refine rl_icmpF h1 (rl_load rfl rfl (rt_plc (rl_load rfl rfl (rt_byt (rl_len (tx_b hd) (by omega) (by rw [List.length_map, hd.2.2.2]; omega) ?_)))))
    rw [e2, List.length_map, hd.2.2.2]
    have h2 : icond 3 (nI p) (nI 60) = some false := by
      show some (decide (nI 60 ≤ nI p)) = some false
      rw [decide_eq_false (by rw [tx_le (by omega) (by omega)]; omega)]
    refine rl_icmpF h2 (rl_load rfl rfl (rt_byt (rl_load rfl rfl (rt_plc ?_))))
    rw [e2]
    have hb : (bs.map Value.int)[(nI p).toNatClampNeg]? = some (.int (txN bs n p)) := by
      rw [(nI_nn (show p < 2147483648 by omega)).2]
      have hl : p < bs.length := by rw [hd.2.2.2]; omega
      unfold txN
      rw [if_pos hlt, List.getElem?_map, List.getElem?_eq_getElem hl, List.getD_eq_getElem?_getD, List.getElem?_eq_getElem hl]
      rfl
    refine rl_ald (tx_b hd) rfl hp0 hb (rl_goto ?_)
    show Rt σ 44 (jump 44 43) _ _ _ _
    rw [j44_43]
    exact rl_ret1 hQ
  · have h1 : icond 3 (nI p) (nI n) = some true := by
      show some (decide (nI n ≤ nI p)) = some true
      rw [decide_eq_true (by rw [tx_le (by omega) (by omega)]; omega)]
    refine rl_icmpT h1 ?_
    show Rt σ 44 (jump 44 42) _ _ _ _
    rw [j44_42]
    have hm : txN bs n p = Int32.ofInt (-1) := by
      unfold txN
      rw [if_neg hlt]
      decide +kernel
    rw [hm] at hQ
    exact rl_const (rl_ret1 hQ)
end
end
section
theorem code_0 : codeOf 0 = [(0, (1, 0, 0)), (1, (1, 1, 0)), (2, (5, 2, 14)), (5, (1, 0, 0)), (6, (1, 2, 0)), (7, (5, 4, 14)), (10, (0, 0, 1)), (11, (7, 0, 15)), (14, (0, 0, 0)), (15, (13, 4, 0))] := by decide +kernel
theorem code_47 : codeOf 47 = [(0, (1, 0, 2)), (1, (12, 38, 0)), (4, (1, 1, 0)), (5, (5, 0, 10)), (8, (0, 0, 0)), (9, (13, 4, 0)), (10, (1, 0, 2)), (11, (18, 0, 0)), (12, (8, 77, 0)), (15, (0, 0, 1)), (16, (4, 0, 0)), (17, (9, 77, 0)), (20, (0, 0, 1)), (21, (13, 4, 0))] := by decide +kernel
theorem spec_10 : spec 10 = (0, 3, [(0, 0)]) := by decide +kernel
theorem spec_38 : spec 38 = (1, 0, [(0, 44), (1, 44)]) := by decide +kernel
theorem dc_tx : dcode (fr 77).2.2.1 = 0 ∧ dcode (fr 78).2.2.1 = 0 ∧ dcode (fr 28).2.2.1 = 0 ∧ dcode (fr 27).2.2.1 = 0 := ⟨by decide +kernel, by decide +kernel, by decide +kernel, by decide +kernel⟩
theorem ml_tx : (Nat.ble 3 (mL 0) && (Nat.ble 1 (mL 44) && (Nat.ble 2 (mL 47) && Nat.ble 4 (mL 45)))) = true := by decide +kernel
section
variable {σ : Nat → Nat} {h : AH} {o ob ov oc M M' pc a n q k : Nat} {s : TXS} {bs : List Int32} {c : Int} {tl : List (Nat × AI)} {L : LV} {S fs : List Value} {Q : Option Value → AH → Prop}
theorem rl_callv2 {as r : List Value} {l : List (Nat × Nat)} {k' : Nat} (h0 : spec a = (1, n, l)) (hf : l.find? (fun t => t.1 == k) = some (k', M')) (h1 : S = as.reverse ++ .ref q :: r) (h2 : as.length = n) (h3 : h.1 q = some (k, fs)) (h4 : am_w r ≤ 8) (h5 : am_ok (.ref q :: as) M' = true) (hk : Rt σ M' (codeOf M') (am_args 0 (.ref q :: as)) [] h (fun v h' => Rt σ M tl L (v.toList ++ r) h' Q)) : Rt σ M ((pc, (12, a, c)) :: tl) L S h Q := by
  refine rt_call ?_ hk
  show s_call a S h = _
  have hl : as.reverse.length = n := by rw [List.length_reverse]; exact h2
  have e1 : (S.take n).reverse = as := by rw [h1, ← hl, List.take_left', List.reverse_reverse]; rfl
  have e2 : S.drop n = .ref q :: r := by rw [h1, ← hl, List.drop_left']; rfl
  unfold s_call am_get
  rw [h0]
  dsimp only
  rw [e1, e2, if_pos h2]
  dsimp only
  rw [h3]
  dsimp only
  rw [hf]
  exact if_pos ⟨h4, h5⟩
noncomputable def txW (v lo hi : Int32) : Int32 := if lo ≤ v ∧ v ≤ hi then 1 else 0
theorem j0_14 : jump 0 14 = [(14, (0, 0, 0)), (15, (13, 4, 0))] := by rw [jump_jmp, code_0]; rfl
theorem j0_15 : jump 0 15 = [(15, (13, 4, 0))] := by rw [jump_jmp, code_0]; rfl
theorem T_within {v lo hi : Int32} (hQ : Q (some (.int (txW v lo hi))) h) : Rt σ 0 (codeOf 0) (am_args 0 [.int v, .int lo, .int hi]) [] h Q := by
  rw [code_0]
  refine rl_load rfl rfl (rl_load rfl rfl ?_)
  unfold txW at hQ
  by_cases h1 : v < lo
  · rw [if_neg (fun e => absurd e.1 (Int32.not_le.mpr h1))] at hQ
    refine rl_icmpT (by show some (decide (v < lo)) = some true; rw [decide_eq_true h1]) ?_
    show Rt σ 0 (jump 0 14) _ _ _ _
    rw [j0_14]
    exact rl_const (rl_ret4 (Or.inl rfl) hQ)
  · refine rl_icmpF (by show some (decide (v < lo)) = some false; rw [decide_eq_false h1]) (rl_load rfl rfl (rl_load rfl rfl ?_))
    by_cases h2 : hi < v
    · rw [if_neg (fun e => absurd e.2 (Int32.not_le.mpr h2))] at hQ
      refine rl_icmpT (by show some (decide (hi < v)) = some true; rw [decide_eq_true h2]) ?_
      show Rt σ 0 (jump 0 14) _ _ _ _
      rw [j0_14]
      exact rl_const (rl_ret4 (Or.inl rfl) hQ)
    · rw [if_pos ⟨Int32.not_lt.mp h1, Int32.not_lt.mp h2⟩] at hQ
      refine rl_icmpF (by show some (decide (hi < v)) = some false; rw [decide_eq_false h2]) (rl_const (rl_goto ?_))
      show Rt σ 0 (jump 0 15) _ _ _ _
      rw [j0_15]
      exact rl_ret4 (Or.inr rfl) hQ
noncomputable def tsP (s : TXS) (x : Int32) : TXS := (s.1, s.2.1, x, s.2.2.2)
noncomputable def tsN (s : TXS) (x : Int32) : TXS := (s.1, s.2.1, s.2.2.1, x, s.2.2.2.2)
theorem tx_set {s' : TXS} {v : Value} {i : Nat} (h1 : (txF ob ov oc s).set i v = txF ob ov oc s') (h2 : s'.2.2.2.2 = s.2.2.2.2) : am_set (txH h o ob ov oc s) o (0, (txF ob ov oc s).set i v) = txH h o ob ov oc s' := by
  unfold am_set txH
  rw [h1]
  refine Prod.ext (funext fun a => ?_) rfl
  dsimp only
  by_cases e : a = o
  · rw [if_pos e, if_pos e]
  · rw [if_neg e, if_neg e, if_neg e, h2]
theorem rt_setp {x : Int32} (hk : Rt σ M tl L S (txH h o ob ov oc (tsP s x)) Q) : Rt σ M ((pc, (9, 77, c)) :: tl) L (.int x :: .ref o :: S) (txH h o ob ov oc s) Q := by
  refine rl_put tx_o f_tx.2.2.2.1 (by rw [p_tx.2.2.2.1]; show 3 < 7; omega) (by rw [dc_tx.1]; rfl) ?_
  rw [p_tx.2.2.2.1, tx_set (s := s) (s' := tsP s x) rfl rfl]
  exact hk
theorem rt_setn {x : Int32} (hk : Rt σ M tl L S (txH h o ob ov oc (tsN s x)) Q) : Rt σ M ((pc, (9, 78, c)) :: tl) L (.int x :: .ref o :: S) (txH h o ob ov oc s) Q := by
  refine rl_put tx_o f_tx.2.2.2.2.1 (by rw [p_tx.2.2.2.2.1]; show 4 < 7; omega) (by rw [dc_tx.2.1]; rfl) ?_
  rw [p_tx.2.2.2.2.1, tx_set (s := s) (s' := tsN s x) rfl rfl]
  exact hk
theorem rt_num (hk : Rt σ M tl L (.int s.2.2.2.1 :: S) (txH h o ob ov oc s) Q) : Rt σ M ((pc, (8, 78, c)) :: tl) L (.ref o :: S) (txH h o ob ov oc s) Q := rl_get tx_o f_tx.2.2.2.2.1 (by rw [p_tx.2.2.2.2.1]; rfl) hk
theorem rt_next {n p : Nat} (hd : TxD h o ob ov oc bs) (hn : n ≤ 60) (hp : p ≤ 60) (e1 : s.1 = nI n) (e2 : s.2.2.1 = nI p) (h4 : am_w S ≤ 8) (hk : Rt σ M tl L (.int (txN bs n p) :: S) (txH h o ob ov oc s) Q) : Rt σ M ((pc, (12, 38, c)) :: tl) L (.ref o :: S) (txH h o ob ov oc s) Q := by
  refine rl_callv2 (as := []) (r := S) spec_38 (k' := 0) (M' := 44) (k := 0) (by decide) rfl rfl tx_o h4 (ref_ok (blet (and2 (and2 ml_tx).2).1)) ?_
  exact T_next hd hn hp e1 e2 hk
theorem j47_10 : jump 47 10 = [(10, (1, 0, 2)), (11, (18, 0, 0)), (12, (8, 77, 0)), (15, (0, 0, 1)), (16, (4, 0, 0)), (17, (9, 77, 0)), (20, (0, 0, 1)), (21, (13, 4, 0))] := by rw [jump_jmp, code_47]; rfl
theorem nI_suc {p : Nat} (hp : p < 2147483647) : nI p + Int32.ofInt 1 = nI (p + 1) := by
  apply i2n_inj
  have e1 : i2n (Int32.ofInt 1) = 2147483649 := by decide +kernel
  rw [kb_add, nI_ok (by omega), nI_ok (by omega), e1]
  omega
theorem T_goes {n p : Nat} {x : Int32} (hd : TxD h o ob ov oc bs) (hn : n ≤ 60) (hp : p ≤ 60) (e1 : s.1 = nI n) (e2 : s.2.2.1 = nI p) (hQ0 : txN bs n p ≠ x → Q (some (.int 0)) (txH h o ob ov oc s)) (hQ1 : txN bs n p = x → Q (some (.int 1)) (txH h o ob ov oc (tsP s (nI (p + 1))))) : Rt σ 47 (codeOf 47) (am_args 0 [.ref o, .int x]) [] (txH h o ob ov oc s) Q := by
  rw [code_47]
  refine rl_load rfl rfl (rt_next hd hn hp e1 e2 (by show 0 ≤ 8; omega) (rl_load rfl rfl ?_))
  by_cases hx : txN bs n p = x
  · refine rl_icmpT (by show some (decide (txN bs n p = x)) = some true; rw [decide_eq_true hx]) ?_
    show Rt σ 47 (jump 47 10) _ _ _ _
    rw [j47_10]
    refine rl_load rfl rfl (rl_dup rfl (rt_plc (rl_const (rl_bin rfl (rt_setp (rl_const (rl_ret4 (Or.inr rfl) ?_)))))))
    rw [e2, nI_suc (by omega)]
    exact hQ1 hx
  · refine rl_icmpF (by show some (decide (txN bs n p = x)) = some false; rw [decide_eq_false hx]) (rl_const (rl_ret4 (Or.inl rfl) (hQ0 hx)))
end
end
section
theorem code_45 : codeOf 45 = [(0, (1, 0, 2)), (1, (8, 77, 0)), (4, (2, 4, 0)), (6, (1, 0, 2)), (7, (0, 0, 0)), (8, (9, 78, 0)), (11, (1, 0, 2)), (12, (8, 77, 0)), (15, (1, 4, 0)), (17, (1, 1, 0)), (18, (4, 0, 0)), (19, (5, 3, 68)), (22, (1, 0, 2)), (23, (12, 38, 0)), (26, (0, 0, 48)), (28, (0, 0, 57)), (30, (12, 10, 0)), (33, (6, 0, 68)), (36, (1, 0, 2)), (37, (1, 0, 2)), (38, (8, 78, 0)), (41, (0, 0, 10)), (43, (4, 2, 0)), (44, (1, 0, 2)), (45, (12, 38, 0)), (48, (4, 0, 0)), (49, (0, 0, 48)), (51, (4, 1, 0)), (52, (9, 78, 0)), (55, (1, 0, 2)), (56, (18, 0, 0)), (57, (8, 77, 0)), (60, (0, 0, 1)), (61, (4, 0, 0)), (62, (9, 77, 0)), (65, (7, 0, 11)), (68, (1, 0, 2)), (69, (8, 77, 0)), (72, (1, 4, 0)), (74, (5, 0, 89)), (77, (1, 0, 2)), (78, (8, 78, 0)), (81, (1, 2, 0)), (82, (1, 3, 0)), (83, (12, 10, 0)), (86, (6, 1, 94)), (89, (1, 4, 0)), (91, (7, 0, 95)), (94, (0, 0, -1)), (95, (13, 1, 0))] := by decide +kernel
theorem j45_11 : jump 45 11 = [(11, (1, 0, 2)), (12, (8, 77, 0)), (15, (1, 4, 0)), (17, (1, 1, 0)), (18, (4, 0, 0)), (19, (5, 3, 68)), (22, (1, 0, 2)), (23, (12, 38, 0)), (26, (0, 0, 48)), (28, (0, 0, 57)), (30, (12, 10, 0)), (33, (6, 0, 68)), (36, (1, 0, 2)), (37, (1, 0, 2)), (38, (8, 78, 0)), (41, (0, 0, 10)), (43, (4, 2, 0)), (44, (1, 0, 2)), (45, (12, 38, 0)), (48, (4, 0, 0)), (49, (0, 0, 48)), (51, (4, 1, 0)), (52, (9, 78, 0)), (55, (1, 0, 2)), (56, (18, 0, 0)), (57, (8, 77, 0)), (60, (0, 0, 1)), (61, (4, 0, 0)), (62, (9, 77, 0)), (65, (7, 0, 11))] ++ jump 45 68 := by rw [jump_jmp, jump_jmp, code_45]; rfl
theorem j45_68 : jump 45 68 = [(68, (1, 0, 2)), (69, (8, 77, 0)), (72, (1, 4, 0)), (74, (5, 0, 89)), (77, (1, 0, 2)), (78, (8, 78, 0)), (81, (1, 2, 0)), (82, (1, 3, 0)), (83, (12, 10, 0)), (86, (6, 1, 94)), (89, (1, 4, 0)), (91, (7, 0, 95)), (94, (0, 0, -1)), (95, (13, 1, 0))] := by rw [jump_jmp, code_45]; rfl
theorem j45_89 : jump 45 89 = [(89, (1, 4, 0)), (91, (7, 0, 95)), (94, (0, 0, -1)), (95, (13, 1, 0))] := by rw [jump_jmp, code_45]; rfl
theorem j45_94 : jump 45 94 = [(94, (0, 0, -1)), (95, (13, 1, 0))] := by rw [jump_jmp, code_45]; rfl
theorem j45_95 : jump 45 95 = [(95, (13, 1, 0))] := by rw [jump_jmp, code_45]; rfl
noncomputable def txNum (bs : List Int32) (n : Nat) : Nat → Nat → Int32 → Nat × Int32
  | 0, p, a => (p, a)
  | k + 1, p, a => if txW (txN bs n p) (Int32.ofInt 48) (Int32.ofInt 57) = 0 then (p, a) else txNum bs n k (p + 1) (a * Int32.ofInt 10 + txN bs n p - Int32.ofInt 48)
noncomputable def txFlt (f p : Nat) (a lo hi : Int32) : Int32 := if nI p = nI f ∨ txW a lo hi = 0 then nI f else Int32.ofInt (-1)
section
variable {σ : Nat → Nat} {h : AH} {o ob ov oc M M' pc a n q k : Nat} {s : TXS} {bs : List Int32} {c : Int} {tl : List (Nat × AI)} {L : LV} {S fs : List Value} {Q : Option Value → AH → Prop}
theorem nI_plus {p k : Nat} (hp : p + k < 2147483648) : nI p + nI k = nI (p + k) := by
  apply i2n_inj
  rw [kb_add, nI_ok (by omega), nI_ok (by omega), nI_ok (by omega)]
  omega
theorem within_ok {v lo hi : Int32} (h4 : am_w S ≤ 8) (hk : Rt σ M tl L (.int (txW v lo hi) :: S) h Q) : Rt σ M ((pc, (12, 10, c)) :: tl) L (.int hi :: .int lo :: .int v :: S) h Q := by
  refine rl_calls (as := [.int v, .int lo, .int hi]) (r := S) spec_10 rfl rfl h4 ?_ (T_within hk)
  unfold am_ok
  rw [decide_eq_true (show ([.int v, .int lo, .int hi] : List Value).length ≤ mL 0 from blet (and2 ml_tx).1)]
  rfl
theorem txN_lt {p : Nat} {x : Int32} (h1 : txN bs n p = x) (h2 : x ≠ -1) : p < n := by
  by_cases e : p < n
  · exact e
  · unfold txN at h1
    rw [if_neg e] at h1
    exact absurd h1.symm h2
theorem txW_m1 : txW (-1) (Int32.ofInt 48) (Int32.ofInt 57) = 0 := by decide +kernel
theorem txN_dig {p : Nat} (h1 : txW (txN bs n p) (Int32.ofInt 48) (Int32.ofInt 57) ≠ 0) : p < n := by
  by_cases e : p < n
  · exact e
  · unfold txN at h1
    rw [if_neg e] at h1
    exact absurd txW_m1 h1
theorem T_num_loop {f fig : Nat} {lo hi : Int32} (hd : TxD h o ob ov oc bs) (hn : n ≤ 60) (hf : fig ≤ 3) (hff : f ≤ 60) : ∀ (k p : Nat) (s : TXS), p + k = f + fig → p ≤ 60 → s.1 = nI n → s.2.2.1 = nI p →
    Rt σ 45 (jump 45 68) (lv_put 4 (.int (nI f)) (am_args 0 [.ref o, .int (nI fig), .int lo, .int hi])) [] (txH h o ob ov oc (tsN (tsP s (nI (txNum bs n k p s.2.2.2.1).1)) (txNum bs n k p s.2.2.2.1).2)) Q →
    Rt σ 45 (jump 45 11) (lv_put 4 (.int (nI f)) (am_args 0 [.ref o, .int (nI fig), .int lo, .int hi])) [] (txH h o ob ov oc s) Q := by
  intro k
  induction k with
  | zero =>
    intro p s hk hp e1 e2 hQ
    have es : tsN (tsP s (nI p)) s.2.2.2.1 = s := by
      obtain ⟨a1, a2, a3, a4, a5⟩ := s
      have e2 : a3 = nI p := e2
      rw [e2]
      rfl
    rw [show txNum bs n 0 p s.2.2.2.1 = (p, s.2.2.2.1) from rfl, es] at hQ
    rw [j45_11]
    refine rl_load rfl rfl (rt_plc (rl_load rfl rfl (rl_load rfl rfl (rl_bin rfl (rl_icmpT ?_ hQ)))))
    rw [e2, nI_plus (by omega)]
    show some (decide (nI (f + fig) ≤ nI p)) = some true
    rw [decide_eq_true (by rw [tx_le (by omega) (by omega)]; omega)]
  | succ k ih =>
    intro p s hk hp e1 e2 hQ
    rw [j45_11]
    refine rl_load rfl rfl (rt_plc (rl_load rfl rfl (rl_load rfl rfl (rl_bin rfl (rl_icmpF ?_ (rl_load rfl rfl (rt_next hd hn hp e1 e2 (by show 0 ≤ 8; omega) (rl_const (rl_const (within_ok (by show 0 ≤ 8; omega) ?_))))))))))
    · rw [e2, nI_plus (by omega)]
      show some (decide (nI (f + fig) ≤ nI p)) = some false
      rw [decide_eq_false (by rw [tx_le (by omega) (by omega)]; omega)]
    · by_cases hw : txW (txN bs n p) (Int32.ofInt 48) (Int32.ofInt 57) = 0
      · rw [show txNum bs n (k + 1) p s.2.2.2.1 = (p, s.2.2.2.1) from if_pos hw] at hQ
        have es : tsN (tsP s (nI p)) s.2.2.2.1 = s := by
          obtain ⟨a1, a2, a3, a4, a5⟩ := s
          have e2 : a3 = nI p := e2
          rw [e2]
          rfl
        rw [es] at hQ
        refine rl_ifT ?_ hQ
        rw [hw]
        rfl
      · have hlt := txN_dig hw
        rw [show txNum bs n (k + 1) p s.2.2.2.1 = txNum bs n k (p + 1) (s.2.2.2.1 * Int32.ofInt 10 + txN bs n p - Int32.ofInt 48) from if_neg hw] at hQ
        refine rl_ifF ?_ (rl_load rfl rfl (rl_load rfl rfl (rt_num (rl_const (rl_bin rfl (rl_load rfl rfl (rt_next hd hn hp e1 e2 (by show 2 ≤ 8; omega) (rl_bin rfl (rl_const (rl_bin rfl (rt_setn (rl_load rfl rfl (rl_dup rfl (rt_plc (rl_const (rl_bin rfl (rt_setp (rl_goto ?_))))))))))))))))))
        · show some (decide (txW (txN bs n p) (Int32.ofInt 48) (Int32.ofInt 57) = 0)) = some false
          rw [decide_eq_false hw]
        · rw [show (tsN s (s.2.2.2.1 * Int32.ofInt 10 + txN bs n p - Int32.ofInt 48)).2.2.1 = nI p from e2, nI_suc (by omega)]
          exact ih (p + 1) _ (by omega) (by omega) e1 rfl hQ
theorem T_num {f fig : Nat} {lo hi : Int32} (hd : TxD h o ob ov oc bs) (hn : n ≤ 60) (hf : fig ≤ 3) (hp : f ≤ 60) (e1 : s.1 = nI n) (e2 : s.2.2.1 = nI f)
    (hQ : Q (some (.int (txFlt f (txNum bs n fig f 0).1 (txNum bs n fig f 0).2 lo hi))) (txH h o ob ov oc (tsN (tsP s (nI (txNum bs n fig f 0).1)) (txNum bs n fig f 0).2))) : Rt σ 45 (codeOf 45) (am_args 0 [.ref o, .int (nI fig), .int lo, .int hi]) [] (txH h o ob ov oc s) Q := by
  have hc : codeOf 45 = [(0, (1, 0, 2)), (1, (8, 77, 0)), (4, (2, 4, 0)), (6, (1, 0, 2)), (7, (0, 0, 0)), (8, (9, 78, 0))] ++ jump 45 11 := by rw [jump_jmp, code_45]; rfl
  rw [hc]
  refine rl_load rfl rfl (rt_plc (rl_store rfl (rl_load rfl rfl (rl_const (rt_setn ?_)))))
  rw [e2]
  refine T_num_loop hd hn hf hp fig f (tsN s (Int32.ofInt 0)) rfl hp e1 e2 ?_
  rw [j45_68]
  show Rt σ 45 _ _ [] (txH h o ob ov oc (tsN (tsP s (nI (txNum bs n fig f 0).1)) (txNum bs n fig f 0).2)) Q
  refine rl_load rfl rfl (rt_plc (rl_load rfl rfl ?_))
  show Rt σ 45 _ _ [.int (nI f), .int (nI (txNum bs n fig f 0).1)] _ Q
  unfold txFlt at hQ
  by_cases h1 : nI (txNum bs n fig f 0).1 = nI f
  · rw [if_pos (Or.inl h1)] at hQ
    refine rl_icmpT (by show some (decide (nI (txNum bs n fig f 0).1 = nI f)) = some true; rw [decide_eq_true h1]) ?_
    show Rt σ 45 (jump 45 89) _ _ _ _
    rw [j45_89]
    refine rl_load rfl rfl (rl_goto ?_)
    show Rt σ 45 (jump 45 95) _ _ _ _
    rw [j45_95]
    exact rl_ret1 hQ
  · refine rl_icmpF (by show some (decide (nI (txNum bs n fig f 0).1 = nI f)) = some false; rw [decide_eq_false h1]) (rl_load rfl rfl (rt_num (rl_load rfl rfl (rl_load rfl rfl (within_ok (by show 0 ≤ 8; omega) ?_)))))
    show Rt σ 45 _ _ [.int (txW (txNum bs n fig f 0).2 lo hi)] _ Q
    by_cases h2 : txW (txNum bs n fig f 0).2 lo hi = 0
    · rw [if_pos (Or.inr h2)] at hQ
      refine rl_ifF (by show some (decide (¬ txW (txNum bs n fig f 0).2 lo hi = 0)) = some false; rw [decide_eq_false (fun e => e h2)]) (rl_load rfl rfl (rl_goto ?_))
      show Rt σ 45 (jump 45 95) _ _ _ _
      rw [j45_95]
      exact rl_ret1 hQ
    · rw [if_neg (fun e => e.elim h1 h2)] at hQ
      refine rl_ifT (by show some (decide (¬ txW (txNum bs n fig f 0).2 lo hi = 0)) = some true; rw [decide_eq_true h2]) ?_
      show Rt σ 45 (jump 45 94) _ _ _ _
      rw [j45_94]
      exact rl_const (rl_ret1 hQ)
end
end
section
theorem code_43 : codeOf 43 = [(0, (0, 0, 0)), (1, (2, 1, 0)), (2, (1, 1, 0)), (3, (27, 1, 0)), (6, (23, 0, 0)), (7, (5, 3, 30)), (10, (1, 0, 2)), (11, (12, 37, 0)), (14, (27, 1, 0)), (17, (1, 1, 0)), (18, (10, 3, 0)), (19, (5, 1, 24)), (22, (1, 1, 0)), (23, (13, 1, 0)), (24, (3, 1, 1)), (27, (7, 0, 2)), (30, (0, 0, -1)), (31, (13, 1, 0))] := by decide +kernel
theorem code_39 : codeOf 39 = [(0, (0, 0, 0)), (1, (2, 1, 0)), (2, (1, 1, 0)), (3, (27, 1, 0)), (6, (23, 0, 0)), (7, (5, 3, 34)), (10, (1, 0, 2)), (11, (8, 53, 0)), (14, (1, 1, 0)), (15, (27, 0, 0)), (18, (1, 1, 0)), (19, (10, 0, 0)), (20, (11, 0, 0)), (21, (1, 0, 2)), (22, (8, 54, 0)), (25, (1, 1, 0)), (26, (0, 0, 0)), (27, (11, 2, 0)), (28, (3, 1, 1)), (31, (7, 0, 2)), (34, (13, 0, 0))] := by decide +kernel
theorem j43_2 : jump 43 2 = [(2, (1, 1, 0)), (3, (27, 1, 0)), (6, (23, 0, 0)), (7, (5, 3, 30)), (10, (1, 0, 2)), (11, (12, 37, 0)), (14, (27, 1, 0)), (17, (1, 1, 0)), (18, (10, 3, 0)), (19, (5, 1, 24)), (22, (1, 1, 0)), (23, (13, 1, 0)), (24, (3, 1, 1)), (27, (7, 0, 2)), (30, (0, 0, -1)), (31, (13, 1, 0))] := by rw [jump_jmp, code_43]; rfl
theorem j43_24 : jump 43 24 = [(24, (3, 1, 1)), (27, (7, 0, 2)), (30, (0, 0, -1)), (31, (13, 1, 0))] := by rw [jump_jmp, code_43]; rfl
theorem j43_30 : jump 43 30 = [(30, (0, 0, -1)), (31, (13, 1, 0))] := by rw [jump_jmp, code_43]; rfl
theorem j39_2 : jump 39 2 = [(2, (1, 1, 0)), (3, (27, 1, 0)), (6, (23, 0, 0)), (7, (5, 3, 34)), (10, (1, 0, 2)), (11, (8, 53, 0)), (14, (1, 1, 0)), (15, (27, 0, 0)), (18, (1, 1, 0)), (19, (10, 0, 0)), (20, (11, 0, 0)), (21, (1, 0, 2)), (22, (8, 54, 0)), (25, (1, 1, 0)), (26, (0, 0, 0)), (27, (11, 2, 0)), (28, (3, 1, 1)), (31, (7, 0, 2)), (34, (13, 0, 0))] := by rw [jump_jmp, code_39]; rfl
theorem j39_34 : jump 39 34 = [(34, (13, 0, 0))] := by rw [jump_jmp, code_39]; rfl
theorem spec_37 : spec 37 = (1, 0, [(0, 44)]) := by decide +kernel
noncomputable def txLf : List Int → Nat → Int32 → Int32
  | [], _, _ => Int32.ofInt (-1)
  | l :: r, i, c => if c = Int32.ofInt l then nI i else txLf r (i + 1) c
/-- the statics and the rows, apart from the text's own objects -/
noncomputable def TxS (σ : Nat → Nat) (h : AH) (o ov oc : Nat) : Prop := ∀ i, i < 5 → h.1 (σ i) = some (tabK i, iv (Tab i)) ∧ (σ i ≠ o ∧ (σ i ≠ ov ∧ σ i ≠ oc))
section
variable {σ : Nat → Nat} {h : AH} {o ob ov oc M M' pc a n q k : Nat} {s : TXS} {bs : List Int32} {c : Int} {tl : List (Nat × AI)} {L : LV} {S fs : List Value} {Q : Option Value → AH → Prop}
theorem tx_s (ht : TxS σ h o ov oc) {i : Nat} (hi : i < 5) : (txH h o ob ov oc s).1 (σ i) = some (tabK i, iv (Tab i)) := by
  obtain ⟨h1, h2, h3, h4⟩ := ht i hi
  show (if σ i = o then _ else if σ i = ov then _ else if σ i = oc then _ else h.1 (σ i)) = _
  rw [if_neg h2, if_neg h3, if_neg h4]
  exact h1
theorem iv_get {l : List Int} {i : Nat} (hi : i < l.length) : (iv l)[(nI i).toNatClampNeg]? = some (.int (Int32.ofInt l[i])) ∨ 2147483648 ≤ i := by
  by_cases h : i < 2147483648
  · refine Or.inl ?_
    rw [(nI_nn h).2]
    unfold iv
    rw [List.getElem?_map, List.getElem?_eq_getElem hi]
    rfl
  · exact Or.inr (by omega)
theorem T_what_loop {p : Nat} (hd : TxD h o ob ov oc bs) (ht : TxS σ h o ov oc) (hn : n ≤ 60) (hp : p ≤ 60) (e1 : s.1 = nI n) (e2 : s.2.2.1 = nI p) : ∀ (r : List Int) (i : Nat), (Tab 1).drop i = r → i ≤ 6 →
    Q (some (.int (txLf r i (txN bs n p)))) (txH h o ob ov oc s) → Rt σ 43 (jump 43 2) (lv_put 1 (.int (nI i)) (am_args 0 [.ref o])) [] (txH h o ob ov oc s) Q := by
  intro r
  induction r with
  | nil =>
    intro i hr hi hQ
    have h6 : 6 ≤ i := by
      have : (Tab 1).length ≤ i := List.drop_eq_nil_iff.mp hr
      exact this
    rw [j43_2]
    refine rl_load rfl rfl (rl_stat (rl_len (tx_s ht (by omega)) (by show 20 ≤ 33; omega) (by show 6 < 2 ^ 31; omega) (rl_icmpT ?_ ?_)))
    · show some (decide (nI 6 ≤ nI i)) = some true
      rw [decide_eq_true (by rw [tx_le (by omega) (by omega)]; omega)]
    · show Rt σ 43 (jump 43 30) _ _ _ _
      rw [j43_30]
      exact rl_const (rl_ret1 hQ)
  | cons l r ih =>
    intro i hr hi hQ
    have hl : i < (Tab 1).length := by
      by_cases e : i < (Tab 1).length
      · exact e
      · rw [List.drop_eq_nil_of_le (by omega)] at hr
        cases hr
    have hl6 : i < 6 := hl
    have e5 := List.drop_eq_getElem_cons hl
    rw [hr] at e5
    injection e5 with e6 e7
    rw [j43_2]
    refine rl_load rfl rfl (rl_stat (rl_len (tx_s ht (by omega)) (by show 20 ≤ 33; omega) (by show 6 < 2 ^ 31; omega) (rl_icmpF ?_ (rl_load rfl rfl (rl_callv (as := []) (r := []) spec_37 rfl rfl tx_o (by show 0 ≤ 8; omega) (ref_ok (blet (and2 (and2 ml_tx).2).1)) (T_next hd hn hp e1 e2 (rl_stat (rl_load rfl rfl (rl_ald (tx_s ht (by omega)) rfl (nI_nn (by omega)).1 ((iv_get hl).resolve_right (by omega)) ?_)))))))))
    · show some (decide (nI 6 ≤ nI i)) = some false
      rw [decide_eq_false (by rw [tx_le (by omega) (by omega)]; omega)]
    · rw [← e6]
      show Rt σ 43 _ _ [.int (Int32.ofInt l), .int (txN bs n p)] _ Q
      rw [txLf] at hQ
      by_cases hx : txN bs n p = Int32.ofInt l
      · rw [if_pos hx] at hQ
        refine rl_icmpF ?_ (rl_load rfl rfl (rl_ret1 hQ))
        show some (decide (¬ txN bs n p = Int32.ofInt l)) = some false
        rw [decide_eq_false (fun e => e hx)]
      · rw [if_neg hx] at hQ
        refine rl_icmpT ?_ ?_
        · show some (decide (¬ txN bs n p = Int32.ofInt l)) = some true
          rw [decide_eq_true hx]
        · show Rt σ 43 (jump 43 24) _ _ _ _
          rw [j43_24]
          refine rl_iinc (x := nI i) rfl (rl_goto ?_)
          rw [nI_suc (by omega)]
          exact ih (i + 1) e7.symm (by omega) hQ
theorem T_what {p : Nat} (hd : TxD h o ob ov oc bs) (ht : TxS σ h o ov oc) (hn : n ≤ 60) (hp : p ≤ 60) (e1 : s.1 = nI n) (e2 : s.2.2.1 = nI p) (hQ : Q (some (.int (txLf (Tab 1) 0 (txN bs n p)))) (txH h o ob ov oc s)) : Rt σ 43 (codeOf 43) (am_args 0 [.ref o]) [] (txH h o ob ov oc s) Q := by
  have hc : codeOf 43 = [(0, (0, 0, 0)), (1, (2, 1, 0))] ++ jump 43 2 := by rw [jump_jmp, code_43]; rfl
  rw [hc]
  exact rl_const (rl_store rfl (T_what_loop hd ht hn hp e1 e2 (Tab 1) 0 rfl (by omega) hQ))
end
end
section
theorem code_42 : codeOf 42 = [(0, (1, 0, 2)), (1, (12, 35, 0)), (4, (2, 1, 0)), (5, (1, 1, 0)), (6, (0, 0, -1)), (7, (5, 0, 19)), (10, (1, 0, 2)), (11, (8, 54, 0)), (14, (1, 1, 0)), (15, (10, 2, 0)), (16, (6, 0, 24)), (19, (1, 0, 2)), (20, (8, 55, 0)), (23, (13, 1, 0)), (24, (1, 0, 2)), (25, (18, 0, 0)), (26, (8, 55, 0)), (29, (0, 0, 1)), (30, (4, 0, 0)), (31, (9, 55, 0)), (34, (1, 0, 2)), (35, (8, 54, 0)), (38, (1, 1, 0)), (39, (0, 0, 1)), (40, (11, 2, 0)), (41, (27, 2, 0)), (44, (1, 1, 0)), (45, (10, 0, 0)), (46, (6, 1, 58)), (49, (1, 0, 2)), (50, (8, 53, 0)), (53, (1, 1, 0)), (54, (0, 0, 1)), (55, (11, 0, 0)), (56, (0, 0, -1)), (57, (13, 1, 0)), (58, (1, 0, 2)), (59, (27, 2, 0)), (62, (1, 1, 0)), (63, (10, 0, 0)), (64, (27, 3, 0)), (67, (1, 1, 0)), (68, (10, 0, 0)), (69, (27, 4, 0)), (72, (1, 1, 0)), (73, (10, 0, 0)), (74, (12, 36, 0)), (77, (2, 2, 0)), (78, (1, 0, 2)), (79, (8, 53, 0)), (82, (1, 1, 0)), (83, (1, 0, 2)), (84, (8, 56, 0)), (87, (11, 0, 0)), (88, (1, 2, 0)), (89, (13, 1, 0))] := by decide +kernel
theorem j42_19 : jump 42 19 = [(19, (1, 0, 2)), (20, (8, 55, 0)), (23, (13, 1, 0))] ++ jump 42 24 := by rw [jump_jmp, jump_jmp, code_42]; rfl
theorem j42_24 : jump 42 24 = [(24, (1, 0, 2)), (25, (18, 0, 0)), (26, (8, 55, 0)), (29, (0, 0, 1)), (30, (4, 0, 0)), (31, (9, 55, 0)), (34, (1, 0, 2)), (35, (8, 54, 0)), (38, (1, 1, 0)), (39, (0, 0, 1)), (40, (11, 2, 0)), (41, (27, 2, 0)), (44, (1, 1, 0)), (45, (10, 0, 0)), (46, (6, 1, 58)), (49, (1, 0, 2)), (50, (8, 53, 0)), (53, (1, 1, 0)), (54, (0, 0, 1)), (55, (11, 0, 0)), (56, (0, 0, -1)), (57, (13, 1, 0))] ++ jump 42 58 := by rw [jump_jmp, jump_jmp, code_42]; rfl
theorem j42_58 : jump 42 58 = [(58, (1, 0, 2)), (59, (27, 2, 0)), (62, (1, 1, 0)), (63, (10, 0, 0)), (64, (27, 3, 0)), (67, (1, 1, 0)), (68, (10, 0, 0)), (69, (27, 4, 0)), (72, (1, 1, 0)), (73, (10, 0, 0)), (74, (12, 36, 0)), (77, (2, 2, 0)), (78, (1, 0, 2)), (79, (8, 53, 0)), (82, (1, 1, 0)), (83, (1, 0, 2)), (84, (8, 56, 0)), (87, (11, 0, 0)), (88, (1, 2, 0)), (89, (13, 1, 0))] := by rw [jump_jmp, code_42]; rfl
theorem spec_35 : spec 35 = (1, 0, [(0, 43)]) := by decide +kernel
theorem spec_36 : spec 36 = (1, 3, [(0, 45)]) := by decide +kernel
theorem f_tx2 : (fks 55).contains 0 = true ∧ (fks 56).contains 0 = true := ⟨by decide +kernel, by decide +kernel⟩
theorem p_tx2 : fpos 55 = 3 ∧ fpos 56 = 4 ∧ dcode (fr 55).2.2.1 = 0 := ⟨by decide +kernel, by decide +kernel, by decide +kernel⟩
theorem ml_tx2 : (Nat.ble 1 (mL 43) && Nat.ble 1 (mL 42)) = true := by decide +kernel
noncomputable def txLn : List Int → Nat → Int32 → Option Nat
  | [], _, _ => none
  | l :: r, i, c => if c = Int32.ofInt l then some i else txLn r (i + 1) c
/-- a text as it is read: fault, place, number, values, came -/
abbrev TXR : Type := Int32 × Nat × Int32 × List Int32 × List Int32
noncomputable def txPart (bs : List Int32) (n p : Nat) (nm : Int32) (vs cs : List Int32) : TXR := match txLn (Tab 1) 0 (txN bs n p) with
  | none => (nI p, p, nm, vs, cs)
  | some w => if cs.getD w 0 ≠ 0 then (nI p, p, nm, vs, cs) else if Int32.ofInt ((Tab 2).getD w 0) = 0 then (Int32.ofInt (-1), p + 1, nm, vs.set w 1, cs.set w 1) else
    (txFlt (p + 1) (txNum bs n ((Tab 2).getD w 0).toNat (p + 1) 0).1 (txNum bs n ((Tab 2).getD w 0).toNat (p + 1) 0).2 (Int32.ofInt ((Tab 3).getD w 0)) (Int32.ofInt ((Tab 4).getD w 0)),
      (txNum bs n ((Tab 2).getD w 0).toNat (p + 1) 0).1, (txNum bs n ((Tab 2).getD w 0).toNat (p + 1) 0).2, vs.set w (txNum bs n ((Tab 2).getD w 0).toNat (p + 1) 0).2, cs.set w 1)
noncomputable def tsR (s : TXS) (r : TXR) : TXS := (s.1, s.2.1, nI r.2.1, r.2.2.1, r.2.2.2.1, r.2.2.2.2)
noncomputable def tsV (s : TXS) (vs : List Int32) : TXS := (s.1, s.2.1, s.2.2.1, s.2.2.2.1, vs, s.2.2.2.2.2)
noncomputable def tsC (s : TXS) (cs : List Int32) : TXS := (s.1, s.2.1, s.2.2.1, s.2.2.2.1, s.2.2.2.2.1, cs)
theorem txl_ln {c : Int32} : ∀ (l : List Int) (i : Nat), i + l.length ≤ 6 → (txLn l i c = none ∧ txLf l i c = Int32.ofInt (-1)) ∨ ∃ w, txLn l i c = some w ∧ (txLf l i c = nI w ∧ (w < 6 ∧ ∃ z, l[w - i]? = some z ∧ (i ≤ w ∧ c = Int32.ofInt z))) := by
  intro l
  induction l with
  | nil => intro i _; exact Or.inl ⟨rfl, rfl⟩
  | cons z r ih =>
    intro i hi
    rw [List.length_cons] at hi
    rw [txLn, txLf]
    by_cases e : c = Int32.ofInt z
    · rw [if_pos e, if_pos e]
      exact Or.inr ⟨i, rfl, rfl, by omega, z, by rw [Nat.sub_self]; rfl, Nat.le_refl _, e⟩
    · rw [if_neg e, if_neg e]
      rcases ih (i + 1) (by omega) with h | ⟨w, h1, h2, h3, z', h4, h5, h6⟩
      · exact Or.inl h
      · refine Or.inr ⟨w, h1, h2, h3, z', ?_, by omega, h6⟩
        rw [show w - i = (w - (i + 1)) + 1 by omega]
        exact h4
section
variable {σ : Nat → Nat} {h : AH} {o ob ov oc M M' pc a n q k : Nat} {s : TXS} {bs : List Int32} {c : Int} {tl : List (Nat × AI)} {L : LV} {S fs : List Value} {Q : Option Value → AH → Prop}
theorem rt_val (hk : Rt σ M tl L (.ref ov :: S) (txH h o ob ov oc s) Q) : Rt σ M ((pc, (8, 53, c)) :: tl) L (.ref o :: S) (txH h o ob ov oc s) Q := rl_get tx_o f_tx.2.2.2.2.2.1 (by rw [p_tx.2.2.2.2.2.1]; rfl) hk
theorem rt_cam (hk : Rt σ M tl L (.ref oc :: S) (txH h o ob ov oc s) Q) : Rt σ M ((pc, (8, 54, c)) :: tl) L (.ref o :: S) (txH h o ob ov oc s) Q := rl_get tx_o f_tx.2.2.2.2.2.2 (by rw [p_tx.2.2.2.2.2.2]; rfl) hk
theorem rt_plc5 (hk : Rt σ M tl L (.int s.2.2.1 :: S) (txH h o ob ov oc s) Q) : Rt σ M ((pc, (8, 55, c)) :: tl) L (.ref o :: S) (txH h o ob ov oc s) Q := rl_get tx_o f_tx2.1 (by rw [p_tx2.1]; rfl) hk
theorem rt_num6 (hk : Rt σ M tl L (.int s.2.2.2.1 :: S) (txH h o ob ov oc s) Q) : Rt σ M ((pc, (8, 56, c)) :: tl) L (.ref o :: S) (txH h o ob ov oc s) Q := rl_get tx_o f_tx2.2 (by rw [p_tx2.2.1]; rfl) hk
theorem rt_setp5 {x : Int32} (hk : Rt σ M tl L S (txH h o ob ov oc (tsP s x)) Q) : Rt σ M ((pc, (9, 55, c)) :: tl) L (.int x :: .ref o :: S) (txH h o ob ov oc s) Q := by
  refine rl_put tx_o f_tx2.1 (by rw [p_tx2.1]; show 3 < 7; omega) (by rw [p_tx2.2.2]; rfl) ?_
  rw [p_tx2.1, tx_set (s := s) (s' := tsP s x) rfl rfl]
  exact hk
theorem tx_v (hd : TxD h o ob ov oc bs) : (txH h o ob ov oc s).1 ov = some (20, s.2.2.2.2.1.map .int) := by
  show (if ov = o then _ else if ov = ov then _ else _) = _
  rw [if_neg (fun e => hd.1.2.1 e.symm), if_pos rfl]
theorem tx_c (hd : TxD h o ob ov oc bs) : (txH h o ob ov oc s).1 oc = some (22, s.2.2.2.2.2.map .int) := by
  show (if oc = o then _ else if oc = ov then _ else if oc = oc then _ else _) = _
  rw [if_neg (fun e => hd.1.2.2 e.symm), if_neg (fun e => hd.2.1.2.1 e.symm), if_pos rfl]
theorem rt_setv {w : Nat} {x : Int32} (hd : TxD h o ob ov oc bs) (hw : w < 6) (hl : s.2.2.2.2.1.length = 6) (hk : Rt σ M tl L S (txH h o ob ov oc (tsV s (s.2.2.2.2.1.set w x))) Q) : Rt σ M ((pc, (11, 0, c)) :: tl) L (.int x :: .int (nI w) :: .ref ov :: S) (txH h o ob ov oc s) Q := by
  have e := (nI_nn (show w < 2147483648 by omega)).2
  refine rl_ast (tx_v hd) rfl (nI_nn (by omega)).1 (by rw [e, List.length_map, hl]; exact hw) ?_
  rw [e]
  have e2 : am_set (txH h o ob ov oc s) ov (20, (s.2.2.2.2.1.map Value.int).set w (.int x)) = txH h o ob ov oc (tsV s (s.2.2.2.2.1.set w x)) := by
    unfold am_set txH
    refine Prod.ext (funext fun a => ?_) rfl
    dsimp only
    by_cases e1 : a = ov
    · rw [if_pos e1, if_neg (fun e => hd.1.2.1 (e.symm.trans e1)), if_pos e1]
      show some (20, _) = some (20, (s.2.2.2.2.1.set w x).map Value.int)
      rw [List.map_set]
    · rw [if_neg e1, if_neg e1, if_neg e1]
      rfl
  rw [e2]
  exact hk
theorem rt_setc {w : Nat} {x : Int32} (hd : TxD h o ob ov oc bs) (hw : w < 6) (hl : s.2.2.2.2.2.length = 6) (hx : x = 0 ∨ x = 1) (hk : Rt σ M tl L S (txH h o ob ov oc (tsC s (s.2.2.2.2.2.set w x))) Q) : Rt σ M ((pc, (11, 2, c)) :: tl) L (.int x :: .int (nI w) :: .ref oc :: S) (txH h o ob ov oc s) Q := by
  have e := (nI_nn (show w < 2147483648 by omega)).2
  refine rl_ast (tx_c hd) ?_ (nI_nn (by omega)).1 (by rw [e, List.length_map, hl]; exact hw) ?_
  · rcases hx with rfl | rfl <;> rfl
  rw [e]
  have e2 : am_set (txH h o ob ov oc s) oc (22, (s.2.2.2.2.2.map Value.int).set w (.int x)) = txH h o ob ov oc (tsC s (s.2.2.2.2.2.set w x)) := by
    unfold am_set txH
    refine Prod.ext (funext fun a => ?_) rfl
    dsimp only
    by_cases e1 : a = oc
    · rw [if_pos e1, if_neg (fun e => hd.1.2.2 (e.symm.trans e1)), if_neg (fun e => hd.2.1.2.1 (e.symm.trans e1)), if_pos e1]
      show some (22, _) = some (22, (s.2.2.2.2.2.set w x).map Value.int)
      rw [List.map_set]
    · rw [if_neg e1, if_neg e1, if_neg e1]
      rfl
  rw [e2]
  exact hk
theorem map_get {l : List Int32} {w : Nat} (hw : w < l.length) (h6 : w < 2147483648) : (l.map Value.int)[(nI w).toNatClampNeg]? = some (.int (l.getD w 0)) := by
  rw [(nI_nn h6).2, List.getElem?_map, List.getElem?_eq_getElem hw, List.getD_eq_getElem?_getD, List.getElem?_eq_getElem hw]
  rfl
theorem tab_get {j w : Nat} (hj : (Tab j).length = 6) (hw : w < 6) : (iv (Tab j))[(nI w).toNatClampNeg]? = some (.int (Int32.ofInt ((Tab j).getD w 0))) := by
  have h1 : w < (Tab j).length := by omega
  rw [(nI_nn (by omega)).2]
  unfold iv
  rw [List.getElem?_map, List.getElem?_eq_getElem h1, List.getD_eq_getElem?_getD, List.getElem?_eq_getElem h1]
  rfl
theorem fig_nI {w : Nat} (hw : w < 6) : Int32.ofInt ((Tab 2).getD w 0) = nI ((Tab 2).getD w 0).toNat ∧ ((Tab 2).getD w 0).toNat ≤ 3 := by
  have : w = 0 ∨ w = 1 ∨ w = 2 ∨ w = 3 ∨ w = 4 ∨ w = 5 := by omega
  rcases this with rfl | rfl | rfl | rfl | rfl | rfl <;> exact ⟨by decide +kernel, by decide +kernel⟩
theorem txl_pos {p w : Nat} (h1 : txLn (Tab 1) 0 (txN bs n p) = some w) : p < n := by
  rcases txl_ln (c := txN bs n p) (Tab 1) 0 (by show 0 + 6 ≤ 6; omega) with ⟨h2, -⟩ | ⟨w', -, -, h3, z, h4, -, h5⟩
  · rw [h1] at h2; cases h2
  · refine txN_lt h5 fun e => ?_
    have : w' = 0 ∨ w' = 1 ∨ w' = 2 ∨ w' = 3 ∨ w' = 4 ∨ w' = 5 := by omega
    rcases this with rfl | rfl | rfl | rfl | rfl | rfl <;> cases h4 <;> exact absurd e (by decide +kernel)
theorem T_part {p : Nat} (hd : TxD h o ob ov oc bs) (ht : TxS σ h o ov oc) (hn : n ≤ 60) (hp : p ≤ 60) (e1 : s.1 = nI n) (e2 : s.2.2.1 = nI p) (l1 : s.2.2.2.2.1.length = 6) (l2 : s.2.2.2.2.2.length = 6)
    (hQ : Q (some (.int (txPart bs n p s.2.2.2.1 s.2.2.2.2.1 s.2.2.2.2.2).1)) (txH h o ob ov oc (tsR s (txPart bs n p s.2.2.2.1 s.2.2.2.2.1 s.2.2.2.2.2)))) : Rt σ 42 (codeOf 42) (am_args 0 [.ref o]) [] (txH h o ob ov oc s) Q := by
  have hc : codeOf 42 = [(0, (1, 0, 2)), (1, (12, 35, 0)), (4, (2, 1, 0)), (5, (1, 1, 0)), (6, (0, 0, -1)), (7, (5, 0, 19)), (10, (1, 0, 2)), (11, (8, 54, 0)), (14, (1, 1, 0)), (15, (10, 2, 0)), (16, (6, 0, 24))] ++ jump 42 19 := by rw [jump_jmp, code_42]; rfl
  rw [hc]
  have es : tsR s (nI p, p, s.2.2.2.1, s.2.2.2.2.1, s.2.2.2.2.2) = s := by
    obtain ⟨a1, a2, a3, a4, a5, a6⟩ := s
    have e2 : a3 = nI p := e2
    rw [e2]
    rfl
  refine rl_load rfl rfl (rl_callv (as := []) (r := []) spec_35 rfl rfl tx_o (by show 0 ≤ 8; omega) (ref_ok (blet (and2 ml_tx2).1)) (T_what hd ht hn hp e1 e2 (rl_store rfl (rl_load rfl rfl (rl_const ?_)))))
  show Rt σ 42 _ (lv_put 1 (.int (txLf (Tab 1) 0 (txN bs n p))) (am_args 0 [.ref o])) [.int (Int32.ofInt (-1)), .int (txLf (Tab 1) 0 (txN bs n p))] _ Q
  have fin : (txPart bs n p s.2.2.2.1 s.2.2.2.2.1 s.2.2.2.2.2) = (nI p, p, s.2.2.2.1, s.2.2.2.2.1, s.2.2.2.2.2) → ∀ L : LV, lv_get 0 L = some (.ref o) → Rt σ 42 (jump 42 19) L [] (txH h o ob ov oc s) Q := by
    intro e L hL
    rw [e, es] at hQ
    rw [j42_19]
    refine rl_load hL rfl (rt_plc5 (rl_ret1 ?_))
    rw [e2]
    exact hQ
  rcases txl_ln (c := txN bs n p) (Tab 1) 0 (by show 0 + 6 ≤ 6; omega) with ⟨h1, h2⟩ | ⟨w, h1, h2, h3, -⟩
  · rw [h2]
    refine rl_icmpT rfl (fin ?_ _ rfl)
    unfold txPart
    rw [h1]
  · have hpn := txl_pos h1
    rw [h2]
    refine rl_icmpF ?_ (rl_load rfl rfl (rt_cam (rl_load rfl rfl (rl_ald (tx_c hd) rfl (nI_nn (by omega)).1 (map_get (by omega) (by omega)) ?_))))
    · show some (decide (nI w = Int32.ofInt (-1))) = some false
      rw [decide_eq_false]
      intro e
      have e3 := congrArg i2n e
      rw [nI_ok (by omega), show i2n (Int32.ofInt (-1)) = 2147483647 by decide +kernel] at e3
      omega
    · by_cases hcm : s.2.2.2.2.2.getD w 0 ≠ 0
      · refine rl_ifF (by show some (decide (s.2.2.2.2.2.getD w 0 = 0)) = some false; rw [decide_eq_false hcm]) (fin ?_ _ rfl)
        unfold txPart
        rw [h1]
        exact if_pos hcm
      · have hcm0 : s.2.2.2.2.2.getD w 0 = 0 := Decidable.not_not.mp hcm
        refine rl_ifT (by show some (decide (s.2.2.2.2.2.getD w 0 = 0)) = some true; rw [decide_eq_true hcm0]) ?_
        show Rt σ 42 (jump 42 24) _ _ _ _
        rw [j42_24]
        refine rl_load rfl rfl (rl_dup rfl (rt_plc5 (rl_const (rl_bin rfl (rt_setp5 (rl_load rfl rfl (rt_cam (rl_load rfl rfl (rl_const (rt_setc hd h3 l2 (Or.inr rfl) (rl_stat (rl_load rfl rfl (rl_ald (tx_s ht (by omega)) rfl (nI_nn (by omega)).1 (tab_get rfl h3) ?_)))))))))))))
        rw [e2, nI_suc (by omega)]
        by_cases hfg : Int32.ofInt ((Tab 2).getD w 0) = 0
        · refine rl_ifF (by show some (decide (¬ Int32.ofInt ((Tab 2).getD w 0) = 0)) = some false; rw [decide_eq_false (fun e => e hfg)]) (rl_load rfl rfl (rt_val (rl_load rfl rfl (rl_const (rt_setv hd h3 l1 (rl_const (rl_ret1 ?_)))))))
          have e4 : txPart bs n p s.2.2.2.1 s.2.2.2.2.1 s.2.2.2.2.2 = (Int32.ofInt (-1), p + 1, s.2.2.2.1, s.2.2.2.2.1.set w 1, s.2.2.2.2.2.set w 1) := by
            unfold txPart
            rw [h1]
            dsimp only
            rw [if_neg hcm, if_pos hfg]
          rw [e4] at hQ
          exact hQ
        · refine rl_ifT (by show some (decide (¬ Int32.ofInt ((Tab 2).getD w 0) = 0)) = some true; rw [decide_eq_true hfg]) ?_
          show Rt σ 42 (jump 42 58) _ _ _ _
          rw [j42_58]
          obtain ⟨fg1, fg2⟩ := fig_nI h3
          have e4 : txPart bs n p s.2.2.2.1 s.2.2.2.2.1 s.2.2.2.2.2 = (txFlt (p + 1) (txNum bs n ((Tab 2).getD w 0).toNat (p + 1) 0).1 (txNum bs n ((Tab 2).getD w 0).toNat (p + 1) 0).2 (Int32.ofInt ((Tab 3).getD w 0)) (Int32.ofInt ((Tab 4).getD w 0)),
      (txNum bs n ((Tab 2).getD w 0).toNat (p + 1) 0).1, (txNum bs n ((Tab 2).getD w 0).toNat (p + 1) 0).2, s.2.2.2.2.1.set w (txNum bs n ((Tab 2).getD w 0).toNat (p + 1) 0).2, s.2.2.2.2.2.set w 1) := by
            unfold txPart
            rw [h1]
            dsimp only
            rw [if_neg hcm, if_neg hfg]
          rw [e4] at hQ
          refine rl_load rfl rfl (rl_stat (rl_load rfl rfl (rl_ald (tx_s ht (by omega)) rfl (nI_nn (by omega)).1 (tab_get rfl h3) (rl_stat (rl_load rfl rfl (rl_ald (tx_s ht (by omega)) rfl (nI_nn (by omega)).1 (tab_get rfl h3) (rl_stat (rl_load rfl rfl (rl_ald (tx_s ht (by omega)) rfl (nI_nn (by omega)).1 (tab_get rfl h3) ?_))))))))) 
          rw [fg1]
          refine rl_callv (as := [.int (nI ((Tab 2).getD w 0).toNat), .int (Int32.ofInt ((Tab 3).getD w 0)), .int (Int32.ofInt ((Tab 4).getD w 0))]) (r := []) spec_36 rfl rfl tx_o (by show 0 ≤ 8; omega) ?_ (T_num hd hn fg2 (by omega) e1 rfl ?_)
          · unfold am_ok
            rw [decide_eq_true (show ([.ref o, .int (nI ((Tab 2).getD w 0).toNat), .int (Int32.ofInt ((Tab 3).getD w 0)), .int (Int32.ofInt ((Tab 4).getD w 0))] : List Value).length ≤ mL 45 from blet (and2 (and2 (and2 ml_tx).2).2).2)]
            rfl
          · refine rl_store rfl (rl_load rfl rfl (rt_val (rl_load rfl rfl (rl_load rfl rfl (rt_num6 (rt_setv hd h3 l1 (rl_load rfl rfl (rl_ret1 hQ))))))))
end
end
section
theorem code_41 : codeOf 41 = [(0, (0, 0, 0)), (1, (2, 1, 0)), (2, (1, 1, 0)), (3, (0, 0, 60)), (5, (5, 3, 51)), (8, (1, 0, 2)), (9, (12, 33, 0)), (12, (2, 2, 0)), (13, (1, 2, 0)), (14, (0, 0, -1)), (15, (5, 1, 29)), (18, (1, 0, 2)), (19, (8, 77, 0)), (22, (1, 0, 2)), (23, (8, 27, 0)), (26, (5, 2, 31)), (29, (1, 2, 0)), (30, (13, 1, 0)), (31, (1, 0, 2)), (32, (0, 0, 59)), (34, (12, 34, 0)), (37, (6, 1, 45)), (40, (1, 0, 2)), (41, (8, 77, 0)), (44, (13, 1, 0)), (45, (3, 1, 1)), (48, (7, 0, 2)), (51, (1, 0, 2)), (52, (8, 77, 0)), (55, (13, 1, 0))] := by decide +kernel
theorem code_38 : codeOf 38 = [(0, (1, 0, 2)), (1, (12, 31, 0)), (4, (1, 0, 2)), (5, (0, 0, 0)), (6, (9, 77, 0)), (9, (1, 0, 2)), (10, (1, 0, 2)), (11, (8, 27, 0)), (14, (6, 1, 21)), (17, (0, 0, -1)), (18, (7, 0, 25)), (21, (1, 0, 2)), (22, (12, 32, 0)), (25, (9, 28, 0)), (28, (1, 0, 2)), (29, (8, 28, 0)), (32, (0, 0, -1)), (33, (5, 0, 40)), (36, (1, 0, 2)), (37, (12, 31, 0)), (40, (13, 0, 0))] := by decide +kernel
theorem j41_2 : jump 41 2 = [(2, (1, 1, 0)), (3, (0, 0, 60)), (5, (5, 3, 51)), (8, (1, 0, 2)), (9, (12, 33, 0)), (12, (2, 2, 0)), (13, (1, 2, 0)), (14, (0, 0, -1)), (15, (5, 1, 29)), (18, (1, 0, 2)), (19, (8, 77, 0)), (22, (1, 0, 2)), (23, (8, 27, 0)), (26, (5, 2, 31))] ++ jump 41 29 := by rw [jump_jmp, jump_jmp, code_41]; rfl
theorem j41_29 : jump 41 29 = [(29, (1, 2, 0)), (30, (13, 1, 0))] ++ jump 41 31 := by rw [jump_jmp, jump_jmp, code_41]; rfl
theorem j41_31 : jump 41 31 = [(31, (1, 0, 2)), (32, (0, 0, 59)), (34, (12, 34, 0)), (37, (6, 1, 45)), (40, (1, 0, 2)), (41, (8, 77, 0)), (44, (13, 1, 0))] ++ jump 41 45 := by rw [jump_jmp, jump_jmp, code_41]; rfl
theorem j41_45 : jump 41 45 = [(45, (3, 1, 1)), (48, (7, 0, 2))] ++ jump 41 51 := by rw [jump_jmp, jump_jmp, code_41]; rfl
theorem j41_51 : jump 41 51 = [(51, (1, 0, 2)), (52, (8, 77, 0)), (55, (13, 1, 0))] := by rw [jump_jmp, code_41]; rfl
theorem j38_21 : jump 38 21 = [(21, (1, 0, 2)), (22, (12, 32, 0))] ++ jump 38 25 := by rw [jump_jmp, jump_jmp, code_38]; rfl
theorem j38_25 : jump 38 25 = [(25, (9, 28, 0)), (28, (1, 0, 2)), (29, (8, 28, 0)), (32, (0, 0, -1)), (33, (5, 0, 40)), (36, (1, 0, 2)), (37, (12, 31, 0))] ++ jump 38 40 := by rw [jump_jmp, jump_jmp, code_38]; rfl
theorem j38_40 : jump 38 40 = [(40, (13, 0, 0))] := by rw [jump_jmp, code_38]; rfl
theorem spec_31' : spec 31 = (1, 0, [(0, 39), (1, 40)]) := by decide +kernel
theorem spec_32 : spec 32 = (1, 0, [(0, 41), (1, 41)]) := by decide +kernel
theorem spec_33 : spec 33 = (1, 0, [(0, 42), (1, 46)]) := by decide +kernel
theorem spec_34 : spec 34 = (1, 1, [(0, 47), (1, 47)]) := by decide +kernel
theorem ml_tx3 : (Nat.ble 1 (mL 39) && (Nat.ble 1 (mL 41) && (Nat.ble 1 (mL 42) && Nat.ble 2 (mL 47)))) = true := by decide +kernel
noncomputable def txDv : Nat → Nat → List Int32 → List Int32
  | 0, _, v => v
  | k + 1, i, v => txDv k (i + 1) (v.set i (Int32.ofInt ((Tab 0).getD i 0)))
noncomputable def txDc : Nat → Nat → List Int32 → List Int32
  | 0, _, v => v
  | k + 1, i, v => txDc k (i + 1) (v.set i (Int32.ofInt 0))
noncomputable def txD0 : List Int32 := [Int32.ofInt 14, Int32.ofInt 2, Int32.ofInt 5, Int32.ofInt 0, Int32.ofInt 0, Int32.ofInt 40]
noncomputable def txC0 : List Int32 := [Int32.ofInt 0, Int32.ofInt 0, Int32.ofInt 0, Int32.ofInt 0, Int32.ofInt 0, Int32.ofInt 0]
theorem txD_all {v : List Int32} (h : v.length = 6) : txDv 6 0 v = txD0 ∧ txDc 6 0 v = txC0 := by
  match v, h with
  | [a, b, c, d, e, f], _ => exact ⟨rfl, rfl⟩
noncomputable def txParts (bs : List Int32) (n : Nat) : Nat → Nat → Int32 → List Int32 → List Int32 → TXR
  | 0, p, nm, vs, cs => (nI p, p, nm, vs, cs)
  | k + 1, p, nm, vs, cs => if (txPart bs n p nm vs cs).1 ≠ Int32.ofInt (-1) ∨ n ≤ (txPart bs n p nm vs cs).2.1 then txPart bs n p nm vs cs
    else if txN bs n (txPart bs n p nm vs cs).2.1 = Int32.ofInt 59 then txParts bs n k ((txPart bs n p nm vs cs).2.1 + 1) (txPart bs n p nm vs cs).2.2.1 (txPart bs n p nm vs cs).2.2.2.1 (txPart bs n p nm vs cs).2.2.2.2
    else (nI (txPart bs n p nm vs cs).2.1, (txPart bs n p nm vs cs).2)
noncomputable def txAll (bs : List Int32) (n : Nat) (nm : Int32) : TXR := if n = 0 then (Int32.ofInt (-1), 0, nm, txD0, txC0) else txParts bs n 60 0 nm txD0 txC0
noncomputable def txEnd (r : TXR) : TXR := if r.1 = Int32.ofInt (-1) then r else (r.1, r.2.1, r.2.2.1, txD0, txC0)
section
variable {σ : Nat → Nat} {h : AH} {o ob ov oc M M' pc a n q k : Nat} {s : TXS} {bs : List Int32} {c : Int} {tl : List (Nat × AI)} {L : LV} {S fs : List Value} {Q : Option Value → AH → Prop}
theorem get_put {i j : Nat} {v v0 : Value} (hc : v0.category = 1) (hv : v.category = 1) (hij : i ≠ j) : ∀ {L : LV}, lv_get i L = some v0 → lv_get i (lv_put j v L) = some v0 := by
  intro L h
  unfold lv_get lv_put at *
  rw [List.find?_cons, show (j == i) = false from beq_false_of_ne (fun e => hij e.symm)]
  dsimp only
  induction L with
  | nil => exact h
  | cons q r ih =>
    rw [List.find?_cons] at h
    by_cases e : q.1 = i
    · rw [show (q.1 == i) = true by rw [e]; exact beq_self_eq_true i] at h
      have e2 : q.2 = v0 := Option.some.inj h
      have hp : (!(q.1 == j) && (!(v.category == 2 && q.1 == j + 1) && !(q.1 + 1 == j && q.2.category == 2))) = true := by
        rw [e2, hc, hv, e, show (i == j) = false from beq_false_of_ne hij]
        cases (i + 1 == j) <;> rfl
      rw [List.filter_cons, if_pos hp, List.find?_cons, show (q.1 == i) = true by rw [e]; exact beq_self_eq_true i]
      exact h
    · rw [show (q.1 == i) = false from beq_false_of_ne e] at h
      by_cases hp : (!(q.1 == j) && (!(v.category == 2 && q.1 == j + 1) && !(q.1 + 1 == j && q.2.category == 2))) = true
      · rw [List.filter_cons, if_pos hp, List.find?_cons, show (q.1 == i) = false from beq_false_of_ne e]
        exact ih h
      · rw [List.filter_cons, if_neg hp]
        exact ih h
theorem T_def_loop (hd : TxD h o ob ov oc bs) (ht : TxS σ h o ov oc) : ∀ (k i : Nat) (s : TXS), i + k = 6 → s.2.2.2.2.1.length = 6 → s.2.2.2.2.2.length = 6 → Q none (txH h o ob ov oc (tsC (tsV s (txDv k i s.2.2.2.2.1)) (txDc k i s.2.2.2.2.2))) → Rt σ 39 (jump 39 2) (lv_put 1 (.int (nI i)) (am_args 0 [.ref o])) [] (txH h o ob ov oc s) Q := by
  intro k
  induction k with
  | zero =>
    intro i s hi l1 l2 hQ
    rw [j39_2]
    refine rl_load rfl rfl (rl_stat (rl_len (tx_s ht (by omega)) (by show 20 ≤ 33; omega) (by show 6 < 2 ^ 31; omega) (rl_icmpT ?_ ?_)))
    · show some (decide (nI 6 ≤ nI i)) = some true
      rw [decide_eq_true (by rw [tx_le (by omega) (by omega)]; omega)]
    · show Rt σ 39 (jump 39 34) _ _ _ _
      rw [j39_34]
      exact rl_ret0 hQ
  | succ k ih =>
    intro i s hi l1 l2 hQ
    rw [j39_2]
    refine rl_load rfl rfl (rl_stat (rl_len (tx_s ht (by omega)) (by show 20 ≤ 33; omega) (by show 6 < 2 ^ 31; omega) (rl_icmpF ?_ (rl_load rfl rfl (rt_val (rl_load rfl rfl (rl_stat (rl_load rfl rfl (rl_ald (tx_s ht (by omega)) rfl (nI_nn (by omega)).1 (tab_get rfl (by omega)) (rt_setv hd (by omega) l1 (rl_load rfl rfl (rt_cam (rl_load rfl rfl (rl_const (rt_setc hd (by omega) l2 (Or.inl rfl) (rl_iinc (x := nI i) rfl (rl_goto ?_)))))))))))))))))
    · show some (decide (nI 6 ≤ nI i)) = some false
      rw [decide_eq_false (by rw [tx_le (by omega) (by omega)]; omega)]
    · rw [nI_suc (by omega)]
      refine ih (i + 1) _ (by omega) ?_ ?_ hQ
      · show (s.2.2.2.2.1.set i _).length = 6
        rw [List.length_set]; exact l1
      · show (s.2.2.2.2.2.set i _).length = 6
        rw [List.length_set]; exact l2
theorem T_def (hd : TxD h o ob ov oc bs) (ht : TxS σ h o ov oc) (l1 : s.2.2.2.2.1.length = 6) (l2 : s.2.2.2.2.2.length = 6) (hQ : Q none (txH h o ob ov oc (tsC (tsV s txD0) txC0))) : Rt σ 39 (codeOf 39) (am_args 0 [.ref o]) [] (txH h o ob ov oc s) Q := by
  have hc : codeOf 39 = [(0, (0, 0, 0)), (1, (2, 1, 0))] ++ jump 39 2 := by rw [jump_jmp, code_39]; rfl
  rw [hc]
  refine rl_const (rl_store rfl (T_def_loop hd ht 6 0 s rfl l1 l2 ?_))
  rw [(txD_all l1).1, (txD_all l2).2]
  exact hQ
theorem num_le : ∀ {k p : Nat} {a : Int32}, p ≤ n → (txNum bs n k p a).1 ≤ n := by
  intro k
  induction k with
  | zero => intro p a hp; exact hp
  | succ k ih =>
    intro p a hp
    rw [txNum]
    by_cases hw : txW (txN bs n p) (Int32.ofInt 48) (Int32.ofInt 57) = 0
    · rw [if_pos hw]; exact hp
    · rw [if_neg hw]
      have := txN_dig hw
      exact ih (by omega)
theorem part_le {p : Nat} {nm : Int32} {vs cs : List Int32} (hp : p ≤ n) : (txPart bs n p nm vs cs).2.1 ≤ n ∧ ((txPart bs n p nm vs cs).2.2.2.1.length = vs.length ∧ (txPart bs n p nm vs cs).2.2.2.2.length = cs.length) := by
  unfold txPart
  cases hw : txLn (Tab 1) 0 (txN bs n p) with
  | none => exact ⟨hp, rfl, rfl⟩
  | some w =>
    have hlt := txl_pos hw
    dsimp only
    by_cases h1 : cs.getD w 0 ≠ 0
    · rw [if_pos h1]; exact ⟨hp, rfl, rfl⟩
    · rw [if_neg h1]
      by_cases h2 : Int32.ofInt ((Tab 2).getD w 0) = 0
      · rw [if_pos h2]; exact ⟨hlt, List.length_set, List.length_set⟩
      · rw [if_neg h2]; exact ⟨num_le hlt, List.length_set, List.length_set⟩
theorem T_parts_loop (hd : TxD h o ob ov oc bs) (ht : TxS σ h o ov oc) (hn : n ≤ 60) : ∀ (k p : Nat) (s : TXS) (L : LV) (i : Nat), i + k = 60 → lv_get 0 L = some (.ref o) → lv_get 1 L = some (.int (nI i)) → p ≤ n → s.1 = nI n → s.2.2.1 = nI p → s.2.2.2.2.1.length = 6 → s.2.2.2.2.2.length = 6 →
    Q (some (.int (txParts bs n k p s.2.2.2.1 s.2.2.2.2.1 s.2.2.2.2.2).1)) (txH h o ob ov oc (tsR s (txParts bs n k p s.2.2.2.1 s.2.2.2.2.1 s.2.2.2.2.2))) → Rt σ 41 (jump 41 2) L [] (txH h o ob ov oc s) Q := by
  intro k
  induction k with
  | zero =>
    intro p s L i hi hL0 hL1 hp e1 e2 l1 l2 hQ
    rw [j41_2]
    refine rl_load hL1 rfl (rl_const (rl_icmpT ?_ ?_))
    · show some (decide (nI 60 ≤ nI i)) = some true
      rw [decide_eq_true (by rw [tx_le (by omega) (by omega)]; omega)]
    · show Rt σ 41 (jump 41 51) _ _ _ _
      rw [j41_51]
      have es : tsR s (nI p, p, s.2.2.2.1, s.2.2.2.2.1, s.2.2.2.2.2) = s := by
        obtain ⟨a1, a2, a3, a4, a5, a6⟩ := s
        have e2 : a3 = nI p := e2
        rw [e2]
        rfl
      rw [txParts, es] at hQ
      refine rl_load hL0 rfl (rt_plc (rl_ret1 ?_))
      rw [e2]
      exact hQ
  | succ k ih =>
    intro p s L i hi hL0 hL1 hp e1 e2 l1 l2 hQ
    rw [j41_2]
    obtain ⟨b1, b2, b3⟩ := part_le (bs := bs) (nm := s.2.2.2.1) (vs := s.2.2.2.2.1) (cs := s.2.2.2.2.2) hp
    rw [txParts] at hQ
    generalize hr : txPart bs n p s.2.2.2.1 s.2.2.2.2.1 s.2.2.2.2.2 = r at hQ b1 b2 b3
    refine rl_load hL1 rfl (rl_const (rl_icmpF ?_ (rl_load hL0 rfl (rl_callv2 (as := []) (r := []) spec_33 (k := 0) (k' := 0) (M' := 42) (by decide) rfl rfl tx_o (by show 0 ≤ 8; omega) (ref_ok (blet (and2 (and2 (and2 ml_tx3).2).2).1)) (T_part hd ht hn (by omega) e1 e2 l1 l2 ?_)))))
    · show some (decide (nI 60 ≤ nI i)) = some false
      rw [decide_eq_false (by rw [tx_le (by omega) (by omega)]; omega)]
    · rw [hr]
      have g0 : lv_get 0 (lv_put 2 (.int r.1) L) = some (.ref o) := get_put rfl rfl (by omega) hL0
      have g1 : lv_get 1 (lv_put 2 (.int r.1) L) = some (.int (nI i)) := get_put rfl rfl (by omega) hL1
      have g2 : lv_get 2 (lv_put 2 (.int r.1) L) = some (.int r.1) := rfl
      refine rl_store rfl (rl_load g2 rfl (rl_const ?_))
      by_cases h1 : r.1 = Int32.ofInt (-1)
      · refine rl_icmpF (by show some (decide (¬ r.1 = Int32.ofInt (-1))) = some false; rw [decide_eq_false (fun e => e h1)]) (rl_load g0 rfl (rt_plc (rl_load g0 rfl (rt_len ?_))))
        rw [show (tsR s r).1 = nI n from e1, show (tsR s r).2.2.1 = nI r.2.1 from rfl]
        by_cases h2 : n ≤ r.2.1
        · rw [if_pos (Or.inr h2)] at hQ
          refine rl_icmpF ?_ ?_
          · show some (decide (nI r.2.1 < nI n)) = some false
            rw [decide_eq_false (by rw [tx_lt (by omega) (by omega)]; omega)]
          · rw [j41_29]
            exact rl_load g2 rfl (rl_ret1 hQ)
        · rw [if_neg (fun e => e.elim (fun e => e h1) h2)] at hQ
          refine rl_icmpT ?_ ?_
          · show some (decide (nI r.2.1 < nI n)) = some true
            rw [decide_eq_true (by rw [tx_lt (by omega) (by omega)]; omega)]
          · show Rt σ 41 (jump 41 31) _ _ _ _
            rw [j41_31]
            refine rl_load g0 rfl (rl_const (rl_callv2 (as := [.int (Int32.ofInt 59)]) (r := []) spec_34 (k := 0) (k' := 0) (M' := 47) (by decide) rfl rfl tx_o (by show 0 ≤ 8; omega) ?_ (T_goes hd hn (by omega) e1 rfl ?_ ?_)))
            · unfold am_ok
              rw [decide_eq_true (show ([.ref o, .int (Int32.ofInt 59)] : List Value).length ≤ mL 47 from blet (and2 (and2 (and2 ml_tx3).2).2).2)]
              rfl
            · intro hne
              rw [if_neg hne] at hQ
              refine rl_ifF rfl (rl_load g0 rfl (rt_plc (rl_ret1 ?_)))
              exact hQ
            · intro heq
              rw [if_pos heq] at hQ
              refine rl_ifT rfl ?_
              show Rt σ 41 (jump 41 45) _ _ _ _
              rw [j41_45]
              refine rl_iinc g1 (rl_goto ?_)
              rw [nI_suc (by omega)]
              refine ih (r.2.1 + 1) (tsP (tsR s r) (nI (r.2.1 + 1))) _ (i + 1) (by omega) ?_ rfl ?_ e1 rfl (b2.trans l1) (b3.trans l2) hQ
              · exact get_put rfl rfl (by omega) g0
              · omega
      · rw [if_pos (Or.inl h1)] at hQ
        refine rl_icmpT (by show some (decide (¬ r.1 = Int32.ofInt (-1))) = some true; rw [decide_eq_true h1]) ?_
        show Rt σ 41 (jump 41 29) _ _ _ _
        rw [j41_29]
        exact rl_load g2 rfl (rl_ret1 hQ)
noncomputable def tsF (s : TXS) (x : Int32) : TXS := (s.1, x, s.2.2)
theorem rt_setf {x : Int32} (hk : Rt σ M tl L S (txH h o ob ov oc (tsF s x)) Q) : Rt σ M ((pc, (9, 28, c)) :: tl) L (.int x :: .ref o :: S) (txH h o ob ov oc s) Q := by
  refine rl_put tx_o f_tx.2.2.1 (by rw [p_tx.2.2.1]; show 2 < 7; omega) (by rw [dc_tx.2.2.1]; rfl) ?_
  rw [p_tx.2.2.1, tx_set (s := s) (s' := tsF s x) rfl rfl]
  exact hk
theorem rt_flt (hk : Rt σ M tl L (.int s.2.1 :: S) (txH h o ob ov oc s) Q) : Rt σ M ((pc, (8, 28, c)) :: tl) L (.ref o :: S) (txH h o ob ov oc s) Q := rl_get tx_o f_tx.2.2.1 (by rw [p_tx.2.2.1]; rfl) hk
theorem parts_len : ∀ {k p : Nat} {nm : Int32} {vs cs : List Int32}, p ≤ n → (txParts bs n k p nm vs cs).2.2.2.1.length = vs.length ∧ (txParts bs n k p nm vs cs).2.2.2.2.length = cs.length := by
  intro k
  induction k with
  | zero => intro p nm vs cs _; exact ⟨rfl, rfl⟩
  | succ k ih =>
    intro p nm vs cs hp
    obtain ⟨b1, b2, b3⟩ := part_le (bs := bs) (nm := nm) (vs := vs) (cs := cs) hp
    rw [txParts]
    by_cases h1 : (txPart bs n p nm vs cs).1 ≠ Int32.ofInt (-1) ∨ n ≤ (txPart bs n p nm vs cs).2.1
    · rw [if_pos h1]; exact ⟨b2, b3⟩
    · rw [if_neg h1]
      by_cases h2 : txN bs n (txPart bs n p nm vs cs).2.1 = Int32.ofInt 59
      · rw [if_pos h2]
        have h3 : ¬ n ≤ (txPart bs n p nm vs cs).2.1 := fun e => h1 (Or.inr e)
        obtain ⟨c1, c2⟩ := ih (nm := (txPart bs n p nm vs cs).2.2.1) (vs := (txPart bs n p nm vs cs).2.2.2.1) (cs := (txPart bs n p nm vs cs).2.2.2.2) (show (txPart bs n p nm vs cs).2.1 + 1 ≤ n by omega)
        exact ⟨c1.trans b2, c2.trans b3⟩
      · rw [if_neg h2]; exact ⟨b2, b3⟩
theorem T_parts (hd : TxD h o ob ov oc bs) (ht : TxS σ h o ov oc) (hn : n ≤ 60) (e1 : s.1 = nI n) (e2 : s.2.2.1 = nI 0) (l1 : s.2.2.2.2.1.length = 6) (l2 : s.2.2.2.2.2.length = 6) (hQ : Q (some (.int (txParts bs n 60 0 s.2.2.2.1 s.2.2.2.2.1 s.2.2.2.2.2).1)) (txH h o ob ov oc (tsR s (txParts bs n 60 0 s.2.2.2.1 s.2.2.2.2.1 s.2.2.2.2.2)))) : Rt σ 41 (codeOf 41) (am_args 0 [.ref o]) [] (txH h o ob ov oc s) Q := by
  have hc : codeOf 41 = [(0, (0, 0, 0)), (1, (2, 1, 0))] ++ jump 41 2 := by rw [jump_jmp, code_41]; rfl
  rw [hc]
  exact rl_const (rl_store rfl (T_parts_loop hd ht hn 60 0 s _ 0 rfl rfl rfl (Nat.zero_le _) e1 e2 l1 l2 hQ))
/-- the whole text is read anew -/
theorem T_read (hd : TxD h o ob ov oc bs) (ht : TxS σ h o ov oc) (hn : n ≤ 60) (e1 : s.1 = nI n) (l1 : s.2.2.2.2.1.length = 6) (l2 : s.2.2.2.2.2.length = 6) (hQ : Q none (txH h o ob ov oc (tsR (tsF s (txAll bs n s.2.2.2.1).1) (txEnd (txAll bs n s.2.2.2.1))))) : Rt σ 38 (codeOf 38) (am_args 0 [.ref o]) [] (txH h o ob ov oc s) Q := by
  have hc : codeOf 38 = [(0, (1, 0, 2)), (1, (12, 31, 0)), (4, (1, 0, 2)), (5, (0, 0, 0)), (6, (9, 77, 0)), (9, (1, 0, 2)), (10, (1, 0, 2)), (11, (8, 27, 0)), (14, (6, 1, 21)), (17, (0, 0, -1)), (18, (7, 0, 25))] ++ jump 38 21 := by rw [jump_jmp, code_38]; rfl
  rw [hc]
  refine rl_load rfl rfl (rl_callv2 (as := []) (r := []) spec_31' (k := 0) (k' := 0) (M' := 39) (by decide) rfl rfl tx_o (by show 0 ≤ 8; omega) (ref_ok (blet (and2 ml_tx3).1)) (T_def hd ht l1 l2 (rl_load rfl rfl (rl_const (rt_setp (rl_load rfl rfl (rl_load rfl rfl (rt_len ?_))))))))
  have fin : ∀ r : TXR, r = txAll bs n s.2.2.2.1 → Rt σ 38 (jump 38 25) (am_args 0 [.ref o]) [.int r.1, .ref o] (txH h o ob ov oc (tsR s r)) Q := by
    intro r hr
    rw [← hr] at hQ
    have hlen : r.2.2.2.1.length = 6 ∧ r.2.2.2.2.length = 6 := by
      rw [hr]
      unfold txAll
      by_cases h0 : n = 0
      · rw [if_pos h0]; exact ⟨rfl, rfl⟩
      · rw [if_neg h0]; exact parts_len (Nat.zero_le _)
    rw [j38_25]
    refine rt_setf (rl_load rfl rfl (rt_flt (rl_const ?_)))
    unfold txEnd at hQ
    by_cases h1 : r.1 = Int32.ofInt (-1)
    · rw [if_pos h1] at hQ
      refine rl_icmpT ?_ ?_
      · show some (decide (r.1 = Int32.ofInt (-1))) = some true
        rw [decide_eq_true h1]
      · show Rt σ 38 (jump 38 40) _ _ _ _
        rw [j38_40]
        exact rl_ret0 hQ
    · rw [if_neg h1] at hQ
      refine rl_icmpF ?_ (rl_load rfl rfl (rl_callv2 (as := []) (r := []) spec_31' (k := 0) (k' := 0) (M' := 39) (by decide) rfl rfl tx_o (by show 0 ≤ 8; omega) (ref_ok (blet (and2 ml_tx3).1)) (T_def hd ht hlen.1 hlen.2 ?_)))
      · show some (decide (r.1 = Int32.ofInt (-1))) = some false
        rw [decide_eq_false h1]
      · rw [j38_40]
        exact rl_ret0 hQ
  by_cases h0 : n = 0
  · refine rl_ifF ?_ (rl_const (rl_goto ?_))
    · rw [show (tsP (tsC (tsV s txD0) txC0) (Int32.ofInt 0)).1 = nI n from e1, h0]
      rfl
    · exact fin (Int32.ofInt (-1), 0, s.2.2.2.1, txD0, txC0) (by unfold txAll; rw [if_pos h0])
  · refine rl_ifT ?_ ?_
    · rw [show (tsP (tsC (tsV s txD0) txC0) (Int32.ofInt 0)).1 = nI n from e1]
      show some (decide (¬ nI n = 0)) = some true
      rw [decide_eq_true]
      intro e
      have e3 := congrArg i2n e
      rw [nI_ok (by omega), show i2n (0 : Int32) = 2147483648 by decide +kernel] at e3
      omega
    · show Rt σ 38 (jump 38 21) _ _ _ _
      rw [j38_21]
      refine rl_load rfl rfl (rl_callv2 (as := []) (r := [.ref o]) spec_32 (k := 0) (k' := 0) (M' := 41) (by decide) rfl rfl tx_o (by show 1 ≤ 8; omega) (ref_ok (blet (and2 (and2 ml_tx3).2).1)) (T_parts hd ht hn e1 rfl rfl rfl ?_))
      exact fin (txParts bs n 60 0 s.2.2.2.1 txD0 txC0) (by unfold txAll; rw [if_neg h0])
end
end
section
theorem code_37 : codeOf 37 = [(0, (1, 0, 2)), (1, (8, 27, 0)), (4, (0, 0, 60)), (6, (5, 3, 29)), (9, (1, 0, 2)), (10, (8, 76, 0)), (13, (1, 0, 2)), (14, (8, 27, 0)), (17, (1, 1, 0)), (18, (11, 0, 0)), (19, (1, 0, 2)), (20, (18, 0, 0)), (21, (8, 27, 0)), (24, (0, 0, 1)), (25, (4, 0, 0)), (26, (9, 27, 0)), (29, (1, 0, 2)), (30, (12, 30, 0)), (33, (1, 0, 2)), (34, (8, 27, 0)), (37, (13, 1, 0))] := by decide +kernel
theorem head_37 : codeOf 37 = [(0, (1, 0, 2)), (1, (8, 27, 0)), (4, (0, 0, 60)), (6, (5, 3, 29)), (9, (1, 0, 2)), (10, (8, 76, 0)), (13, (1, 0, 2)), (14, (8, 27, 0)), (17, (1, 1, 0)), (18, (11, 0, 0)), (19, (1, 0, 2)), (20, (18, 0, 0)), (21, (8, 27, 0)), (24, (0, 0, 1)), (25, (4, 0, 0)), (26, (9, 27, 0))] ++ jump 37 29 := by rw [jump_jmp, code_37]; rfl
theorem j37_29 : jump 37 29 = [(29, (1, 0, 2)), (30, (12, 30, 0)), (33, (1, 0, 2)), (34, (8, 27, 0)), (37, (13, 1, 0))] := by rw [jump_jmp, code_37]; rfl
theorem code_50 : codeOf 50 = [(0, (1, 0, 2)), (1, (8, 27, 0)), (4, (2, 1, 0)), (5, (1, 0, 2)), (6, (0, 0, 0)), (7, (9, 27, 0)), (10, (1, 0, 2)), (11, (12, 30, 0)), (14, (1, 1, 0)), (15, (13, 1, 0))] := by decide +kernel
theorem spec_30 : spec 30 = (1, 0, [(0, 38), (1, 38)]) := by decide +kernel
theorem ml_38 : Nat.ble 1 (mL 38) = true := by decide +kernel
noncomputable def tsL (s : TXS) (x : Int32) : TXS := (x, s.2)
/-- the text's state when it was read anew with n bytes -/
noncomputable def tsRd (bs : List Int32) (n : Nat) (s : TXS) : TXS := tsR (tsF s (txAll bs n s.2.2.2.1).1) (txEnd (txAll bs n s.2.2.2.1))
section
variable {σ : Nat → Nat} {h : AH} {o ob ov oc M M' pc a n q k : Nat} {s : TXS} {bs : List Int32} {c : Int} {tl : List (Nat × AI)} {L : LV} {S fs : List Value} {Q : Option Value → AH → Prop}
theorem rt_setl {x : Int32} (hk : Rt σ M tl L S (txH h o ob ov oc (tsL s x)) Q) : Rt σ M ((pc, (9, 27, c)) :: tl) L (.int x :: .ref o :: S) (txH h o ob ov oc s) Q := by
  refine rl_put tx_o f_tx.2.1 (by rw [p_tx.2.1]; show 1 < 7; omega) (by rw [dc_tx.2.2.2]; rfl) ?_
  rw [p_tx.2.1, tx_set (s := s) (s' := tsL s x) rfl rfl]
  exact hk
theorem tx_setb (hd : TxD h o ob ov oc bs) {w : Nat} {x : Int32} : am_set (txH h o ob ov oc s) ob (20, (bs.map Value.int).set w (.int x)) = txH (am_set h ob (20, (bs.set w x).map .int)) o ob ov oc s := by
  obtain ⟨⟨d1, d2, d3⟩, ⟨d4, d5, d6⟩, d7, -⟩ := hd
  unfold am_set txH
  refine Prod.ext (funext fun a => ?_) rfl
  dsimp only
  by_cases e : a = ob
  · rw [if_pos e, if_neg (fun e1 => d1 (e1.symm.trans e)), if_neg (fun e1 => d4 (e1.symm.trans e)), if_neg (fun e1 => d6 (e1.symm.trans e)), if_pos e, List.map_set]
  · rw [if_neg e, if_neg e]
theorem txd_set (hd : TxD h o ob ov oc bs) {w : Nat} {x : Int32} : TxD (am_set h ob (20, (bs.set w x).map .int)) o ob ov oc (bs.set w x) := by
  obtain ⟨d1, d2, d7, d8⟩ := hd
  exact ⟨d1, d2, if_pos rfl, by rw [List.length_set]; exact d8⟩
theorem txs_set (hd : TxD h o ob ov oc bs) (ht : TxS σ h o ov oc) {y : AO} (hne : ∀ i, i < 5 → σ i ≠ ob) : TxS σ (am_set h ob y) o ov oc := fun i hi => by
  obtain ⟨h1, h2⟩ := ht i hi
  refine ⟨?_, h2⟩
  show (if σ i = ob then _ else h.1 (σ i)) = _
  rw [if_neg (hne i hi)]
  exact h1
/-- one byte more -/
theorem T_append {x : Int32} (hd : TxD h o ob ov oc bs) (ht : TxS σ h o ov oc) (hne : ∀ i, i < 5 → σ i ≠ ob) (hn : n < 60) (e1 : s.1 = nI n) (l1 : s.2.2.2.2.1.length = 6) (l2 : s.2.2.2.2.2.length = 6)
    (hQ : Q (some (.int (nI (n + 1)))) (txH (am_set h ob (20, (bs.set n x).map .int)) o ob ov oc (tsRd (bs.set n x) (n + 1) (tsL s (nI (n + 1)))))) : Rt σ 37 (codeOf 37) (am_args 0 [.ref o, .int x]) [] (txH h o ob ov oc s) Q := by
  have en := (nI_nn (show n < 2147483648 by omega)).2
  rw [head_37]
  refine rl_load rfl rfl (rt_len (rl_const (rl_icmpF ?_ (rl_load rfl rfl (rt_byt (rl_load rfl rfl (rt_len (rl_load rfl rfl ?_))))))))
  · rw [e1]
    show some (decide (nI 60 ≤ nI n)) = some false
    rw [decide_eq_false (by rw [tx_le (by omega) (by omega)]; omega)]
  · rw [e1]
    refine rl_ast (tx_b hd) rfl (nI_nn (by omega)).1 (by rw [en, List.length_map, hd.2.2.2]; exact hn) ?_
    rw [en, tx_setb hd]
    refine rl_load rfl rfl (rl_dup rfl (rt_len (rl_const (rl_bin rfl (rt_setl ?_)))))
    rw [e1, nI_suc (by omega), j37_29]
    refine rl_load rfl rfl (rl_callv2 (as := []) (r := []) spec_30 (k := 0) (k' := 0) (M' := 38) (by decide) rfl rfl tx_o (by show 0 ≤ 8; omega) (ref_ok (blet ml_38)) (T_read (txd_set hd) (txs_set hd ht hne) (n := n + 1) (by omega) rfl l1 l2 (rl_load rfl rfl (rt_len (rl_ret1 ?_)))))
    exact hQ
/-- no byte more -/
theorem T_empty (hd : TxD h o ob ov oc bs) (ht : TxS σ h o ov oc) (l1 : s.2.2.2.2.1.length = 6) (l2 : s.2.2.2.2.2.length = 6) (hQ : Q (some (.int s.1)) (txH h o ob ov oc (tsRd bs 0 (tsL s (nI 0))))) : Rt σ 50 (codeOf 50) (am_args 0 [.ref o]) [] (txH h o ob ov oc s) Q := by
  rw [code_50]
  refine rl_load rfl rfl (rt_len (rl_store rfl (rl_load rfl rfl (rl_const (rt_setl (rl_load rfl rfl (rl_callv2 (as := []) (r := []) spec_30 (k := 0) (k' := 0) (M' := 38) (by decide) rfl rfl tx_o (by show 0 ≤ 8; omega) (ref_ok (blet ml_38)) (T_read hd ht (n := 0) (by omega) rfl l1 l2 (rl_load rfl rfl (rl_ret1 hQ))))))))))
end
end
