section
/-! ===== the class's type and wipe ===== -/
theorem code_36 : codeOf 36 = [(0, (1, 1, 0)), (1, (0, 0, 4)), (2, (5, 1, 10)), (5, (1, 0, 2)), (6, (8, 3, 0)), (9, (13, 3, 0)), (10, (1, 1, 0)), (11, (0, 0, 0)), (12, (0, 0, 3)), (13, (12, 10, 0)), (16, (6, 0, 28)), (19, (1, 0, 2)), (20, (8, 2, 0)), (23, (1, 1, 0)), (24, (10, 4, 0)), (25, (7, 0, 29)), (28, (19, 0, 0)), (29, (13, 3, 0))] := by decide +kernel
theorem head_36 : codeOf 36 = [(0, (1, 1, 0)), (1, (0, 0, 4)), (2, (5, 1, 10)), (5, (1, 0, 2)), (6, (8, 3, 0)), (9, (13, 3, 0))] ++ jump 36 10 := by rw [jump_jmp, code_36]; rfl
theorem j36_10 : jump 36 10 = [(10, (1, 1, 0)), (11, (0, 0, 0)), (12, (0, 0, 3)), (13, (12, 10, 0)), (16, (6, 0, 28)), (19, (1, 0, 2)), (20, (8, 2, 0)), (23, (1, 1, 0)), (24, (10, 4, 0)), (25, (7, 0, 29))] ++ jump 36 28 := by rw [jump_jmp, jump_jmp, code_36]; rfl
theorem j36_28 : jump 36 28 = [(28, (19, 0, 0))] ++ jump 36 29 := by rw [jump_jmp, jump_jmp, code_36]; rfl
theorem j36_29 : jump 36 29 = [(29, (13, 3, 0))] := by rw [jump_jmp, code_36]; rfl
theorem code_35 : codeOf 35 = [(0, (1, 0, 2)), (1, (1, 1, 0)), (2, (12, 28, 0)), (5, (2, 3, 2)), (6, (1, 3, 2)), (7, (20, 0, 21)), (10, (1, 2, 0)), (11, (0, 0, 0)), (12, (0, 0, 255)), (15, (12, 10, 0)), (18, (6, 1, 24)), (21, (0, 0, -2)), (23, (13, 1, 0)), (24, (1, 3, 2)), (25, (8, 27, 0)), (28, (0, 0, 60)), (30, (5, 2, 38)), (33, (0, 0, -4)), (35, (7, 0, 43)), (38, (1, 3, 2)), (39, (1, 2, 0)), (40, (12, 29, 0)), (43, (13, 1, 0))] := by decide +kernel
theorem head_35 : codeOf 35 = [(0, (1, 0, 2)), (1, (1, 1, 0)), (2, (12, 28, 0)), (5, (2, 3, 2)), (6, (1, 3, 2)), (7, (20, 0, 21)), (10, (1, 2, 0)), (11, (0, 0, 0)), (12, (0, 0, 255)), (15, (12, 10, 0)), (18, (6, 1, 24))] ++ jump 35 21 := by rw [jump_jmp, code_35]; rfl
theorem j35_21 : jump 35 21 = [(21, (0, 0, -2)), (23, (13, 1, 0))] ++ jump 35 24 := by rw [jump_jmp, jump_jmp, code_35]; rfl
theorem j35_24 : jump 35 24 = [(24, (1, 3, 2)), (25, (8, 27, 0)), (28, (0, 0, 60)), (30, (5, 2, 38)), (33, (0, 0, -4)), (35, (7, 0, 43))] ++ jump 35 38 := by rw [jump_jmp, jump_jmp, code_35]; rfl
theorem j35_38 : jump 35 38 = [(38, (1, 3, 2)), (39, (1, 2, 0)), (40, (12, 29, 0))] ++ jump 35 43 := by rw [jump_jmp, jump_jmp, code_35]; rfl
theorem j35_43 : jump 35 43 = [(43, (13, 1, 0))] := by rw [jump_jmp, code_35]; rfl
theorem code_49 : codeOf 49 = [(0, (1, 0, 2)), (1, (1, 1, 0)), (2, (12, 28, 0)), (5, (2, 2, 2)), (6, (1, 2, 2)), (7, (20, 1, 15)), (10, (0, 0, -2)), (12, (7, 0, 19)), (15, (1, 2, 2)), (16, (12, 42, 0)), (19, (13, 1, 0))] := by decide +kernel
theorem head_49 : codeOf 49 = [(0, (1, 0, 2)), (1, (1, 1, 0)), (2, (12, 28, 0)), (5, (2, 2, 2)), (6, (1, 2, 2)), (7, (20, 1, 15)), (10, (0, 0, -2)), (12, (7, 0, 19))] ++ jump 49 15 := by rw [jump_jmp, code_49]; rfl
theorem j49_15 : jump 49 15 = [(15, (1, 2, 2)), (16, (12, 42, 0))] ++ jump 49 19 := by rw [jump_jmp, jump_jmp, code_49]; rfl
theorem j49_19 : jump 49 19 = [(19, (13, 1, 0))] := by rw [jump_jmp, code_49]; rfl
theorem spec_28 : spec 28 = (1, 1, [(10, 36)]) := by decide +kernel
theorem spec_29 : spec 29 = (1, 1, [(0, 37), (1, 37)]) := by decide +kernel
theorem spec_42 : spec 42 = (1, 0, [(0, 50), (1, 50)]) := by decide +kernel
theorem ml_x : (Nat.ble 2 (mL 36) && (Nat.ble 2 (mL 37) && Nat.ble 1 (mL 50))) = true := by decide +kernel
theorem x_cls : (cdm 10 = 0 ∧ cdk 10 = 10) ∧ ((8 ≤ (cd 10).2.2.length ∧ (ct_at 10 6 = some (7, 38, 0) ∧ ct_at 10 7 = some (7, 1, 0))) ∧ ((cdm 38 = 5 ∧ cdk 38 = 25) ∧ (∀ p, p < 4 → ct_at 38 p = some (6, 0, 0)))) := by decide +kernel
theorem f_x : ((fks 2).contains 10 = true ∧ fpos 2 = 6) ∧ ((fks 3).contains 10 = true ∧ fpos 3 = 7) := by decide +kernel
theorem f_len1 : (fks 27).contains 1 = true := by decide +kernel
theorem two_ok {q : Nat} {x : Int32} {M : Nat} (hm : 2 ≤ mL M) : am_ok [.ref q, .int x] M = true := by
  unfold am_ok
  rw [decide_eq_true (show ([.ref q, .int x] : List Value).length ≤ mL M from hm)]
  rfl
theorem txW_nat {v : Int32} {k : Nat} (hk : k < 2147483648) : (∃ b, b ≤ k ∧ (v = nI b ∧ txW v (nI 0) (nI k) = 1)) ∨ (txW v (nI 0) (nI k) = 0 ∧ ∀ b, b ≤ k → v ≠ nI b) := by
  by_cases h : nI 0 ≤ v ∧ v ≤ nI k
  · refine Or.inl ?_
    obtain ⟨h1, h2⟩ := h
    have a1 : ¬ v < nI 0 := fun e => Int32.not_lt.mpr h1 e
    have a2 : ¬ nI k < v := fun e => Int32.not_lt.mpr h2 e
    rw [i_lt, nI_ok (by omega)] at a1
    rw [i_lt, nI_ok hk] at a2
    refine ⟨i2n v - 2147483648, by omega, r5nI (by omega) (by omega), ?_⟩
    unfold txW
    rw [if_pos ⟨h1, h2⟩]
  · refine Or.inr ⟨by unfold txW; rw [if_neg h], fun b hb e => h ?_⟩
    subst e
    exact ⟨(tx_le (by omega) (by omega)).mpr (by omega), (tx_le (by omega) (by omega)).mpr hb⟩
section
variable {σ : Nat → Nat} {ad : AD} {h : AH} {np b M pc a k q ox : Nat} {ex ho : Nat → Nat → Prop} {tl : List (Nat × AI)} {L : LV} {S : List Value} {Q : Option Value → AH → Prop} {c : Int} {t x : Int32}
theorem rl_nulF0 (hk : Rt σ M tl L S h Q) : Rt σ M ((pc, (20, 0, c)) :: tl) L (.ref q :: S) h Q := rt_nx rfl hk
theorem rl_nulT0 (hk : Rt σ M (jump M c.toNat) L S h Q) : Rt σ M ((pc, (20, 0, c)) :: tl) L (.null :: S) h Q := rt_jp rfl hk
theorem rl_nulF1 (hk : Rt σ M tl L S h Q) : Rt σ M ((pc, (20, 1, c)) :: tl) L (.null :: S) h Q := rt_nx rfl hk
theorem rl_nulT1 (hk : Rt σ M (jump M c.toNat) L S h Q) : Rt σ M ((pc, (20, 1, c)) :: tl) L (.ref q :: S) h Q := rt_jp rfl hk
theorem rl_ret3n (hq : Q (some .null) h) : Rt σ M ((pc, (13, 3, c)) :: tl) L [.null] h Q := rt_ret rfl hq
/-- the class itself, and its row of laws -/
theorem x_form (hT : TS ad h np ex ho) (hox : ad 10 0 = some ox) : ∃ vs ql qt us, (h.1 ox = some (10, vs) ∧ (vs[6]? = some (.ref ql) ∧ vs[7]? = some (.ref qt))) ∧ (ad 1 0 = some qt ∧ (h.1 ql = some (25, us) ∧ ∀ b, b < 4 → ∃ o, us[b]? = some (.ref o) ∧ ad 0 b = some o)) := by
  obtain ⟨⟨m1, m2⟩, ⟨m3, m4, m5⟩, ⟨m6, m7⟩, m8⟩ := x_cls
  obtain ⟨t1, -⟩ := hT
  obtain ⟨-, k, vs, y1, y2, y3, y4⟩ := t1 10 0 ox (by omega) hox
  have ek : k = 10 := by
    rcases y2 with e | ⟨e, -⟩
    · rw [e, m2]
    · rw [m2] at e; cases e
  subst ek
  have hlen := y3.1 m1
  have fr : ∀ p c, p < 8 → ct_at 10 p = some (7, c, 0) → ∃ q, vs[p]? = some (.ref q) ∧ ad c 0 = some q := fun p c hp h1 => by
    have h2 : p < vs.length := by omega
    obtain ⟨ty, a, b⟩ := y4 p _ (List.getElem?_eq_getElem h2)
    rw [h1] at a
    cases a
    obtain ⟨q, e1, e2⟩ := tv_sgl b rfl
    exact ⟨q, by rw [List.getElem?_eq_getElem h2, e1], e2⟩
  obtain ⟨ql, f6, hql⟩ := fr 6 _ (by omega) m4
  obtain ⟨qt, f7, hqt⟩ := fr 7 _ (by omega) m5
  obtain ⟨-, k, us, z1, z2, z3, z4⟩ := t1 38 0 ql (by omega) hql
  have ek : k = 25 := by
    rcases z2 with e | ⟨e, -⟩
    · rw [e, m7]
    · rw [m7] at e; cases e
  subst ek
  have hl := z3.2.1 (by omega) (by omega)
  refine ⟨vs, ql, qt, us, ⟨y1, f6, f7⟩, hqt, z1, fun b hb => ?_⟩
  have h2 : b < us.length := by omega
  obtain ⟨ty, a1, a2⟩ := z4 b _ (List.getElem?_eq_getElem h2)
  rw [m8 b hb] at a1
  cases a1
  rcases a2 with ⟨e, -⟩ | ⟨e, -⟩ | ⟨e, -⟩ | ⟨e, -⟩ | ⟨e, -⟩ | ⟨e, -⟩ | ⟨-, e⟩ | ⟨e, -⟩ | e
  case inr.inr.inr.inr.inr.inr.inl =>
    rcases e with ⟨e, -⟩ | ⟨-, q, e, e2⟩
    · omega
    · rw [Nat.add_sub_cancel_left] at e
      exact ⟨q, by rw [List.getElem?_eq_getElem h2, e2], e⟩
  all_goals cases e
theorem X_textAt (hT : TS ad h np ex ho) (hox : ad 10 0 = some ox) (H4 : t = nI 4 → ∀ q, ad 1 0 = some q → Q (some (.ref q)) h) (Hb : ∀ b, b < 4 → t = nI b → ∀ o, ad 0 b = some o → Q (some (.ref o)) h) (Hn : (∀ b, b ≤ 4 → t ≠ nI b) → Q (some .null) h) : Rt σ 36 (codeOf 36) (am_args 0 [.ref ox, .int t]) [] h Q := by
  obtain ⟨vs, ql, qt, us, ⟨x1, x2, x3⟩, x4, x5, x6⟩ := x_form hT hox
  obtain ⟨⟨g1, g2⟩, g3, g4⟩ := f_x
  rw [head_36]
  refine rl_load rfl rfl (rl_const ?_)
  by_cases e4 : t = nI 4
  · refine rl_icmpF (by show some (decide (¬ t = nI 4)) = some false; rw [decide_eq_false (fun h => h e4)]) (rl_load rfl rfl (rl_get x1 g3 (by rw [g4]; exact x3) (rl_ret3 (H4 e4 _ x4))))
  · refine rl_icmpT (by show some (decide (¬ t = nI 4)) = some true; rw [decide_eq_true e4]) ?_
    show Rt σ 36 (jump 36 10) _ _ _ _
    rw [j36_10]
    refine rl_load rfl rfl (rl_const (rl_const (within_ok (by show 0 ≤ 8; omega) ?_)))
    rcases txW_nat (v := t) (k := 3) (by omega) with ⟨b, b1, b2, b3⟩ | ⟨b1, b2⟩
    · obtain ⟨o, o1, o2⟩ := x6 b (by omega)
      have eb := nI_nn (show b < 2147483648 by omega)
      refine rl_ifF ?_ (rl_load rfl rfl (rl_get x1 g1 (by rw [g2]; exact x2) (rl_load rfl rfl (rl_ald x5 rfl (by rw [b2]; exact eb.1) (by rw [b2, eb.2]; exact o1) (rl_goto ?_)))))
      · show icond 0 (txW t (nI 0) (nI 3)) 0 = _
        rw [b3]; rfl
      · show Rt σ 36 (jump 36 29) _ _ _ _
        rw [j36_29]
        exact rl_ret3 (Hb b (by omega) b2 o o2)
    · refine rl_ifT ?_ ?_
      · show icond 0 (txW t (nI 0) (nI 3)) 0 = _
        rw [b1]; rfl
      · show Rt σ 36 (jump 36 28) _ _ _ _
        rw [j36_28]
        refine rl_null ?_
        rw [j36_29]
        exact rl_ret3n (Hn fun b hb e => by
          by_cases h4 : b = 4
          · rw [h4] at e; exact e4 e
          · exact b2 b (by omega) e)
end
end
section
/-! ===== a text of the class changes by a byte, or is wiped ===== -/
noncomputable def C5 (ad : AD) (h : AH) (b n : Nat) (bs : List Int32) (nm : Int32) : Prop := At ad h 0 b 1 (.int (nI n)) ∧ ((∀ p, p < 60 → At ad h 17 b p (.int (bs.getD p 0))) ∧ ∀ w, w < 6 → At ad h 18 b w (.int ((txEnd (txAll bs n nm)).2.2.2.1.getD w 0)))
noncomputable def M5 (ad : AD) (h : AH) (b n : Nat) (bs : List Int32) : Prop := At ad h kMty 0 b (.int (nI n)) ∧ ∀ j, j < n → At ad h kMby 0 (60 * b + j) (.int (bs.getD j 0))
/-- between the class's call and the model's -/
noncomputable def Md (f : Nat → Nat → List Int32 → Nat → List Int32 → Prop) (ad : AD) (h : AH) : Prop := ∀ b, b < 4 → ∃ (n : Nat) (bs : List Int32) (n2 : Nat) (bs2 : List Int32) (nm : Int32), ((n ≤ 60 ∧ bs.length = 60) ∧ (n2 ≤ 60 ∧ bs2.length = 60)) ∧ (C5 ad h b n2 bs2 nm ∧ (M5 ad h b n bs ∧ f b n bs n2 bs2))
noncomputable def fT (t x : Int32) (b n : Nat) (bs : List Int32) (n2 : Nat) (bs2 : List Int32) : Prop := ((t = nI b ∧ (n < 60 ∧ txW x (nI 0) (nI 255) = 1)) → n2 = n + 1 ∧ bs2 = bs.set n x) ∧ (¬ (t = nI b ∧ (n < 60 ∧ txW x (nI 0) (nI 255) = 1)) → n2 = n ∧ bs2 = bs)
noncomputable def fW (t : Int32) (b n : Nat) (bs : List Int32) (n2 : Nat) (bs2 : List Int32) : Prop := (t = nI b → n2 = 0 ∧ bs2 = bs) ∧ (t ≠ nI b → n2 = n ∧ bs2 = bs)
theorem md_same {f : Nat → Nat → List Int32 → Nat → List Int32 → Prop} {ad : AD} {h : AH} (h5 : R5 ad h) (hf : ∀ b n bs, b < 4 → n ≤ 60 → At ad h 0 b 1 (.int (nI n)) → f b n bs n bs) : Md f ad h := fun b hb => by
  obtain ⟨n, bs, nm, h1, h2, h3⟩ := h5 b hb
  exact ⟨n, bs, n, bs, nm, ⟨h1, h1⟩, h2, h3, hf b n bs hb h1.1 h2.1⟩
theorem nI_inj {a b : Nat} (ha : a < 2147483648) (hb : b < 2147483648) (h : nI a = nI b) : a = b := by
  have h1 := nI_ok ha
  have h2 := nI_ok hb
  rw [h] at h1
  omega
theorem txW_01 (x lo hi : Int32) : txW x lo hi = 0 ∨ txW x lo hi = 1 := by
  unfold txW
  split
  · exact Or.inr rfl
  · exact Or.inl rfl
theorem end_len {bs : List Int32} {n : Nat} {nm : Int32} : (txEnd (txAll bs n nm)).2.2.2.1.length = 6 := by
  unfold txEnd
  split
  · exact all_len
  · rfl
section
variable {σ : Nat → Nat} {ad : AD} {h : AH} {np b n o ob ov oc ox : Nat} {ex ho : Nat → Nat → Prop} {bs l : List Int32} {s s' : TXS} {t x : Int32} {nm : Int32}
theorem fr_at (h2 : T2 ad) (he : TxE σ ad h b o ob ov oc bs s) {c i p : Nat} {v : Value} {y : AO} (ha : At ad h c i p v) (hne : i ≠ b ∨ (c ≠ 0 ∧ (c ≠ 17 ∧ (c ≠ 18 ∧ c ≠ 19)))) : At ad (txH (am_set h ob y) o ob ov oc s') c i p v := by
  obtain ⟨⟨⟨m1, m2⟩, -⟩, -, -, -, ⟨m15, m16⟩, m17⟩ := b_cls
  obtain ⟨⟨e1, e2, e3, e4⟩, -⟩ := he
  obtain ⟨a, k, vs, a1, a2, a3⟩ := ha
  have n1 := ref_ne h2 e1 a1 (by rw [m2]; omega) (fun e => by omega)
  have n2 := ref_ne h2 e2 a1 (by rw [m15]; omega) (fun e => by omega)
  have n3 := ref_ne h2 e3 a1 (by rw [m16]; omega) (fun e => by omega)
  have n4 := ref_ne h2 e4 a1 (by rw [m17]; omega) (fun e => by omega)
  refine ⟨a, k, vs, a1, ?_, a3⟩
  show (if a = o then _ else if a = ov then _ else if a = oc then _ else if a = ob then _ else h.1 a) = _
  rw [if_neg (Ne.symm n1), if_neg (Ne.symm n3), if_neg (Ne.symm n4), if_neg (Ne.symm n2)]
  exact a2
/-- the bytes that the class has are those of the relation -/
theorem c5_same (he : TxE σ ad h b o ob ov oc bs s) {bs0 : List Int32} (hl : bs0.length = 60) (hc : C5 ad h b n bs0 nm) : s.1 = nI n ∧ bs0 = bs := by
  obtain ⟨⟨e1, e2, e3, e4⟩, e5, e6, -⟩ := he
  obtain ⟨c1, c2, -⟩ := hc
  constructor
  · obtain ⟨a, k, vs, a1, a2, a3⟩ := c1
    rw [e1] at a1
    cases a1
    rw [← e5, tx_o] at a2
    cases a2
    exact Value.int.inj (Option.some.inj a3)
  · refine List.ext_getElem? fun p => ?_
    by_cases hp : p < 60
    · rw [at_row (c2 p hp) e2 e6.2.2.1, List.getD_eq_getElem?_getD, List.getElem?_eq_getElem (by omega)]
      rfl
    · rw [List.getElem?_eq_none (by omega), List.getElem?_eq_none (by have := e6.2.2.2; omega)]
/-- text b anew -/
theorem c5_new (he : TxE σ ad h b o ob ov oc bs s) (hl : l.length = 60) {n' : Nat} (hn : n' ≤ 60) (h1 : s.2.2.2.2.1.length = 6) : C5 ad (txH (am_set h ob (20, l.map .int)) o ob ov oc (tsRd l n' (tsL s (nI n')))) b n' l s.2.2.2.1 := by
  obtain ⟨⟨e1, e2, e3, e4⟩, e5, e6, -⟩ := he
  obtain ⟨⟨d1, d2, d3⟩, ⟨d4, d5, d6⟩, d7, d8⟩ := e6
  refine ⟨⟨o, 0, _, e1, tx_o, rfl⟩, fun p hp => ⟨ob, 20, l.map .int, e2, ?_, ?_⟩, fun w hw => ⟨ov, 20, (tsRd l n' (tsL s (nI n'))).2.2.2.2.1.map .int, e3, ?_, ?_⟩⟩
  · show (if ob = o then _ else if ob = ov then _ else if ob = oc then _ else if ob = ob then _ else h.1 ob) = _
    rw [if_neg (Ne.symm d1), if_neg (Ne.symm d4), if_neg (Ne.symm d6), if_pos rfl]
  · rw [List.getElem?_map, List.getElem?_eq_getElem (by omega), List.getD_eq_getElem?_getD, List.getElem?_eq_getElem (by omega)]
    rfl
  · show (if ov = o then _ else if ov = ov then _ else _) = _
    rw [if_neg (Ne.symm d2), if_pos rfl]
  · have e : (tsRd l n' (tsL s (nI n'))).2.2.2.2.1 = (txEnd (txAll l n' s.2.2.2.1)).2.2.2.1 := rfl
    have hlen : (txEnd (txAll l n' s.2.2.2.1)).2.2.2.1.length = 6 := end_len
    rw [e, List.getElem?_map, List.getElem?_eq_getElem (by omega), List.getD_eq_getElem?_getD, List.getElem?_eq_getElem (by omega)]
    rfl
/-- all texts, when one was made anew -/
theorem md_one {f : Nat → Nat → List Int32 → Nat → List Int32 → Prop} (hT : TS ad h np ex ho) (h5 : R5 ad h) (he : TxE σ ad h b o ob ov oc bs s) (hb : b < 4) (hl : l.length = 60) {n' : Nat} (hn : n' ≤ 60) (hf : ∀ b' m bs', b' ≠ b → b' < 4 → f b' m bs' m bs') (hf2 : ∀ m, s.1 = nI m → m ≤ 60 → f b m bs n' l) : Md f ad (txH (am_set h ob (20, l.map .int)) o ob ov oc (tsRd l n' (tsL s (nI n')))) := fun b' hb' => by
  obtain ⟨m, bs', nm, ⟨h1, h2⟩, h3, h4⟩ := h5 b' hb'
  have cc := r5_cls
  have hM : M5 ad (txH (am_set h ob (20, l.map .int)) o ob ov oc (tsRd l n' (tsL s (nI n')))) b' m bs' := by
    have k1 : kMty ≠ 0 ∧ (kMty ≠ 17 ∧ (kMty ≠ 18 ∧ kMty ≠ 19)) := by decide +kernel
    have k2 : kMby ≠ 0 ∧ (kMby ≠ 17 ∧ (kMby ≠ 18 ∧ kMby ≠ 19)) := by decide +kernel
    exact ⟨fr_at hT.2.1 he h4.1 (Or.inr k1), fun j hj => fr_at hT.2.1 he (h4.2 j hj) (Or.inr k2)⟩
  by_cases e : b' = b
  · subst e
    obtain ⟨c1, c2⟩ := c5_same he h2 h3
    exact ⟨m, bs', n', l, _, ⟨⟨h1, h2⟩, hn, hl⟩, c5_new he hl hn he.2.2.2.2.2.1, hM, by rw [c2]; exact hf2 m c1 h1⟩
  · refine ⟨m, bs', m, bs', nm, ⟨⟨h1, h2⟩, h1, h2⟩, ⟨?_, fun p hp => ?_, fun w hw => ?_⟩, hM, hf b' m bs' e hb'⟩
    · exact fr_at hT.2.1 he h3.1 (Or.inl e)
    · exact fr_at hT.2.1 he (h3.2.1 p hp) (Or.inl e)
    · exact fr_at hT.2.1 he (h3.2.2 w hw) (Or.inl e)
end
end
section
/-! ===== the class's type and wipe, whole ===== -/
section
variable {σ : Nat → Nat} {ad : AD} {h : AH} {np b n o ob ov oc ox q k : Nat} {ex ho : Nat → Nat → Prop} {bs l : List Int32} {s s' : TXS} {t x z : Int32} {nm : Int32} {fs : List Value} {P : AH → Prop}
noncomputable def IntP (P : AH → Prop) (v : Option Value) (h : AH) : Prop := (∃ y, v = some (.int y)) ∧ P h
theorem X_tcont (hk : k = 0 ∨ k = 1) (h1 : h.1 q = some (k, fs)) (h2 : fs[1]? = some (.int z)) (Hbad : txW x (nI 0) (nI 255) = 0 → P h) (Hfull : ¬ z < nI 60 → P h) (Happ : txW x (nI 0) (nI 255) = 1 → z < nI 60 → Rt σ 37 (codeOf 37) (am_args 0 [.ref q, .int x]) [] h (IntP P)) :
    Rt σ 35 ([(5, (2, 3, 2)), (6, (1, 3, 2)), (7, (20, 0, 21)), (10, (1, 2, 0)), (11, (0, 0, 0)), (12, (0, 0, 255)), (15, (12, 10, 0)), (18, (6, 1, 24))] ++ jump 35 21) (am_args 0 [.ref ox, .int t, .int x]) [.ref q] h (IntP P) := by
  have ml := ml_x
  have k3 : (fks 27).contains k = true := by
    rcases hk with rfl | rfl
    · exact f_tx.2.1
    · exact f_len1
  refine rl_store rfl (rl_load rfl rfl (rl_nulF0 (rl_load rfl rfl (rl_const (rl_const (within_ok (by show 0 ≤ 8; omega) ?_))))))
  rcases txW_01 x (nI 0) (nI 255) with e | e
  · refine rl_ifF ?_ ?_
    · show icond 1 (txW x (nI 0) (nI 255)) 0 = _
      rw [e]; rfl
    · rw [j35_21]
      exact rl_const (rl_ret1 ⟨⟨_, rfl⟩, Hbad e⟩)
  · refine rl_ifT ?_ ?_
    · show icond 1 (txW x (nI 0) (nI 255)) 0 = _
      rw [e]; rfl
    · show Rt σ 35 (jump 35 24) _ _ _ _
      rw [j35_24]
      refine rl_load rfl rfl (rl_get h1 k3 (by rw [p_tx.2.1]; exact h2) (rl_const ?_))
      by_cases hz : z < nI 60
      · refine rl_icmpT (by show some (decide (z < nI 60)) = some true; rw [decide_eq_true hz]) ?_
        show Rt σ 35 (jump 35 38) _ _ _ _
        rw [j35_38]
        have hf : ([(0, 37), (1, 37)] : List (Nat × Nat)).find? (fun t => t.1 == k) = some (k, 37) := by
          rcases hk with rfl | rfl <;> rfl
        refine rl_load rfl rfl (rl_load rfl rfl (rl_callv2 (as := [.int x]) (r := []) spec_29 hf rfl rfl h1 (by show 0 ≤ 8; omega) (two_ok (blet (and2 (and2 ml).2).1)) (rt_mono (Happ e hz) fun v h' ⟨⟨y, e1⟩, e2⟩ => ?_)))
        subst e1
        rw [j35_43]
        exact rl_ret1 ⟨⟨_, rfl⟩, e2⟩
      · refine rl_icmpF (by show some (decide (z < nI 60)) = some false; rw [decide_eq_false hz]) (rl_const (rl_goto ?_))
        show Rt σ 35 (jump 35 43) _ _ _ _
        rw [j35_43]
        exact rl_ret1 ⟨⟨_, rfl⟩, Hfull hz⟩
theorem tx_len (hT : TS ad h np ex ho) (hq : ad 1 0 = some q) : ∃ vs z, h.1 q = some (1, vs) ∧ vs[1]? = some (.int z) := by
  have hc : (cdm 1 = 0 ∧ cdk 1 = 1) ∧ (2 ≤ (cd 1).2.2.length ∧ (ct_at 1 1).map (fun t => t.1) = some 0) := by decide +kernel
  obtain ⟨⟨m1, m2⟩, m3, m4⟩ := hc
  obtain ⟨-, k, vs, y1, y2, y3, y4⟩ := hT.1 1 0 q (by omega) hq
  have ek : k = 1 := by
    rcases y2 with e | ⟨e, -⟩
    · rw [e, m2]
    · rw [m2] at e; cases e
  subst ek
  have hlen := y3.1 m1
  have h2 : 1 < vs.length := by omega
  obtain ⟨ty, a1, a2⟩ := y4 1 _ (List.getElem?_eq_getElem h2)
  rw [a1] at m4
  obtain ⟨z, e⟩ := tv_int a2 (Option.some.inj m4)
  exact ⟨vs, z, y1, by rw [List.getElem?_eq_getElem h2, e]⟩
theorem X_type (hσ : ∀ k, k < 6 → ad (stc k) 0 = some (σ k)) (hT : TS ad h np ex ho) (hs : St5 ad h) (h5 : R5 ad h) (hox : ad 10 0 = some ox) (hTX : t = nI 4 → txW x (nI 0) (nI 255) = 1 → ∀ q, ad 1 0 = some q → Rt σ 37 (codeOf 37) (am_args 0 [.ref q, .int x]) [] h (IntP (R5 ad))) : Rt σ 35 (codeOf 35) (am_args 0 [.ref ox, .int t, .int x]) [] h (IntP (Md (fT t x) ad)) := by
  have ml := ml_x
  obtain ⟨vs, -, -, -, ⟨x1, -, -⟩, -⟩ := x_form hT hox
  have e35 : codeOf 35 = (0, (1, 0, 2)) :: (1, (1, 1, 0)) :: (2, (12, 28, 0)) :: ([(5, (2, 3, 2)), (6, (1, 3, 2)), (7, (20, 0, 21)), (10, (1, 2, 0)), (11, (0, 0, 0)), (12, (0, 0, 255)), (15, (12, 10, 0)), (18, (6, 1, 24))] ++ jump 35 21) := head_35
  have ne4 : t = nI 4 → ∀ b, b < 4 → t ≠ nI b := fun e b hb e2 => by
    have := nI_inj (by omega) (by omega) (e.symm.trans e2)
    omega
  have none' : (∀ b, b < 4 → t ≠ nI b) → ∀ h', R5 ad h' → Md (fT t x) ad h' := fun hne h' h5' => md_same h5' fun b n bs hb _ _ => ⟨fun e => absurd e.1 (hne b hb), fun _ => ⟨rfl, rfl⟩⟩
  have bad : txW x (nI 0) (nI 255) = 0 → Md (fT t x) ad h := fun e => md_same h5 fun b n bs hb _ _ => ⟨fun e2 => by have := e2.2.2; rw [e] at this; exact absurd this (by decide), fun _ => ⟨rfl, rfl⟩⟩
  rw [e35]
  refine rl_load rfl rfl (rl_load rfl rfl (rl_callv (as := [.int t]) (r := []) spec_28 rfl rfl x1 (by show 0 ≤ 8; omega) (two_ok (blet (and2 ml).1)) (X_textAt hT hox (fun e q hq => ?_) (fun b hb e o ho => ?_) (fun hne => ?_))))
  · obtain ⟨ts, z, z1, z2⟩ := tx_len hT hq
    exact X_tcont (Or.inr rfl) z1 z2 bad (fun _ => none' (ne4 e) h h5) fun hw _ => rt_mono (hTX e hw q hq) fun v h' ⟨e1, e2⟩ => ⟨e1, none' (ne4 e) h' e2⟩
  · obtain ⟨o', ob, ov, oc, bs, s, he⟩ := bl_form (b := b) hσ hT hs (by rw [ho]; exact fun e => by cases e)
    have eo : o' = o := by
      have := he.1.1
      rw [ho] at this
      exact (Option.some.inj this).symm
    subst eo
    have he0 := he
    obtain ⟨⟨e1, e2, e3, e4⟩, e5, e6, e7, e8, e9, e10⟩ := he0
    obtain ⟨n0, bs0, nm, ⟨hn0, hl0⟩, hc0, hm0⟩ := h5 b hb
    obtain ⟨c1, c2⟩ := c5_same he hl0 hc0
    have hto : h.1 o' = some (0, txF ob ov oc s) := by
      have := tx_o (h := h) (o := o') (ob := ob) (ov := ov) (oc := oc) (s := s)
      rw [e5] at this
      exact this
    refine X_tcont (z := s.1) (Or.inl rfl) hto rfl bad (fun hz => md_same h5 fun b' n bs hb' hn hat => ⟨fun e' => ?_, fun _ => ⟨rfl, rfl⟩⟩) fun hw hz => ?_
    · have eb := nI_inj (by omega) (by omega) (e.symm.trans e'.1)
      subst eb
      obtain ⟨a, k, fs, a1, a2, a3⟩ := hat
      rw [e1] at a1
      cases a1
      rw [hto] at a2
      cases a2
      have es : s.1 = nI n := Value.int.inj (Option.some.inj a3)
      rw [es] at hz
      exact absurd ((tx_lt (by omega) (by omega)).mpr e'.2.1) hz
    · rw [c1, tx_lt (by omega) (by omega)] at hz
      have hT' := T_append (σ := σ) (h := h) (x := x) (Q := IntP (Md (fT t x) ad)) e6 e7 e8 hz c1 e9 e10 ⟨⟨_, rfl⟩, ?_⟩
      · rw [e5] at hT'
        exact hT'
      · refine md_one hT h5 he hb (by rw [List.length_set]; exact e6.2.2.2) (by omega) (fun b' m bs' hne hb' => ⟨fun e' => absurd (nI_inj (by omega) (by omega) (e'.1.symm.trans e)) hne, fun _ => ⟨rfl, rfl⟩⟩) fun m em hm => ?_
        have : m = n0 := nI_inj (by omega) (by omega) (em.symm.trans c1)
        subst this
        exact ⟨fun _ => ⟨rfl, rfl⟩, fun e' => absurd ⟨e, hz, hw⟩ e'⟩
  · refine rl_store rfl (rl_load rfl rfl (rl_nulT0 ?_))
    show Rt σ 35 (jump 35 21) _ _ _ _
    rw [j35_21]
    exact rl_const (rl_ret1 ⟨⟨_, rfl⟩, none' (fun b hb => hne b (by omega)) h h5⟩)
theorem X_wipe (hσ : ∀ k, k < 6 → ad (stc k) 0 = some (σ k)) (hT : TS ad h np ex ho) (hs : St5 ad h) (h5 : R5 ad h) (hox : ad 10 0 = some ox) (hTX : t = nI 4 → ∀ q, ad 1 0 = some q → Rt σ 50 (codeOf 50) (am_args 0 [.ref q]) [] h (IntP (R5 ad))) : Rt σ 49 (codeOf 49) (am_args 0 [.ref ox, .int t]) [] h (IntP (Md (fW t) ad)) := by
  have ml := ml_x
  obtain ⟨vs, -, -, -, ⟨x1, -, -⟩, -⟩ := x_form hT hox
  have ne4 : t = nI 4 → ∀ b, b < 4 → t ≠ nI b := fun e b hb e2 => by
    have := nI_inj (by omega) (by omega) (e.symm.trans e2)
    omega
  have none' : (∀ b, b < 4 → t ≠ nI b) → ∀ h', R5 ad h' → Md (fW t) ad h' := fun hne h' h5' => md_same h5' fun b n bs hb _ _ => ⟨fun e => absurd e (hne b hb), fun _ => ⟨rfl, rfl⟩⟩
  have tail : ∀ {q k : Nat} {fs : List Value}, (k = 0 ∨ k = 1) → h.1 q = some (k, fs) → Rt σ 50 (codeOf 50) (am_args 0 [.ref q]) [] h (IntP (Md (fW t) ad)) → Rt σ 49 ([(5, (2, 2, 2)), (6, (1, 2, 2)), (7, (20, 1, 15)), (10, (0, 0, -2)), (12, (7, 0, 19))] ++ jump 49 15) (am_args 0 [.ref ox, .int t]) [.ref q] h (IntP (Md (fW t) ad)) := by
    intro q k fs hk h1 hr
    refine rl_store rfl (rl_load rfl rfl (rl_nulT1 ?_))
    show Rt σ 49 (jump 49 15) _ _ _ _
    rw [j49_15]
    have hf : ([(0, 50), (1, 50)] : List (Nat × Nat)).find? (fun t => t.1 == k) = some (k, 50) := by
      rcases hk with rfl | rfl <;> rfl
    refine rl_load rfl rfl (rl_callv2 (as := []) (r := []) spec_42 hf rfl rfl h1 (by show 0 ≤ 8; omega) (ref_ok (blet (and2 (and2 ml).2).2)) (rt_mono hr fun v h' ⟨⟨y, e1⟩, e2⟩ => ?_))
    subst e1
    rw [j49_19]
    exact rl_ret1 ⟨⟨_, rfl⟩, e2⟩
  have e49 : codeOf 49 = (0, (1, 0, 2)) :: (1, (1, 1, 0)) :: (2, (12, 28, 0)) :: ([(5, (2, 2, 2)), (6, (1, 2, 2)), (7, (20, 1, 15)), (10, (0, 0, -2)), (12, (7, 0, 19))] ++ jump 49 15) := head_49
  rw [e49]
  refine rl_load rfl rfl (rl_load rfl rfl (rl_callv (as := [.int t]) (r := []) spec_28 rfl rfl x1 (by show 0 ≤ 8; omega) (two_ok (blet (and2 ml).1)) (X_textAt hT hox (fun e q hq => ?_) (fun b hb e o ho => ?_) (fun hne => ?_))))
  · obtain ⟨ts, z, z1, z2⟩ := tx_len hT hq
    exact tail (Or.inr rfl) z1 (rt_mono (hTX e q hq) fun v h' ⟨e1, e2⟩ => ⟨e1, none' (ne4 e) h' e2⟩)
  · obtain ⟨o', ob, ov, oc, bs, s, he⟩ := bl_form (b := b) hσ hT hs (by rw [ho]; exact fun e => by cases e)
    have eo : o' = o := by
      have := he.1.1
      rw [ho] at this
      exact (Option.some.inj this).symm
    subst eo
    have he0 := he
    obtain ⟨⟨e1, e2, e3, e4⟩, e5, e6, e7, e8, e9, e10⟩ := he0
    have hto : h.1 o' = some (0, txF ob ov oc s) := by
      have := tx_o (h := h) (o := o') (ob := ob) (ov := ov) (oc := oc) (s := s)
      rw [e5] at this
      exact this
    have hsame : am_set h ob (20, bs.map .int) = h := by
      unfold am_set
      refine Prod.ext (funext fun a => ?_) rfl
      dsimp only
      by_cases e : a = ob
      · rw [if_pos e, e, e6.2.2.1]
      · rw [if_neg e]
    have hone := md_one (f := fW t) (n' := 0) (l := bs) hT h5 he hb e6.2.2.2 (by omega) (fun b' m bs' hne hb' => ⟨fun e' => absurd (nI_inj (by omega) (by omega) (e'.symm.trans e)) hne, fun _ => ⟨rfl, rfl⟩⟩) (fun m em hm => ⟨fun _ => ⟨rfl, rfl⟩, fun e' => absurd e e'⟩)
    rw [hsame] at hone
    have hT' := T_empty (σ := σ) (h := h) (Q := IntP (Md (fW t) ad)) e6 e7 e9 e10 ⟨⟨_, rfl⟩, hone⟩
    rw [e5] at hT'
    exact tail (Or.inl rfl) hto hT'
  · refine rl_store rfl (rl_load rfl rfl (rl_nulF1 (rl_const (rl_goto ?_))))
    show Rt σ 49 (jump 49 19) _ _ _ _
    rw [j49_19]
    exact rl_ret1 ⟨⟨_, rfl⟩, none' (fun b hb => hne b (by omega)) h h5⟩
end
end
section
/-! ===== the model's type and wipe ===== -/
theorem code_189 : codeOf 189 = [(0, (1, 1, 0)), (1, (12, 144, 0)), (4, (6, 0, 18)), (7, (1, 2, 0)), (8, (0, 0, 0)), (9, (0, 0, 255)), (12, (12, 125, 0)), (15, (6, 1, 21)), (18, (0, 0, -2)), (20, (13, 1, 0)), (21, (1, 0, 2)), (22, (8, 102, 0)), (25, (1, 1, 0)), (26, (10, 0, 0)), (27, (0, 0, 60)), (29, (5, 1, 35)), (32, (0, 0, -4)), (34, (13, 1, 0)), (35, (1, 0, 2)), (36, (8, 103, 0)), (39, (0, 0, 60)), (41, (1, 1, 0)), (42, (4, 2, 0)), (43, (1, 0, 2)), (44, (8, 102, 0)), (47, (1, 1, 0)), (48, (10, 0, 0)), (49, (4, 0, 0)), (50, (1, 2, 0)), (51, (11, 0, 0)), (52, (1, 0, 2)), (53, (8, 102, 0)), (56, (1, 1, 0)), (57, (18, 3, 0)), (58, (10, 0, 0)), (59, (0, 0, 1)), (60, (4, 0, 0)), (61, (11, 0, 0)), (62, (1, 0, 2)), (63, (8, 102, 0)), (66, (1, 1, 0)), (67, (10, 0, 0)), (68, (13, 1, 0))] := by decide +kernel
theorem head_189 : codeOf 189 = [(0, (1, 1, 0)), (1, (12, 144, 0)), (4, (6, 0, 18)), (7, (1, 2, 0)), (8, (0, 0, 0)), (9, (0, 0, 255)), (12, (12, 125, 0)), (15, (6, 1, 21))] ++ jump 189 18 := by rw [jump_jmp, code_189]; rfl
theorem j189_18 : jump 189 18 = [(18, (0, 0, -2)), (20, (13, 1, 0))] ++ jump 189 21 := by rw [jump_jmp, jump_jmp, code_189]; rfl
theorem j189_21 : jump 189 21 = [(21, (1, 0, 2)), (22, (8, 102, 0)), (25, (1, 1, 0)), (26, (10, 0, 0)), (27, (0, 0, 60)), (29, (5, 1, 35)), (32, (0, 0, -4)), (34, (13, 1, 0))] ++ jump 189 35 := by rw [jump_jmp, jump_jmp, code_189]; rfl
theorem j189_35 : jump 189 35 = [(35, (1, 0, 2)), (36, (8, 103, 0)), (39, (0, 0, 60)), (41, (1, 1, 0)), (42, (4, 2, 0)), (43, (1, 0, 2)), (44, (8, 102, 0)), (47, (1, 1, 0)), (48, (10, 0, 0)), (49, (4, 0, 0)), (50, (1, 2, 0)), (51, (11, 0, 0)), (52, (1, 0, 2)), (53, (8, 102, 0)), (56, (1, 1, 0)), (57, (18, 3, 0)), (58, (10, 0, 0)), (59, (0, 0, 1)), (60, (4, 0, 0)), (61, (11, 0, 0)), (62, (1, 0, 2)), (63, (8, 102, 0)), (66, (1, 1, 0)), (67, (10, 0, 0)), (68, (13, 1, 0))] := by rw [jump_jmp, code_189]; rfl
theorem code_191 : codeOf 191 = [(0, (1, 1, 0)), (1, (12, 144, 0)), (4, (6, 1, 10)), (7, (0, 0, -2)), (9, (13, 1, 0)), (10, (1, 0, 2)), (11, (8, 102, 0)), (14, (1, 1, 0)), (15, (10, 0, 0)), (16, (2, 2, 0)), (17, (1, 0, 2)), (18, (8, 102, 0)), (21, (1, 1, 0)), (22, (0, 0, 0)), (23, (11, 0, 0)), (24, (1, 2, 0)), (25, (13, 1, 0))] := by decide +kernel
theorem head_191 : codeOf 191 = [(0, (1, 1, 0)), (1, (12, 144, 0)), (4, (6, 1, 10)), (7, (0, 0, -2)), (9, (13, 1, 0))] ++ jump 191 10 := by rw [jump_jmp, code_191]; rfl
theorem j191_10 : jump 191 10 = [(10, (1, 0, 2)), (11, (8, 102, 0)), (14, (1, 1, 0)), (15, (10, 0, 0)), (16, (2, 2, 0)), (17, (1, 0, 2)), (18, (8, 102, 0)), (21, (1, 1, 0)), (22, (0, 0, 0)), (23, (11, 0, 0)), (24, (1, 2, 0)), (25, (13, 1, 0))] := by rw [jump_jmp, code_191]; rfl
theorem code_190 : codeOf 190 = [(0, (1, 0, 0)), (1, (0, 0, 0)), (2, (0, 0, 4)), (3, (12, 125, 0)), (6, (13, 4, 0))] := by decide +kernel
theorem spec_144 : spec 144 = (0, 1, [(0, 190)]) := by decide +kernel
theorem ml_m : Nat.ble 1 (mL 190) = true := by decide +kernel
theorem mty_cls : ∀ p, p < 5 → ct_at kMty p = some (0, 2147483648, 2147483708) := by decide +kernel
/-- the model's rows of texts -/
noncomputable def MtE (ad : AD) (h : AH) (m ot oy : Nat) (vs : List Value) (ty yy : List Int32) : Prop := ((ad 11 0 = some m ∧ (ad kMty 0 = some ot ∧ ad kMby 0 = some oy)) ∧ (h.1 m = some (11, vs) ∧ (vs[23]? = some (.ref ot) ∧ vs[24]? = some (.ref oy)))) ∧ (((m ≠ ot ∧ m ≠ oy) ∧ ot ≠ oy) ∧ ((h.1 ot = some (20, ty.map .int) ∧ ty.length = 5) ∧ ((h.1 oy = some (20, yy.map .int) ∧ yy.length = 300) ∧ ∀ b, b < 5 → ∃ n, n ≤ 60 ∧ ty[b]? = some (nI n))))
section
variable {σ : Nat → Nat} {ad ad1 : AD} {h h1 : AH} {np b n m ot oy M pc k : Nat} {ex ho : Nat → Nat → Prop} {bs : List Int32} {t x : Int32} {vs S : List Value} {ty yy : List Int32} {tl : List (Nat × AI)} {L : LV} {Q : Option Value → AH → Prop} {c : Int}
theorem rl_dup2 {u v : Value} (h1 : v.category = 1) (h2 : u.category = 1) (hk : Rt σ M tl L (v :: u :: v :: u :: S) h Q) : Rt σ M ((pc, (18, 3, c)) :: tl) L (v :: u :: S) h Q := by
  refine rt_nx ?_ hk
  show s_stk 3 L (v :: u :: S) h = _
  show (if v.category = 1 ∧ u.category = 1 then nx L (v :: u :: v :: u :: S) h else none) = _
  rw [if_pos ⟨h1, h2⟩]
  rfl
theorem mt_form (hT : TS ad h np ex ho) : ∃ m ot oy vs ty yy, MtE ad h m ot oy vs ty yy := by
  obtain ⟨⟨⟨m1, m2⟩, m3, m4⟩, ⟨⟨m5, m6⟩, m7⟩, -, ⟨m12, m13⟩, m14, ⟨m15, m16⟩, m17⟩ := m_cls
  obtain ⟨⟨n1, n2⟩, n3, n4, n5⟩ := m_ne
  obtain ⟨t1, t2, t3, t4, t5, t6⟩ := hT
  obtain ⟨m, hm⟩ := t4.2.1 11 m4
  obtain ⟨-, k, vs, y1, y2, y3, y4⟩ := t1 11 0 m (by omega) hm
  have ek : k = 11 := by
    rcases y2 with e | ⟨e, -⟩
    · rw [e, m2]
    · rw [m2] at e; cases e
  subst ek
  have hlen := y3.1 m1
  have fr : ∀ p c, p < 30 → ct_at 11 p = some (7, c, 0) → ∃ q, vs[p]? = some (.ref q) ∧ ad c 0 = some q := fun p c hp h1 => by
    have h2 : p < vs.length := by omega
    obtain ⟨ty, a, b⟩ := y4 p _ (List.getElem?_eq_getElem h2)
    rw [h1] at a
    cases a
    obtain ⟨q, e1, e2⟩ := tv_sgl b rfl
    exact ⟨q, by rw [List.getElem?_eq_getElem h2, e1], e2⟩
  obtain ⟨ot, f23, hot⟩ := fr 23 _ (by omega) m5
  obtain ⟨oy, f24, hoy⟩ := fr 24 _ (by omega) m6
  obtain ⟨ty, r1, r2⟩ := row_of t1 m12 hot m15 (by omega)
  obtain ⟨yy, r3, r4⟩ := row_of t1 m13 hoy m16 (by omega)
  have kne : kMty ≠ kMby := by decide +kernel
  refine ⟨m, ot, oy, vs, ty, yy, ⟨⟨hm, hot, hoy⟩, y1, f23, f24⟩, ⟨⟨?_, ?_⟩, ?_⟩, ⟨r1, r2⟩, ⟨r3, r4⟩, fun b hb => ?_⟩
  · exact ref_ne t2 hm hot (by rw [m2]; omega) fun e => n1 e.1
  · exact ref_ne t2 hm hoy (by rw [m2]; omega) fun e => n2 e.1
  · exact ref_ne t2 hot hoy (by rw [m15]; omega) fun e => kne e.1
  · have h2 : b < ty.length := by omega
    obtain ⟨-, k, us, z1, -, -, z4⟩ := t1 kMty 0 ot r5_cls.2.2.1 hot
    rw [r1] at z1
    cases z1
    have e : (ty.map Value.int)[b]? = some (.int ty[b]) := by rw [List.getElem?_map, List.getElem?_eq_getElem h2]; rfl
    obtain ⟨tt, a1, a2⟩ := z4 b _ e
    rw [mty_cls b hb] at a1
    cases a1
    rcases a2 with ⟨-, y, e1, e2⟩ | ⟨e, -⟩ | ⟨e, -⟩ | ⟨e, -⟩ | ⟨e, -⟩ | ⟨e, -⟩ | ⟨e, -⟩ | ⟨e, -⟩ | e
    case inl =>
      cases e1
      dsimp only at e2
      exact ⟨i2n ty[b] - 2147483648, by omega, (List.getElem?_eq_getElem h2).trans (congrArg some (r5nI (by omega) (by omega)))⟩
    all_goals cases e
theorem isText_ok (h4 : am_w S ≤ 8) (hk : Rt σ M tl L (.int (txW t (nI 0) (nI 4)) :: S) h Q) : Rt σ M ((pc, (12, 144, c)) :: tl) L (.int t :: S) h Q := by
  refine rl_calls (as := [.int t]) (r := S) spec_144 rfl rfl h4 ?_ ?_
  · unfold am_ok
    rw [decide_eq_true (show ([.int t] : List Value).length ≤ mL 190 from blet ml_m)]
    rfl
  · rw [code_190]
    refine rl_load rfl rfl (rl_const (rl_const (min_ok (by show 0 ≤ 8; omega) (rl_ret4 ?_ ?_))))
    · exact txW_01 _ _ _
    · exact hk
/-- without a change -/
theorem r5_stay {f : Nat → Nat → List Int32 → Nat → List Int32 → Prop} (hM : Md f ad h) (hf : ∀ b n bs n2 bs2, b < 4 → n ≤ 60 → At ad h kMty 0 b (.int (nI n)) → f b n bs n2 bs2 → n2 = n ∧ bs2 = bs) : R5 ad h := fun b hb => by
  obtain ⟨n, bs, n2, bs2, nm, ⟨h1, h2⟩, h3, h4, h5⟩ := hM b hb
  obtain ⟨rfl, rfl⟩ := hf b n bs n2 bs2 hb h1.1 h4.1 h5
  exact ⟨n2, bs2, nm, h2, h3, h4⟩
theorem at_mt (ha : At ad h kMty 0 b (.int x)) (he : MtE ad h m ot oy vs ty yy) : ty[b]? = some x := at_row ha he.1.1.2.1 he.2.2.1.1
/-- other rows -/
theorem at_o {c i p : Nat} {v : Value} {y z : AO} (h2 : T2 ad1) (hup : ∀ c i q, c < 1000 → ad c i = some q → ad1 c i = some q) (he : MtE ad1 h m ot oy vs ty yy) (hc : c < 1000) (h3 : c ≠ kMty ∧ c ≠ kMby) (ha : At ad h c i p v) : At ad (am_set (am_set h oy y) ot z) c i p v := by
  obtain ⟨-, -, -, -, -, ⟨m15, m16⟩, m17⟩ := m_cls
  obtain ⟨a, k, us, a1, a2, a3⟩ := ha
  have n1 := ref_ne h2 he.1.1.2.1 (hup _ _ _ hc a1) (by rw [m15]; omega) (fun e => h3.1 e.1.symm)
  have n2 := ref_ne h2 he.1.1.2.2 (hup _ _ _ hc a1) (by rw [m16]; omega) (fun e => h3.2 e.1.symm)
  refine ⟨a, k, us, a1, ?_, a3⟩
  show (if a = ot then _ else if a = oy then _ else h.1 a) = _
  rw [if_neg (Ne.symm n1), if_neg (Ne.symm n2)]
  exact a2
theorem m_type_r5 (h2 : T2 ad1) (hup : ∀ c i q, c < 1000 → ad c i = some q → ad1 c i = some q) (hot' : ad kMty 0 = some ot) (hoy' : ad kMby 0 = some oy) (he : MtE ad1 h m ot oy vs ty yy) (hM : Md (fT (nI b) x) ad h) (hb : b < 5) (hn : n < 60) (ht : ty[b]? = some (nI n)) (hx : txW x (nI 0) (nI 255) = 1) : R5 ad (am_set (am_set h oy (20, (yy.set (60 * b + n) x).map .int)) ot (20, (ty.set b (nI (n + 1))).map .int)) := fun b' hb' => by
  have k0 : ((0 ≠ kMty ∧ 0 ≠ kMby) ∧ (17 ≠ kMty ∧ 17 ≠ kMby)) ∧ ((18 ≠ kMty ∧ 18 ≠ kMby)) := by decide +kernel
  obtain ⟨m0, bs, n2, bs2, nm, ⟨h1, h1'⟩, h3, h4, h5⟩ := hM b' hb'
  have hC : C5 ad (am_set (am_set h oy (20, (yy.set (60 * b + n) x).map .int)) ot (20, (ty.set b (nI (n + 1))).map .int)) b' n2 bs2 nm := ⟨at_o h2 hup he (by omega) k0.1.1 h3.1, fun p hp => at_o h2 hup he (by omega) k0.1.2 (h3.2.1 p hp), fun w hw => at_o h2 hup he (by omega) k0.2 (h3.2.2 w hw)⟩
  have e1 : ty[b']? = some (nI m0) := at_row h4.1 hot' he.2.2.1.1
  have hot : (am_set (am_set h oy (20, (yy.set (60 * b + n) x).map .int)) ot (20, (ty.set b (nI (n + 1))).map .int)).1 ot = some (20, (ty.set b (nI (n + 1))).map .int) := if_pos rfl
  have hoy : (am_set (am_set h oy (20, (yy.set (60 * b + n) x).map .int)) ot (20, (ty.set b (nI (n + 1))).map .int)).1 oy = some (20, (yy.set (60 * b + n) x).map .int) := by
    show (if oy = ot then _ else if oy = oy then _ else _) = _
    rw [if_neg (Ne.symm he.2.1.2), if_pos rfl]
  have hbl : b < ty.length := by rw [he.2.2.1.2]; exact hb
  have hyl := he.2.2.2.1.2
  by_cases e : b' = b
  · subst e
    rw [ht] at e1
    have em : n = m0 := nI_inj (by omega) (by omega) (Option.some.inj e1)
    subst em
    obtain ⟨rfl, rfl⟩ := h5.1 ⟨rfl, hn, hx⟩
    refine ⟨n + 1, bs.set n x, nm, h1', hC, ⟨ot, 20, _, hot', hot, ?_⟩, fun j hj => ⟨oy, 20, _, hoy', hoy, ?_⟩⟩
    · rw [List.getElem?_map, List.getElem?_set_self hbl]
      rfl
    · rw [List.getElem?_map]
      by_cases ej : j = n
      · subst ej
        rw [List.getElem?_set_self (by omega), List.getD_eq_getElem?_getD, List.getElem?_set_self (by omega)]
        rfl
      · have h6 := at_row (h4.2 j (by omega)) hoy' he.2.2.2.1.1
        rw [List.getElem?_set_ne (by omega), h6, List.getD_eq_getElem?_getD, List.getD_eq_getElem?_getD, List.getElem?_set_ne (fun e => ej e.symm)]
        rfl
  · obtain ⟨rfl, rfl⟩ := h5.2 fun e2 => e (nI_inj (by omega) (by omega) e2.1.symm)
    refine ⟨n2, bs2, nm, h1, hC, ⟨ot, 20, _, hot', hot, ?_⟩, fun j hj => ⟨oy, 20, _, hoy', hoy, ?_⟩⟩
    · rw [List.getElem?_map, List.getElem?_set_ne (fun e2 => e e2.symm), e1]
      rfl
    · rw [List.getElem?_map, List.getElem?_set_ne (by omega), at_row (h4.2 j hj) hoy' he.2.2.2.1.1]
      rfl
theorem m_wipe_r5 (h2 : T2 ad1) (hup : ∀ c i q, c < 1000 → ad c i = some q → ad1 c i = some q) (hot' : ad kMty 0 = some ot) (hoy' : ad kMby 0 = some oy) (he : MtE ad1 h m ot oy vs ty yy) (hM : Md (fW (nI b)) ad h) (hb : b < 5) : R5 ad (am_set h ot (20, (ty.set b (nI 0)).map .int)) := fun b' hb' => by
  have k0 : ((0 ≠ kMty ∧ 0 ≠ kMby) ∧ (17 ≠ kMty ∧ 17 ≠ kMby)) ∧ ((18 ≠ kMty ∧ 18 ≠ kMby)) := by decide +kernel
  obtain ⟨m0, bs, n2, bs2, nm, ⟨h1, h1'⟩, h3, h4, h5⟩ := hM b' hb'
  have hsame : am_set h oy (20, yy.map .int) = h := by
    unfold am_set
    refine Prod.ext (funext fun a => ?_) rfl
    dsimp only
    by_cases e : a = oy
    · rw [if_pos e, e, he.2.2.2.1.1]
    · rw [if_neg e]
  have fr : ∀ {c i p : Nat} {v : Value}, c < 1000 → (c ≠ kMty ∧ c ≠ kMby) → At ad h c i p v → At ad (am_set h ot (20, (ty.set b (nI 0)).map .int)) c i p v := fun {c i p v} hc hk ha => by
    have := at_o (y := (20, yy.map .int)) (z := (20, (ty.set b (nI 0)).map .int)) h2 hup he hc hk ha
    rw [hsame] at this
    exact this
  have hC : C5 ad (am_set h ot (20, (ty.set b (nI 0)).map .int)) b' n2 bs2 nm := ⟨fr (by omega) k0.1.1 h3.1, fun p hp => fr (by omega) k0.1.2 (h3.2.1 p hp), fun w hw => fr (by omega) k0.2 (h3.2.2 w hw)⟩
  have e1 : ty[b']? = some (nI m0) := at_row h4.1 hot' he.2.2.1.1
  have hot : (am_set h ot (20, (ty.set b (nI 0)).map .int)).1 ot = some (20, (ty.set b (nI 0)).map .int) := if_pos rfl
  have hoy : (am_set h ot (20, (ty.set b (nI 0)).map .int)).1 oy = some (20, yy.map .int) := by
    show (if oy = ot then _ else h.1 oy) = _
    rw [if_neg (Ne.symm he.2.1.2)]
    exact he.2.2.2.1.1
  have hbl : b < ty.length := by rw [he.2.2.1.2]; exact hb
  by_cases e : b' = b
  · subst e
    obtain ⟨rfl, rfl⟩ := h5.1 rfl
    refine ⟨0, bs2, nm, h1', hC, ⟨ot, 20, _, hot', hot, ?_⟩, fun j hj => absurd hj (Nat.not_lt_zero _)⟩
    rw [List.getElem?_map, List.getElem?_set_self hbl]
    rfl
  · obtain ⟨rfl, rfl⟩ := h5.2 fun e2 => e (nI_inj (by omega) (by omega) e2.symm)
    refine ⟨n2, bs2, nm, h1, hC, ⟨ot, 20, _, hot', hot, ?_⟩, fun j hj => ⟨oy, 20, _, hoy', hoy, ?_⟩⟩
    · rw [List.getElem?_map, List.getElem?_set_ne (fun e2 => e e2.symm), e1]
      rfl
    · rw [List.getElem?_map, at_row (h4.2 j hj) hoy' he.2.2.2.1.1]
      rfl
/-- the model's type -/
theorem M_type (hT : TS ad1 h np ex ho) (hup : ∀ c i q, c < 1000 → ad c i = some q → ad1 c i = some q) (hm' : ad 11 0 ≠ none ∧ (ad kMty 0 ≠ none ∧ ad kMby 0 ≠ none)) (hm : ad 11 0 = some m) (hM : Md (fT t x) ad h) : Rt σ 189 (codeOf 189) (am_args 0 [.ref m, .int t, .int x]) [] h (IntP (R5 ad)) := by
  have rc := r5_cls
  obtain ⟨m', ot, oy, vs, ty, yy, he⟩ := mt_form hT
  have em : m' = m := Option.some.inj (he.1.1.1.symm.trans (hup _ _ _ (by omega) hm))
  subst em
  have hot' : ad kMty 0 = some ot := by
    cases e : ad kMty 0
    · exact absurd e hm'.2.1
    · rw [← he.1.1.2.1, hup _ _ _ rc.2.2.1 e]
  have hoy' : ad kMby 0 = some oy := by
    cases e : ad kMby 0
    · exact absurd e hm'.2.2
    · rw [← he.1.1.2.2, hup _ _ _ rc.2.2.2 e]
  have he0 := he
  obtain ⟨⟨⟨a1, a2, a3⟩, a4, a5, a6⟩, ⟨⟨b1, b2⟩, b3⟩, ⟨b4, b5⟩, ⟨b6, b7⟩, b8⟩ := he0
  have stay : (∀ b, b < 4 → ∀ n, n ≤ 60 → At ad h kMty 0 b (.int (nI n)) → ¬ (t = nI b ∧ (n < 60 ∧ txW x (nI 0) (nI 255) = 1))) → R5 ad h := fun hne => r5_stay hM fun b n bs n2 bs2 hb hn hat hf => hf.2 (hne b hb n hn hat)
  have bad : (∀ b, b < 4 → ∀ n, n ≤ 60 → At ad h kMty 0 b (.int (nI n)) → ¬ (t = nI b ∧ (n < 60 ∧ txW x (nI 0) (nI 255) = 1))) → Rt σ 189 (jump 189 18) (am_args 0 [.ref m', .int t, .int x]) [] h (IntP (R5 ad)) := fun hne => by
    rw [j189_18]
    exact rl_const (rl_ret1 ⟨⟨_, rfl⟩, stay hne⟩)
  rw [head_189]
  refine rl_load rfl rfl (isText_ok (by show 0 ≤ 8; omega) ?_)
  rcases txW_nat (v := t) (k := 4) (by omega) with ⟨b, c1, c2, c3⟩ | ⟨c1, c2⟩
  · refine rl_ifF ?_ (rl_load rfl rfl (rl_const (rl_const (min_ok (by show 0 ≤ 8; omega) ?_))))
    · show icond 0 (txW t (nI 0) (nI 4)) 0 = _
      rw [c3]; rfl
    · rcases txW_01 x (nI 0) (nI 255) with e | e
      · refine rl_ifF ?_ (bad fun b' _ n _ _ h3 => ?_)
        · show icond 1 (txW x (nI 0) (nI 255)) 0 = _
          rw [e]; rfl
        · rw [e] at h3
          exact absurd h3.2.2 (by decide)
      · refine rl_ifT ?_ ?_
        · show icond 1 (txW x (nI 0) (nI 255)) 0 = _
          rw [e]; rfl
        · show Rt σ 189 (jump 189 21) _ _ _ _
          obtain ⟨n, d1, d2⟩ := b8 b (by omega)
          have eb := nI_nn (show b < 2147483648 by omega)
          have hty : ∀ {z : Int32}, ty[b]? = some z → (ty.map Value.int)[(nI b).toNatClampNeg]? = some (.int z) := fun {z} hz => by
            rw [eb.2, List.getElem?_map, hz]; rfl
          rw [j189_21, c2]
          refine rl_load rfl rfl (rl_get a4 f_md.1 (by rw [p_md.1]; exact a5) (rl_load rfl rfl (rl_ald b4 rfl eb.1 (hty d2) (rl_const ?_))))
          by_cases en : n = 60
          · refine rl_icmpF (by show some (decide (¬ nI n = nI 60)) = some false; rw [en, decide_eq_false (fun h => h rfl)]) (rl_const (rl_ret1 ⟨⟨_, rfl⟩, stay fun b' hb' n' hn' hat h3 => ?_⟩))
            have e5 : b = b' := nI_inj (by omega) (by omega) (c2.symm.trans h3.1)
            subst e5
            have e6 : ty[b]? = some (nI n') := at_row hat hot' b4
            rw [d2] at e6
            have := nI_inj (by omega) (by omega) (Option.some.inj e6)
            omega
          · have hn : n < 60 := by omega
            refine rl_icmpT (by show some (decide (¬ nI n = nI 60)) = some true; rw [decide_eq_true (show ¬ nI n = nI 60 from fun h => en (nI_inj (by omega) (by omega) h))]) ?_
            show Rt σ 189 (jump 189 35) _ _ _ _
            rw [j189_35]
            have ei : Int32.ofInt 60 * nI b + nI n = nI (60 * b + n) := by rw [i60 (by omega), nI_plus (by omega)]
            have ej := nI_nn (show 60 * b + n < 2147483648 by omega)
            refine rl_load rfl rfl (rl_get a4 f_md.2.1 (by rw [p_md.2.1]; exact a6) (rl_const (rl_load rfl rfl (rl_bin rfl (rl_load rfl rfl (rl_get a4 f_md.1 (by rw [p_md.1]; exact a5) (rl_load rfl rfl (rl_ald b4 rfl eb.1 (hty d2) (rl_bin rfl (rl_load rfl rfl ?_))))))))))
            refine rl_ast (k := 20) b6 rfl (by rw [ei]; exact ej.1) (by rw [ei, ej.2, List.length_map, b7]; omega) ?_
            rw [ei, ej.2, ← List.map_set]
            have o1 : (am_set h oy (20, (yy.set (60 * b + n) x).map .int)).1 m' = some (11, vs) := by
              show (if m' = oy then _ else h.1 m') = _
              rw [if_neg b2]; exact a4
            have o2 : (am_set h oy (20, (yy.set (60 * b + n) x).map .int)).1 ot = some (20, ty.map .int) := by
              show (if ot = oy then _ else h.1 ot) = _
              rw [if_neg b3]; exact b4
            refine rl_load rfl rfl (rl_get o1 f_md.1 (by rw [p_md.1]; exact a5) (rl_load rfl rfl (rl_dup2 rfl rfl (rl_ald o2 rfl eb.1 (hty d2) (rl_const (rl_bin rfl ?_))))))
            rw [nI_suc (by omega)]
            refine rl_ast (k := 20) o2 rfl eb.1 (by rw [eb.2, List.length_map, b5]; omega) ?_
            rw [eb.2, ← List.map_set]
            have o3 : (am_set (am_set h oy (20, (yy.set (60 * b + n) x).map .int)) ot (20, (ty.set b (nI (n + 1))).map .int)).1 m' = some (11, vs) := by
              show (if m' = ot then _ else _) = _
              rw [if_neg b1]; exact o1
            have o4 : (am_set (am_set h oy (20, (yy.set (60 * b + n) x).map .int)) ot (20, (ty.set b (nI (n + 1))).map .int)).1 ot = some (20, (ty.set b (nI (n + 1))).map .int) := if_pos rfl
            have e7 : ((ty.set b (nI (n + 1))).map Value.int)[(nI b).toNatClampNeg]? = some (.int (nI (n + 1))) := by
              rw [eb.2, List.getElem?_map, List.getElem?_set_self (by omega)]; rfl
            refine rl_load rfl rfl (rl_get o3 f_md.1 (by rw [p_md.1]; exact a5) (rl_load rfl rfl (rl_ald o4 rfl eb.1 e7 (rl_ret1 ⟨⟨_, rfl⟩, ?_⟩))))
            rw [c2] at hM
            exact m_type_r5 hT.2.1 hup hot' hoy' he hM (by omega) hn d2 e
  · refine rl_ifT ?_ (bad fun b' hb' n _ _ h3 => c2 b' (by omega) h3.1)
    show icond 0 (txW t (nI 0) (nI 4)) 0 = _
    rw [c1]; rfl
/-- the model's wipe -/
theorem M_wipe (hT : TS ad1 h np ex ho) (hup : ∀ c i q, c < 1000 → ad c i = some q → ad1 c i = some q) (hm' : ad 11 0 ≠ none ∧ (ad kMty 0 ≠ none ∧ ad kMby 0 ≠ none)) (hm : ad 11 0 = some m) (hM : Md (fW t) ad h) : Rt σ 191 (codeOf 191) (am_args 0 [.ref m, .int t]) [] h (IntP (R5 ad)) := by
  have rc := r5_cls
  obtain ⟨m', ot, oy, vs, ty, yy, he⟩ := mt_form hT
  have em : m' = m := Option.some.inj (he.1.1.1.symm.trans (hup _ _ _ (by omega) hm))
  subst em
  have hot' : ad kMty 0 = some ot := by
    cases e : ad kMty 0
    · exact absurd e hm'.2.1
    · rw [← he.1.1.2.1, hup _ _ _ rc.2.2.1 e]
  have hoy' : ad kMby 0 = some oy := by
    cases e : ad kMby 0
    · exact absurd e hm'.2.2
    · rw [← he.1.1.2.2, hup _ _ _ rc.2.2.2 e]
  have he0 := he
  obtain ⟨⟨⟨a1, a2, a3⟩, a4, a5, a6⟩, ⟨⟨b1, b2⟩, b3⟩, ⟨b4, b5⟩, ⟨b6, b7⟩, b8⟩ := he0
  rw [head_191]
  refine rl_load rfl rfl (isText_ok (by show 0 ≤ 8; omega) ?_)
  rcases txW_nat (v := t) (k := 4) (by omega) with ⟨b, c1, c2, c3⟩ | ⟨c1, c2⟩
  · refine rl_ifT ?_ ?_
    · show icond 1 (txW t (nI 0) (nI 4)) 0 = _
      rw [c3]; rfl
    · show Rt σ 191 (jump 191 10) _ _ _ _
      obtain ⟨n, d1, d2⟩ := b8 b (by omega)
      have eb := nI_nn (show b < 2147483648 by omega)
      have hty : (ty.map Value.int)[(nI b).toNatClampNeg]? = some (.int (nI n)) := by
        rw [eb.2, List.getElem?_map, d2]; rfl
      rw [j191_10, c2]
      refine rl_load rfl rfl (rl_get a4 f_md.1 (by rw [p_md.1]; exact a5) (rl_load rfl rfl (rl_ald b4 rfl eb.1 hty (rl_store rfl (rl_load rfl rfl (rl_get a4 f_md.1 (by rw [p_md.1]; exact a5) (rl_load rfl rfl (rl_const ?_))))))))
      refine rl_ast (k := 20) b4 rfl eb.1 (by rw [eb.2, List.length_map, b5]; omega) ?_
      rw [eb.2, ← List.map_set]
      refine rl_load rfl rfl (rl_ret1 ⟨⟨_, rfl⟩, ?_⟩)
      rw [c2] at hM
      exact m_wipe_r5 hT.2.1 hup hot' hoy' he hM (by omega)
  · refine rl_ifF ?_ (rl_const (rl_ret1 ⟨⟨_, rfl⟩, r5_stay hM fun b n bs n2 bs2 hb _ _ hf => hf.2 fun e => c2 b (by omega) e⟩))
    show icond 1 (txW t (nI 0) (nI 4)) 0 = _
    rw [c1]; rfl
end
end
