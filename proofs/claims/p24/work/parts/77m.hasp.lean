/-! ===== loops of the model over permits and skips ===== -/
theorem code_171 : codeOf 171 = [(0, (0, 0, 0)), (1, (2, 2, 0)), (2, (1, 2, 0)), (3, (1, 0, 2)), (4, (8, 141, 0)), (7, (5, 3, 50)), (10, (1, 0, 2)), (11, (8, 99, 0)), (14, (1, 2, 0)), (15, (10, 0, 0)), (16, (1, 1, 0)), (17, (5, 1, 44)), (20, (1, 0, 2)), (21, (8, 140, 0)), (24, (1, 0, 2)), (25, (8, 100, 0)), (28, (1, 2, 0)), (29, (10, 0, 0)), (30, (1, 0, 2)), (31, (8, 101, 0)), (34, (1, 2, 0)), (35, (10, 0, 0)), (36, (12, 125, 0)), (39, (6, 0, 44)), (42, (0, 0, 1)), (43, (13, 4, 0)), (44, (3, 2, 1)), (47, (7, 0, 2)), (50, (0, 0, 0)), (51, (13, 4, 0))] := by decide +kernel
theorem head_171 : codeOf 171 = [(0, (0, 0, 0)), (1, (2, 2, 0))] ++ jump 171 2 := by rw [jump_jmp, code_171]; rfl
theorem j171_2 : jump 171 2 = [(2, (1, 2, 0)), (3, (1, 0, 2)), (4, (8, 141, 0)), (7, (5, 3, 50)), (10, (1, 0, 2)), (11, (8, 99, 0)), (14, (1, 2, 0)), (15, (10, 0, 0)), (16, (1, 1, 0)), (17, (5, 1, 44)), (20, (1, 0, 2)), (21, (8, 140, 0)), (24, (1, 0, 2)), (25, (8, 100, 0)), (28, (1, 2, 0)), (29, (10, 0, 0)), (30, (1, 0, 2)), (31, (8, 101, 0)), (34, (1, 2, 0)), (35, (10, 0, 0)), (36, (12, 125, 0)), (39, (6, 0, 44)), (42, (0, 0, 1)), (43, (13, 4, 0))] ++ jump 171 44 := by rw [jump_jmp, jump_jmp, code_171]; rfl
theorem j171_44 : jump 171 44 = [(44, (3, 2, 1)), (47, (7, 0, 2))] ++ jump 171 50 := by rw [jump_jmp, jump_jmp, code_171]; rfl
theorem j171_50 : jump 171 50 = [(50, (0, 0, 0)), (51, (13, 4, 0))] := by rw [jump_jmp, code_171]; rfl
theorem code_170 : codeOf 170 = [(0, (1, 0, 2)), (1, (8, 88, 0)), (4, (1, 1, 0)), (5, (10, 0, 0)), (6, (2, 2, 0)), (7, (0, 0, 0)), (8, (2, 3, 0)), (9, (1, 3, 0)), (10, (1, 0, 2)), (11, (8, 138, 0)), (14, (5, 3, 64)), (17, (1, 2, 0)), (18, (1, 0, 2)), (19, (8, 91, 0)), (22, (1, 3, 0)), (23, (10, 0, 0)), (24, (6, 5, 55)), (27, (1, 0, 2)), (28, (8, 106, 0)), (31, (1, 0, 2)), (32, (8, 91, 0)), (35, (1, 3, 0)), (36, (10, 0, 0)), (37, (0, 0, 1)), (38, (4, 1, 0)), (39, (10, 0, 0)), (40, (1, 1, 0)), (41, (5, 1, 55)), (44, (0, 0, 4)), (45, (1, 0, 2)), (46, (8, 90, 0)), (49, (1, 3, 0)), (50, (10, 0, 0)), (51, (4, 0, 0)), (52, (7, 0, 56)), (55, (0, 0, 0)), (56, (4, 1, 0)), (57, (2, 2, 0)), (58, (3, 3, 1)), (61, (7, 0, 9)), (64, (1, 2, 0)), (65, (13, 1, 0))] := by decide +kernel
theorem head_170 : codeOf 170 = [(0, (1, 0, 2)), (1, (8, 88, 0)), (4, (1, 1, 0)), (5, (10, 0, 0)), (6, (2, 2, 0)), (7, (0, 0, 0)), (8, (2, 3, 0))] ++ jump 170 9 := by rw [jump_jmp, code_170]; rfl
theorem j170_9 : jump 170 9 = [(9, (1, 3, 0)), (10, (1, 0, 2)), (11, (8, 138, 0)), (14, (5, 3, 64)), (17, (1, 2, 0)), (18, (1, 0, 2)), (19, (8, 91, 0)), (22, (1, 3, 0)), (23, (10, 0, 0)), (24, (6, 5, 55)), (27, (1, 0, 2)), (28, (8, 106, 0)), (31, (1, 0, 2)), (32, (8, 91, 0)), (35, (1, 3, 0)), (36, (10, 0, 0)), (37, (0, 0, 1)), (38, (4, 1, 0)), (39, (10, 0, 0)), (40, (1, 1, 0)), (41, (5, 1, 55)), (44, (0, 0, 4)), (45, (1, 0, 2)), (46, (8, 90, 0)), (49, (1, 3, 0)), (50, (10, 0, 0)), (51, (4, 0, 0)), (52, (7, 0, 56))] ++ jump 170 55 := by rw [jump_jmp, jump_jmp, code_170]; rfl
theorem j170_55 : jump 170 55 = [(55, (0, 0, 0))] ++ jump 170 56 := by rw [jump_jmp, jump_jmp, code_170]; rfl
theorem j170_56 : jump 170 56 = [(56, (4, 1, 0)), (57, (2, 2, 0)), (58, (3, 3, 1)), (61, (7, 0, 9))] ++ jump 170 64 := by rw [jump_jmp, jump_jmp, code_170]; rfl
theorem j170_64 : jump 170 64 = [(64, (1, 2, 0)), (65, (13, 1, 0))] := by rw [jump_jmp, code_170]; rfl
theorem mf_ck : (((fks 141).contains 11 = true ∧ fpos 141 = 19) ∧ ((fks 140).contains 11 = true ∧ fpos 140 = 0)) ∧ ((((fks 99).contains 11 = true ∧ ct_at 11 (fpos 99) = some (7, 62, 0)) ∧ ((fks 100).contains 11 = true ∧ ct_at 11 (fpos 100) = some (7, 63, 0))) ∧ ((fks 101).contains 11 = true ∧ ct_at 11 (fpos 101) = some (7, 64, 0))) := by decide +kernel
theorem mg_ck : (((fks 138).contains 11 = true ∧ fpos 138 = ffS) ∧ ((fks 88).contains 11 = true ∧ ct_at 11 (fpos 88) = some (7, ffKf, 0))) ∧ ((((fks 91).contains 11 = true ∧ ct_at 11 (fpos 91) = some (7, ffSl, 0)) ∧ ((fks 90).contains 11 = true ∧ ct_at 11 (fpos 90) = some (7, ffSz, 0))) ∧ ((fks 106).contains 11 = true ∧ ct_at 11 (fpos 106) = some (7, ffLk, 0))) := by decide +kernel
theorem md_ck : (cdk 11 = 11 ∧ cdm 11 = 0) ∧ ((((cdk 62 = 20 ∧ cdk 63 = 20) ∧ cdk 64 = 20)) ∧ (((cdk ffKf = 20 ∧ ffKf < 1000) ∧ ((cdk ffSl = 20 ∧ ffSl < 1000) ∧ (cdk ffSz = 20 ∧ ffSz < 1000))) ∧ (cdk ffLk = 20 ∧ ffLk < 1000))) := by decide +kernel
theorem ml_hp : (Nat.ble 2 (mL 170) && Nat.ble 2 (mL 171)) = true := by decide +kernel
section
variable {σ : Nat → Nat} {ad : AD} {h : AH} {M pc f a i p c q m : Nat} {tl : List (Nat × AI)} {L : LV} {S : List Value} {Q : Option Value → AH → Prop} {z : Int} {v : Value}
/-- the kind of a class's object -/
theorem at_kind (h1 : T1 ad h) (hc : c < 1000) (hk : cdk c ≠ 31) (ha : At ad h c i p v) (hq : ad c i = some q) : ∃ vs, h.1 q = some (cdk c, vs) ∧ vs[p]? = some v := by
  obtain ⟨q', k, vs, a1, a2, a3⟩ := ha
  rw [hq] at a1
  cases a1
  obtain ⟨-, k', vs', y1, y2, -⟩ := h1 c i q hc hq
  rw [a2] at y1
  cases y1
  rcases y2 with e | ⟨e, -⟩
  · exact ⟨vs, by rw [a2, e], a3⟩
  · exact absurd e hk
/-- a field of an object of a class -/
theorem ra_get (h1 : T1 ad h) (hc : c < 1000) (hk : cdk c ≠ 31) (hq : ad c i = some q) (ha : At ad h c i (fpos f) v) (hf : (fks f).contains (cdk c) = true) (hr : Rt σ M tl L (v :: S) h Q) : Rt σ M ((pc, (8, f, z)) :: tl) L (.ref q :: S) h Q := by
  obtain ⟨vs, a1, a2⟩ := at_kind h1 hc hk ha hq
  exact rl_get a1 hf a2 hr
/-- an element of a class's row -/
theorem ra_ald (h1 : T1 ad h) (hc : c < 1000) (hk : cdk c ≠ 31) (hq : ad c i = some q) (ha : At ad h c i p v) (hl : am_ld a (cdk c) = true) (hp : p < 2147483648) (hr : Rt σ M tl L (v :: S) h Q) : Rt σ M ((pc, (10, a, z)) :: tl) L (.int (nI p) :: .ref q :: S) h Q := by
  obtain ⟨vs, a1, a2⟩ := at_kind h1 hc hk ha hq
  have e := nI_nn hp
  exact rl_ald a1 hl e.1 (by rw [e.2]; exact a2) hr
/-- a row of the model's -/
theorem ra_row {np : Nat} {ex ho : Nat → Nat → Prop} (hT : TS ad h np ex ho) (hq : ad 11 0 = some m) (hct : ct_at 11 (fpos f) = some (7, c, 0)) (hf : (fks f).contains 11 = true) (hr : ∀ q, ad c 0 = some q → Rt σ M tl L (.ref q :: S) h Q) : Rt σ M ((pc, (8, f, z)) :: tl) L (.ref m :: S) h Q := by
  obtain ⟨⟨d1, d2⟩, -⟩ := md_ck
  obtain ⟨-, k, vs, y1, y2, y3, y4⟩ := hT.1 11 0 m (by omega) hq
  have ek : k = 11 := by
    rcases y2 with e | ⟨e, -⟩
    · rw [e, d1]
    · rw [d1] at e; cases e
  subst ek
  have hlen := y3.1 d2
  have hp : fpos f < vs.length := by
    rw [hlen]
    unfold ct_at at hct
    rw [d2, Nat.beq_refl, cond_true] at hct
    exact (List.getElem?_eq_some_iff.mp hct).1
  obtain ⟨ty, t1, t2⟩ := y4 _ _ (List.getElem?_eq_getElem hp)
  rw [hct] at t1
  cases t1
  obtain ⟨q, e1, e2⟩ := tv_sgl t2 rfl
  exact rl_get y1 hf (List.getElem?_eq_getElem hp) (by rw [e1]; exact hr q e2)
end
noncomputable def hpB (pk pf pt : Nat → Int32) (k d : Int32) (n : Nat) : Bool := match n with
  | 0 => false
  | n + 1 => hpB pk pf pt k d n || decide (pk n = k ∧ (pf n ≤ d ∧ d ≤ pt n))
noncomputable def hpI (b : Bool) : Int32 := bif b then 1 else 0
/-- the model's permits -/
noncomputable def PmE (ad : AD) (h : AH) (n : Nat) (pk pf pt : Nat → Int32) (d : Int32) : Prop := (n ≤ 60 ∧ (At ad h 11 0 19 (.int (nI n)) ∧ At ad h 11 0 0 (.int d))) ∧ ∀ p, p < n → At ad h 62 0 p (.int (pk p)) ∧ (At ad h 63 0 p (.int (pf p)) ∧ At ad h 64 0 p (.int (pt p)))
theorem hpb_no {pk pf pt : Nat → Int32} {k d : Int32} : ∀ {n : Nat}, (∀ p, p < n → ¬ (pk p = k ∧ (pf p ≤ d ∧ d ≤ pt p))) → hpB pk pf pt k d n = false := by
  intro n
  induction n with
  | zero => intro _; rfl
  | succ n ih =>
    intro hn
    rw [hpB, ih (fun p hp => hn p (by omega)), decide_eq_false (hn n (by omega))]
    rfl
theorem hpb_yes {pk pf pt : Nat → Int32} {k d : Int32} {p : Nat} (hp : pk p = k ∧ (pf p ≤ d ∧ d ≤ pt p)) : ∀ {n : Nat}, p < n → hpB pk pf pt k d n = true := by
  intro n
  induction n with
  | zero => intro h; omega
  | succ n ih =>
    intro h
    rw [hpB]
    by_cases e : p = n
    · subst e
      rw [decide_eq_true hp, Bool.or_true]
    · rw [ih (by omega), Bool.true_or]
theorem hpb_ex {pk pf pt : Nat → Int32} {k d : Int32} {n : Nat} : hpB pk pf pt k d n = true ↔ ∃ p, p < n ∧ (pk p = k ∧ (pf p ≤ d ∧ d ≤ pt p)) := by
  constructor
  · intro h
    by_cases e : ∃ p, p < n ∧ (pk p = k ∧ (pf p ≤ d ∧ d ≤ pt p))
    · exact e
    · rw [hpb_no fun p hp hc => e ⟨p, hp, hc⟩] at h
      cases h
  · rintro ⟨p, hp, hc⟩
    exact hpb_yes hc hp
section
variable {σ : Nat → Nat} {ad : AD} {h : AH} {np n m : Nat} {ex ho : Nat → Nat → Prop} {Q : Option Value → AH → Prop} {pk pf pt : Nat → Int32} {k d : Int32}
theorem M_hasp (hT : TS ad h np ex ho) (hm : ad 11 0 = some m) (he : PmE ad h n pk pf pt d) (hQ : Q (some (.int (hpI (hpB pk pf pt k d n)))) h) : Rt σ 171 (codeOf 171) (am_args 0 [.ref m, .int k]) [] h Q := by
  obtain ⟨⟨⟨f1, f1'⟩, f2, f2'⟩, ⟨⟨f3, f3'⟩, f4, f4'⟩, f5, f5'⟩ := mf_ck
  obtain ⟨⟨d1, d2⟩, ⟨⟨d3, d4⟩, d5⟩, -⟩ := md_ck
  obtain ⟨⟨hn, e1, e2⟩, e3⟩ := he
  have loop : ∀ (j p : Nat) (L : LV), p + j = n → lv_get 0 L = some (.ref m) → lv_get 1 L = some (.int k) → lv_get 2 L = some (.int (nI p)) → (∀ p', p' < p → ¬ (pk p' = k ∧ (pf p' ≤ d ∧ d ≤ pt p'))) → Rt σ 171 (jump 171 2) L [] h Q := by
    intro j
    induction j with
    | zero =>
      intro p L hp l0 l1 l2 hno
      have : p = n := by omega
      subst this
      rw [j171_2]
      refine rl_load l2 rfl (rl_load l0 rfl (ra_get hT.1 (by omega) (by omega) hm (by rw [f1']; exact e1) (by rw [d1]; exact f1) (rl_icmpT ?_ ?_)))
      · show some (decide (nI p ≤ nI p)) = some true
        rw [decide_eq_true ((tx_le (by omega) (by omega)).mpr (Nat.le_refl _))]
      · show Rt σ 171 (jump 171 50) _ _ _ _
        rw [j171_50]
        rw [hpb_no hno] at hQ
        exact rl_const (rl_ret4 (Or.inl rfl) hQ)
    | succ j ih =>
      intro p L hp l0 l1 l2 hno
      obtain ⟨a1, a2, a3⟩ := e3 p (by omega)
      have next : ¬ (pk p = k ∧ (pf p ≤ d ∧ d ≤ pt p)) → Rt σ 171 (jump 171 44) L [] h Q := fun hq => by
        rw [j171_44]
        refine rl_iinc l2 (rl_goto ?_)
        show Rt σ 171 (jump 171 2) _ _ _ _
        rw [nI_suc (by omega)]
        refine ih (p + 1) _ (by omega) (get_put rfl rfl (by omega) l0) (get_put rfl rfl (by omega) l1) rfl fun p' hp' => ?_
        by_cases e : p' = p
        · rw [e]; exact hq
        · exact hno p' (by omega)
      rw [j171_2]
      refine rl_load l2 rfl (rl_load l0 rfl (ra_get hT.1 (by omega) (by omega) hm (by rw [f1']; exact e1) (by rw [d1]; exact f1) (rl_icmpF ?_ (rl_load l0 rfl (ra_row hT hm f3' f3 fun q3 hq3 => rl_load l2 rfl (ra_ald hT.1 (by omega) (by omega) hq3 a1 (by rw [d3]; rfl) (by omega) (rl_load l1 rfl ?_)))))))
      · show some (decide (nI n ≤ nI p)) = some false
        rw [decide_eq_false (by rw [tx_le (by omega) (by omega)]; omega)]
      · by_cases ek : pk p = k
        · refine rl_icmpF (by show some (decide (¬ pk p = k)) = some false; rw [decide_eq_false (fun h => h ek)]) (rl_load l0 rfl (ra_get hT.1 (by omega) (by omega) hm (by rw [f2']; exact e2) (by rw [d1]; exact f2) (rl_load l0 rfl (ra_row hT hm f4' f4 fun q4 hq4 => rl_load l2 rfl (ra_ald hT.1 (by omega) (by omega) hq4 a2 (by rw [d4]; rfl) (by omega) (rl_load l0 rfl (ra_row hT hm f5' f5 fun q5 hq5 => rl_load l2 rfl (ra_ald hT.1 (by omega) (by omega) hq5 a3 (by rw [d5]; rfl) (by omega) (min_ok (by show 0 ≤ 8; omega) ?_)))))))))
          by_cases ed : pf p ≤ d ∧ d ≤ pt p
          · refine rl_ifF ?_ (rl_const (rl_ret4 (Or.inr rfl) ?_))
            · show icond 0 (txW d (pf p) (pt p)) 0 = _
              unfold txW
              rw [if_pos ed]; rfl
            · rw [hpb_yes ⟨ek, ed⟩ (by omega)] at hQ
              exact hQ
          · refine rl_ifT ?_ (next fun hc => ed hc.2)
            show icond 0 (txW d (pf p) (pt p)) 0 = _
            unfold txW
            rw [if_neg ed]; rfl
        · exact rl_icmpT (by show some (decide (¬ pk p = k)) = some true; rw [decide_eq_true ek]) (next fun hc => ek hc.1)
  rw [head_171]
  exact rl_const (rl_store rfl (loop n 0 _ (by omega) rfl rfl rfl (fun p' hp' => absurd hp' (Nat.not_lt_zero _))))
end
