section
/-! ===== work days: the class and the model alike ===== -/
theorem code_59 : codeOf 59 = [(0, (1, 0, 2)), (1, (8, 11, 0)), (4, (0, 0, 7)), (6, (4, 4, 0)), (7, (0, 0, 5)), (8, (5, 2, 27)), (11, (1, 1, 2)), (12, (8, 25, 0)), (15, (0, 0, 3)), (16, (12, 27, 0)), (19, (0, 0, 1)), (20, (5, 1, 27)), (23, (0, 0, 1)), (24, (7, 0, 28)), (27, (0, 0, 0)), (28, (2, 2, 0)), (29, (1, 0, 2)), (30, (8, 1, 0)), (33, (1, 0, 2)), (34, (8, 11, 0)), (37, (12, 19, 0)), (40, (6, 0, 59)), (43, (1, 1, 2)), (44, (8, 25, 0)), (47, (0, 0, 4)), (48, (12, 27, 0)), (51, (0, 0, 1)), (52, (5, 1, 59)), (55, (0, 0, 1)), (56, (7, 0, 60)), (59, (0, 0, 0)), (60, (2, 3, 0)), (61, (1, 2, 0)), (62, (6, 1, 73)), (65, (1, 3, 0)), (66, (6, 1, 73)), (69, (0, 0, 1)), (70, (7, 0, 74)), (73, (0, 0, 0)), (74, (13, 4, 0))] := by decide +kernel
theorem head_59 : codeOf 59 = [(0, (1, 0, 2)), (1, (8, 11, 0)), (4, (0, 0, 7)), (6, (4, 4, 0)), (7, (0, 0, 5)), (8, (5, 2, 27)), (11, (1, 1, 2)), (12, (8, 25, 0)), (15, (0, 0, 3)), (16, (12, 27, 0)), (19, (0, 0, 1)), (20, (5, 1, 27)), (23, (0, 0, 1)), (24, (7, 0, 28))] ++ jump 59 27 := by rw [jump_jmp, code_59]; rfl
theorem j59_27 : jump 59 27 = [(27, (0, 0, 0))] ++ jump 59 28 := by rw [jump_jmp, jump_jmp, code_59]; rfl
theorem j59_28 : jump 59 28 = [(28, (2, 2, 0)), (29, (1, 0, 2)), (30, (8, 1, 0)), (33, (1, 0, 2)), (34, (8, 11, 0)), (37, (12, 19, 0)), (40, (6, 0, 59)), (43, (1, 1, 2)), (44, (8, 25, 0)), (47, (0, 0, 4)), (48, (12, 27, 0)), (51, (0, 0, 1)), (52, (5, 1, 59)), (55, (0, 0, 1)), (56, (7, 0, 60))] ++ jump 59 59 := by rw [jump_jmp, jump_jmp, code_59]; rfl
theorem j59_59 : jump 59 59 = [(59, (0, 0, 0))] ++ jump 59 60 := by rw [jump_jmp, jump_jmp, code_59]; rfl
theorem j59_60 : jump 59 60 = [(60, (2, 3, 0))] ++ jump 59 61 := by rw [jump_jmp, jump_jmp, code_59]; rfl
theorem j59_61 : jump 59 61 = [(61, (1, 2, 0)), (62, (6, 1, 73)), (65, (1, 3, 0)), (66, (6, 1, 73)), (69, (0, 0, 1)), (70, (7, 0, 74))] ++ jump 59 73 := by rw [jump_jmp, jump_jmp, code_59]; rfl
theorem j59_73 : jump 59 73 = [(73, (0, 0, 0))] ++ jump 59 74 := by rw [jump_jmp, jump_jmp, code_59]; rfl
theorem j59_74 : jump 59 74 = [(74, (13, 4, 0))] := by rw [jump_jmp, code_59]; rfl
theorem code_22 : codeOf 22 = [(0, (1, 1, 0)), (1, (0, 0, 0)), (2, (1, 0, 2)), (3, (23, 0, 0)), (4, (0, 0, 1)), (5, (4, 1, 0)), (6, (12, 10, 0)), (9, (6, 0, 22)), (12, (1, 0, 2)), (13, (1, 1, 0)), (14, (10, 2, 0)), (15, (6, 0, 22)), (18, (0, 0, 1)), (19, (7, 0, 23)), (22, (0, 0, 0)), (23, (13, 4, 0))] := by decide +kernel
theorem head_22 : codeOf 22 = [(0, (1, 1, 0)), (1, (0, 0, 0)), (2, (1, 0, 2)), (3, (23, 0, 0)), (4, (0, 0, 1)), (5, (4, 1, 0)), (6, (12, 10, 0)), (9, (6, 0, 22)), (12, (1, 0, 2)), (13, (1, 1, 0)), (14, (10, 2, 0)), (15, (6, 0, 22)), (18, (0, 0, 1)), (19, (7, 0, 23))] ++ jump 22 22 := by rw [jump_jmp, code_22]; rfl
theorem j22_22 : jump 22 22 = [(22, (0, 0, 0))] ++ jump 22 23 := by rw [jump_jmp, jump_jmp, code_22]; rfl
theorem j22_23 : jump 22 23 = [(23, (13, 4, 0))] := by rw [jump_jmp, code_22]; rfl
theorem code_197 : codeOf 197 = [(0, (1, 0, 2)), (1, (1, 0, 2)), (2, (8, 85, 0)), (5, (1, 1, 0)), (6, (10, 0, 0)), (7, (12, 136, 0)), (10, (2, 2, 0)), (11, (1, 0, 2)), (12, (8, 104, 0)), (15, (0, 0, 3)), (16, (10, 0, 0)), (17, (0, 0, 1)), (18, (5, 1, 32)), (21, (1, 0, 2)), (22, (8, 140, 0)), (25, (0, 0, 7)), (27, (4, 4, 0)), (28, (0, 0, 4)), (29, (5, 4, 54)), (32, (1, 0, 2)), (33, (8, 104, 0)), (36, (0, 0, 4)), (37, (10, 0, 0)), (38, (0, 0, 1)), (39, (5, 1, 58)), (42, (1, 0, 2)), (43, (8, 84, 0)), (46, (1, 0, 2)), (47, (8, 140, 0)), (50, (10, 2, 0)), (51, (6, 0, 58)), (54, (0, 0, 1)), (55, (7, 0, 59)), (58, (0, 0, 0)), (59, (13, 4, 0))] := by decide +kernel
theorem head_197 : codeOf 197 = [(0, (1, 0, 2)), (1, (1, 0, 2)), (2, (8, 85, 0)), (5, (1, 1, 0)), (6, (10, 0, 0)), (7, (12, 136, 0))] ++ jump 197 10 := by rw [jump_jmp, code_197]; rfl
theorem j197_10 : jump 197 10 = [(10, (2, 2, 0)), (11, (1, 0, 2)), (12, (8, 104, 0)), (15, (0, 0, 3)), (16, (10, 0, 0)), (17, (0, 0, 1)), (18, (5, 1, 32)), (21, (1, 0, 2)), (22, (8, 140, 0)), (25, (0, 0, 7)), (27, (4, 4, 0)), (28, (0, 0, 4)), (29, (5, 4, 54))] ++ jump 197 32 := by rw [jump_jmp, jump_jmp, code_197]; rfl
theorem j197_32 : jump 197 32 = [(32, (1, 0, 2)), (33, (8, 104, 0)), (36, (0, 0, 4)), (37, (10, 0, 0)), (38, (0, 0, 1)), (39, (5, 1, 58)), (42, (1, 0, 2)), (43, (8, 84, 0)), (46, (1, 0, 2)), (47, (8, 140, 0)), (50, (10, 2, 0)), (51, (6, 0, 58))] ++ jump 197 54 := by rw [jump_jmp, jump_jmp, code_197]; rfl
theorem j197_54 : jump 197 54 = [(54, (0, 0, 1)), (55, (7, 0, 59))] ++ jump 197 58 := by rw [jump_jmp, jump_jmp, code_197]; rfl
theorem j197_58 : jump 197 58 = [(58, (0, 0, 0))] ++ jump 197 59 := by rw [jump_jmp, jump_jmp, code_197]; rfl
theorem j197_59 : jump 197 59 = [(59, (13, 4, 0))] := by rw [jump_jmp, code_197]; rfl
theorem spec_19 : spec 19 = (0, 2, [(0, 22)]) := by decide +kernel
theorem wd_f : (((fks 11).contains 10 = true ∧ fpos 11 = 0) ∧ ((fks 1).contains 10 = true ∧ fpos 1 = 5)) ∧ (((fks 84).contains 11 = true ∧ fpos 84 = 1) ∧ ((fks 140).contains 11 = true ∧ fpos 140 = 0)) := by decide +kernel
theorem wd_c : ((arrI 36 400 = true ∧ cdk 36 = 22) ∧ (arrI 47 400 = true ∧ cdk 47 = 22)) ∧ ((ct_at 10 5 = some (7, 36, 0) ∧ ct_at 11 1 = some (7, 47, 0)) ∧ (2 ≤ mL 22 ∧ 2 ≤ mL 181)) := by decide +kernel
theorem ib4 {x : Int32} : ibin 4 x (Int32.ofInt 7) = some (x - x / Int32.ofInt 7 * Int32.ofInt 7) := by
  show (if Int32.ofInt 7 = 0 then none else some _) = _
  rw [if_neg (by decide +kernel)]
section
variable {σ : Nat → Nat} {ad : AD} {h : AH} {np b o k : Nat} {ex ho : Nat → Nat → Prop} {Q : Option Value → AH → Prop} {v : Int32}
theorem X_valW {w : Nat} (hw : w = 3 ∨ w = 4) (hT : TS ad h np ex ho) (hb : ad 0 b = some o) (hv : At ad h 18 b w (.int v)) (hQ : Q (some (.int v)) h) : Rt σ 34 (codeOf 34) (am_args 0 [.ref o, .int (nI w)]) [] h Q := by
  obtain ⟨⟨-, -, f1, f1'⟩, -⟩ := pm_f
  obtain ⟨⟨-, ⟨c1, c2⟩, -⟩, ⟨⟨c3, c4⟩, -⟩, -⟩ := pm_c
  obtain ⟨⟨-, t1, -⟩, -⟩ := pm_t
  obtain ⟨qv, w1, w2⟩ := fld_own hT (by omega) c1 t1 hb
  obtain ⟨l, r1, r2⟩ := row_of hT.1 c3 w2 c4 (by omega)
  have hlen : (l.map Value.int).length = 6 := by rw [List.length_map, r2]
  rw [head_34]
  refine rl_load rfl rfl (rl_const (rl_load rfl rfl (ra_get hT.1 (by omega) (by omega) hb (by rw [f1']; exact w1) (by rw [c2]; exact f1) (rl_len r1 (by omega) (by rw [hlen]; omega) (rl_const (rl_bin rfl (within_ok (by show 0 ≤ 8; omega) ?_)))))))
  have e1 : txW (nI w) (Int32.ofInt 0) (nI 6 - Int32.ofInt 1) = 1 := by rcases hw with rfl | rfl <;> decide +kernel
  rw [hlen, e1]
  refine rl_ifF rfl (rl_load rfl rfl (ra_get hT.1 (by omega) (by omega) hb (by rw [f1']; exact w1) (by rw [c2]; exact f1) (rl_load rfl rfl (ra_ald (p := w) hT.1 (by omega) (by omega) w2 hv (by rw [c4]; rfl) (by omega) (rl_goto ?_)))))
  show Rt σ 34 (jump 34 25) _ _ _ _
  rw [j34_25]
  exact rl_ret1 hQ
theorem X_marked {q dd : Nat} {fs : List Value} {hv : Int32} (hr : h.1 q = some (22, fs)) (hl : fs.length = 400) (hd : dd < 400) (hx : fs[dd]? = some (.int hv)) (hQ : Q (some (.int (if hv = 0 then 0 else 1))) h) : Rt σ 22 (codeOf 22) (am_args 0 [.ref q, .int (nI dd)]) [] h Q := by
  have e0 : nI 400 - Int32.ofInt 1 = nI 399 := by decide +kernel
  have e1 : txW (nI dd) (Int32.ofInt 0) (nI 400 - Int32.ofInt 1) = 1 := by
    rw [e0]
    show txW (nI dd) (nI 0) (nI 399) = 1
    unfold txW
    rw [if_pos ⟨(tx_le (by omega) (by omega)).mpr (by omega), (tx_le (by omega) (by omega)).mpr (by omega)⟩]
  rw [head_22]
  refine rl_load rfl rfl (rl_const (rl_load rfl rfl (rl_len hr (by omega) (by rw [hl]; omega) (rl_const (rl_bin rfl (within_ok (by show 0 ≤ 8; omega) ?_))))))
  rw [hl, e1]
  refine rl_ifF rfl (rl_load rfl rfl (rl_load rfl rfl (rl_ald hr rfl (nI_nn (by omega)).1 (by rw [(nI_nn (by omega)).2]; exact hx) ?_)))
  by_cases h0 : hv = 0
  · rw [if_pos h0] at hQ
    refine rl_ifT (by show some (decide (hv = 0)) = some true; rw [decide_eq_true h0]) ?_
    show Rt σ 22 (jump 22 22) _ _ _ _
    rw [j22_22]
    refine rl_const ?_
    rw [j22_23]
    exact rl_ret4 (Or.inl rfl) hQ
  · rw [if_neg h0] at hQ
    refine rl_ifF (by show some (decide (hv = 0)) = some false; rw [decide_eq_false h0]) (rl_const (rl_goto ?_))
    show Rt σ 22 (jump 22 23) _ _ _ _
    rw [j22_23]
    exact rl_ret4 (Or.inr rfl) hQ
theorem X_isWorkDay {ox qk ql dd : Nat} {v3 v4 hv : Int32} (hT : TS ad h np ex ho) (hox : ad 10 0 = some ox) (hk : ad 2 k = some qk) (hd : At ad h 10 0 0 (.int (nI dd))) (hdd : dd < 400) (hl : At ad h 2 k 2 (.ref ql)) (hb : ad 0 b = some ql) (h3 : At ad h 18 b 3 (.int v3)) (h4 : At ad h 18 b 4 (.int v4)) (hh : At ad h 36 0 dd (.int hv)) (hQ : Q (some (.int (wdI (nI dd) v3 v4 hv))) h) : Rt σ 59 (codeOf 59) (am_args 0 [.ref ox, .ref qk]) [] h Q := by
  obtain ⟨⟨⟨f1, f1'⟩, f2, f2'⟩, -⟩ := wd_f
  obtain ⟨⟨⟨-, f3, f3'⟩, -⟩, -⟩ := pm_f
  obtain ⟨⟨⟨c1, c2⟩, -⟩, ⟨c3, -⟩, ml22, -⟩ := wd_c
  obtain ⟨⟨⟨⟨m10, c10⟩, m2, c22⟩, ⟨-, c00⟩, -⟩, -⟩ := pm_c
  have ml34 : 2 ≤ mL 34 := ml_pm.1.2.1
  obtain ⟨qh, w1, w2⟩ := fld_sgl hT (by omega) m10 c3 hox
  obtain ⟨lh, r1, r2⟩ := row_of hT.1 c1 w2 c2 (by omega)
  have hx := at_row hh w2 r1
  obtain ⟨vq, hql⟩ : ∃ vq, h.1 ql = some (0, vq) := by
    obtain ⟨-, k0, vq, y1, y2, -⟩ := hT.1 0 b ql (by omega) hb
    have ek : k0 = 0 := by
      rcases y2 with e | ⟨e, -⟩
      · rw [e, c00]
      · rw [c00] at e; cases e
    subst ek
    exact ⟨vq, y1⟩
  have ret : ∀ (L : LV) (x : Int32), x = 0 ∨ x = 1 → x = wdI (nI dd) v3 v4 hv → Rt σ 59 (jump 59 74) L [.int x] h Q := fun L x h01 e => by
    rw [j59_74]
    exact rl_ret4 h01 (by rw [e]; exact hQ)
  have last : ∀ (a c : Bool), a = wdW (nI dd) v3 → c = wdH hv v4 → Rt σ 59 (jump 59 61) (lv_put 3 (.int (bif c then 1 else 0)) (lv_put 2 (.int (bif a then 1 else 0)) (am_args 0 [.ref ox, .ref qk]))) [] h Q := fun a c ea ec => by
    rw [j59_61]
    cases a with
    | true =>
      refine rl_load (v := .int 1) rfl rfl (rl_ifT rfl ?_)
      show Rt σ 59 (jump 59 73) _ _ _ _
      rw [j59_73]
      refine rl_const (ret _ _ (Or.inl rfl) ?_)
      unfold wdI
      rw [← ea]
      rfl
    | false =>
      refine rl_load (v := .int 0) rfl rfl (rl_ifF rfl ?_)
      cases c with
      | true =>
        refine rl_load (v := .int 1) rfl rfl (rl_ifT rfl ?_)
        show Rt σ 59 (jump 59 73) _ _ _ _
        rw [j59_73]
        refine rl_const (ret _ _ (Or.inl rfl) ?_)
        unfold wdI
        rw [← ea, ← ec]
        rfl
      | false =>
        refine rl_load (v := .int 0) rfl rfl (rl_ifF rfl (rl_const (rl_goto (ret _ _ (Or.inr rfl) ?_))))
        unfold wdI
        rw [← ea, ← ec]
        rfl
  have mid : ∀ a : Bool, a = wdW (nI dd) v3 → Rt σ 59 (jump 59 28) (am_args 0 [.ref ox, .ref qk]) [.int (bif a then 1 else 0)] h Q := fun a ea => by
    rw [j59_28]
    refine rl_store rfl (rl_load rfl rfl (ra_get hT.1 (by omega) (by omega) hox (by rw [f2']; exact w1) (by rw [c10]; exact f2) (rl_load rfl rfl (ra_get hT.1 (by omega) (by omega) hox (by rw [f1']; exact hd) (by rw [c10]; exact f1) (rl_calls (as := [.ref qh, .int (nI dd)]) (r := []) spec_19 rfl rfl (by show 0 ≤ 8; omega) (two_ok ml22) (X_marked r1 (by rw [List.length_map, r2]) hdd (by rw [List.getElem?_map, hx]; rfl) ?_))))))
    have no : wdH hv v4 = false → Rt σ 59 (jump 59 59) (lv_put 2 (.int (bif a then 1 else 0)) (am_args 0 [.ref ox, .ref qk])) [] h Q := fun e => by
      rw [j59_59]
      refine rl_const ?_
      rw [j59_60]
      refine rl_store rfl ?_
      exact last a false ea e.symm
    by_cases h0 : hv = 0
    · rw [if_pos h0]
      refine rl_ifT rfl ?_
      exact no (by unfold wdH; rw [decide_eq_false (fun e => e h0)]; rfl)
    · rw [if_neg h0]
      refine rl_ifF rfl (rl_load rfl rfl (ra_get hT.1 (by omega) (by omega) hk (by rw [f3']; exact hl) (by rw [c22]; exact f3) (rl_const (rl_callv (as := [.int (nI 4)]) (r := []) spec_27 rfl rfl hql (by show 0 ≤ 8; omega) (two_ok ml34) (X_valW (Or.inr rfl) hT hb h4 (rl_const ?_))))))
      by_cases e4 : v4 = Int32.ofInt 1
      · refine rl_icmpF (by show some (decide (¬ v4 = Int32.ofInt 1)) = some false; rw [decide_eq_false (fun h => h e4)]) (rl_const (rl_goto ?_))
        show Rt σ 59 (jump 59 60) _ _ _ _
        rw [j59_60]
        refine rl_store rfl ?_
        exact last a true ea (by unfold wdH; rw [decide_eq_true h0, decide_eq_true e4]; rfl)
      · refine rl_icmpT (by show some (decide (¬ v4 = Int32.ofInt 1)) = some true; rw [decide_eq_true e4]) ?_
        exact no (by unfold wdH; rw [decide_eq_false e4, Bool.and_false])
  rw [head_59]
  refine rl_load rfl rfl (ra_get hT.1 (by omega) (by omega) hox (by rw [f1']; exact hd) (by rw [c10]; exact f1) (rl_const (rl_bin (z := wdR (nI dd)) ib4 (rl_const ?_))))
  have no : wdW (nI dd) v3 = false → Rt σ 59 (jump 59 27) (am_args 0 [.ref ox, .ref qk]) [] h Q := fun e => by
    rw [j59_27]
    refine rl_const ?_
    exact mid false e.symm
  by_cases r5 : wdR (nI dd) < Int32.ofInt 5
  · refine rl_icmpT (by show some (decide (wdR (nI dd) < Int32.ofInt 5)) = some true; rw [decide_eq_true r5]) ?_
    exact no (by unfold wdW; rw [decide_eq_false (fun e => e r5)]; rfl)
  · refine rl_icmpF (by show some (decide (wdR (nI dd) < Int32.ofInt 5)) = some false; rw [decide_eq_false r5]) (rl_load rfl rfl (ra_get hT.1 (by omega) (by omega) hk (by rw [f3']; exact hl) (by rw [c22]; exact f3) (rl_const (rl_callv (as := [.int (nI 3)]) (r := []) spec_27 rfl rfl hql (by show 0 ≤ 8; omega) (two_ok ml34) (X_valW (Or.inl rfl) hT hb h3 (rl_const ?_))))))
    by_cases e3 : v3 = Int32.ofInt 1
    · refine rl_icmpF (by show some (decide (¬ v3 = Int32.ofInt 1)) = some false; rw [decide_eq_false (fun h => h e3)]) (rl_const (rl_goto ?_))
      show Rt σ 59 (jump 59 28) _ _ _ _
      exact mid true (by unfold wdW; rw [decide_eq_true r5, decide_eq_true e3]; rfl)
    · refine rl_icmpT (by show some (decide (¬ v3 = Int32.ofInt 1)) = some true; rw [decide_eq_true e3]) ?_
      exact no (by unfold wdW; rw [decide_eq_false e3, Bool.and_false])
theorem M_isBarred {m ol ot oy n dd : Nat} {A Bl : List Value} {s : MDS} {bs : List Int32} {nm v3 v4 hv : Int32} (hT : TS ad h np ex ho) (hm : ad 11 0 = some m) (hol : ad kMla 0 = some ol) (he : mdH h m ol A Bl s = h) (hd : MdD h m ol ot oy A b n bs) (hb : b < 4) (hs : s.2.2.2.2.length = 6) (hk : At ad h 48 0 k (.int (nI b))) (hk2 : k < 2147483648) (hdy : At ad h 11 0 0 (.int (nI dd))) (hdd : dd < 400) (h3 : (txEnd (txAll bs n nm)).2.2.2.1.getD 3 0 = v3) (h4 : (txEnd (txAll bs n nm)).2.2.2.1.getD 4 0 = v4) (hh : At ad h 47 0 dd (.int hv)) (hQ : ∀ h', Q (some (.int (bif wdW (nI dd) v3 || wdH hv v4 then 1 else 0))) h') : Rt σ 197 (codeOf 197) (am_args 0 [.ref m, .int (nI k)]) [] h Q := by
  obtain ⟨-, ⟨f2, f2'⟩, f1, f1'⟩ := wd_f
  obtain ⟨-, -, ⟨f6, f6'⟩, -⟩ := pm_f
  obtain ⟨⟨-, c1, c2⟩, ⟨-, c3⟩, -, ml181⟩ := wd_c
  obtain ⟨⟨-, -, t1⟩, -⟩ := pm_t
  obtain ⟨-, ⟨-, -, c8⟩, -, -, -, -, k67⟩ := pm_c
  obtain ⟨⟨w11, -⟩, -⟩ := wd_ck
  have c11 : cdk 11 = 11 := m_cls.1.1.2
  have hA := hd.1.1
  have hmo : h.1 m = some (11, mdF A Bl ol s) := by
    have := congrArg (fun g : AH => g.1 m) he
    rw [md_m] at this
    exact this.symm
  have hrd := fun (Q : Option Value → AH → Prop) (hQ : ∀ s' : MDS, s'.2.2.2.2 = (txEnd (txAll bs n nm)).2.2.2.1 → Q (some (.int (txAll bs n nm).1)) (mdH h m ol A Bl s')) => M_reads (σ := σ) (nm := nm) (h := h) (B := Bl) (s := s) (Q := Q) hd hb hs hQ
  rw [he] at hrd
  obtain ⟨qh, w1, w2⟩ := fld_sgl hT (by omega) w11 c3 hm
  obtain ⟨lh, r1, r2⟩ := row_of hT.1 c1 w2 c2 (by omega)
  have hx := at_row hh w2 r1
  have nqm : qh ≠ m := fun e => by
    rw [e, hmo] at r1
    cases r1
  have nql : qh ≠ ol := fun e => by
    rw [e] at w2
    exact ref_ne hT.2.1 w2 hol (by rw [c2]; omega) (fun e2 => by rw [k67] at e2; exact absurd e2.1 (by omega)) rfl
  rw [head_197]
  refine rl_load rfl rfl (rl_load rfl rfl (ra_row hT hm (by rw [f6']; exact t1) f6 fun q48 hq48 => rl_load rfl rfl (ra_ald hT.1 (by omega) (by omega) hq48 hk (by rw [c8]; rfl) hk2 (rl_callv (as := [.int (nI b)]) (r := []) spec_136 rfl rfl hmo (by show 0 ≤ 8; omega) (two_ok ml181) (hrd _ fun s' h1 => ?_)))))
  have la : ∀ w, w < 6 → (s'.2.2.2.2.map Value.int)[(nI w).toNatClampNeg]? = some (.int ((txEnd (txAll bs n nm)).2.2.2.1.getD w 0)) := fun w hw => by
    rw [h1]
    exact map_get (by rw [end_len]; exact hw) (by omega)
  have la3 := la 3 (by omega)
  have la4 := la 4 (by omega)
  rw [h3] at la3
  rw [h4] at la4
  have getA : ∀ {p : Nat} {v : Value}, p < 25 → At ad h 11 0 p v → (mdF A Bl ol s')[p]? = some v := fun {p v} hp ha => by
    obtain ⟨q, k', vs, a1, a2, a3⟩ := ha
    rw [hm] at a1
    cases a1
    rw [hmo] at a2
    cases a2
    unfold mdF at a3 ⊢
    rw [List.getElem?_append_left (by omega)] at a3 ⊢
    exact a3
  have dayG := getA (by omega) hdy
  have holG := getA (by omega) w1
  have hqh : (mdH h m ol A Bl s').1 qh = some (22, lh.map Value.int) := by rw [md_o nqm nql]; exact r1
  have f58 : ∀ L : LV, wdW (nI dd) v3 = false → wdH hv v4 = false → Rt σ 197 (jump 197 58) L [] (mdH h m ol A Bl s') Q := fun L ew eh => by
    rw [j197_58]
    refine rl_const ?_
    rw [j197_59]
    refine rl_ret4 (Or.inl rfl) ?_
    have := hQ (mdH h m ol A Bl s')
    rw [ew, eh] at this
    exact this
  have f54 : ∀ L : LV, (wdW (nI dd) v3 || wdH hv v4) = true → Rt σ 197 (jump 197 54) L [] (mdH h m ol A Bl s') Q := fun L e => by
    rw [j197_54]
    refine rl_const (rl_goto ?_)
    show Rt σ 197 (jump 197 59) _ _ _ _
    rw [j197_59]
    refine rl_ret4 (Or.inr rfl) ?_
    have := hQ (mdH h m ol A Bl s')
    rw [e] at this
    exact this
  have f32 : ∀ L : LV, lv_get 0 L = some (.ref m) → wdW (nI dd) v3 = false → Rt σ 197 (jump 197 32) L [] (mdH h m ol A Bl s') Q := fun L hL ew => by
    rw [j197_32]
    refine rl_load hL rfl (mt_la hA (rl_const (rl_ald (md_l hd) rfl (nI_nn (c := 4) (by omega)).1 la4 (rl_const ?_))))
    by_cases e4 : v4 = Int32.ofInt 1
    · refine rl_icmpF (by show some (decide (¬ v4 = Int32.ofInt 1)) = some false; rw [decide_eq_false (fun h => h e4)]) (rl_load hL rfl (rl_get md_m f2 (by rw [f2']; exact holG) (rl_load hL rfl (rl_get md_m f1 (by rw [f1']; exact dayG) (rl_ald hqh rfl (nI_nn (by omega)).1 (by rw [(nI_nn (by omega)).2, List.getElem?_map, hx]; rfl) ?_)))))
      by_cases h0 : hv = 0
      · refine rl_ifT (by show some (decide (hv = 0)) = some true; rw [decide_eq_true h0]) ?_
        exact f58 L ew (by unfold wdH; rw [decide_eq_false (fun e => e h0)]; rfl)
      · refine rl_ifF (by show some (decide (hv = 0)) = some false; rw [decide_eq_false h0]) ?_
        exact f54 L (by unfold wdH; rw [decide_eq_true h0, decide_eq_true e4, ew]; rfl)
    · refine rl_icmpT (by show some (decide (¬ v4 = Int32.ofInt 1)) = some true; rw [decide_eq_true e4]) ?_
      exact f58 L ew (by unfold wdH; rw [decide_eq_false e4, Bool.and_false])
  rw [j197_10]
  refine rl_store rfl (rl_load rfl rfl (mt_la hA (rl_const (rl_ald (md_l hd) rfl (nI_nn (c := 3) (by omega)).1 la3 (rl_const ?_)))))
  by_cases e3 : v3 = Int32.ofInt 1
  · refine rl_icmpF (by show some (decide (¬ v3 = Int32.ofInt 1)) = some false; rw [decide_eq_false (fun h => h e3)]) (rl_load rfl rfl (rl_get md_m f1 (by rw [f1']; exact dayG) (rl_const (rl_bin (z := wdR (nI dd)) ib4 (rl_const ?_)))))
    have hr : (Int32.ofInt 4 < wdR (nI dd)) ↔ ¬ wdR (nI dd) < Int32.ofInt 5 := by
      have e4 : i2n (Int32.ofInt 4) = 2147483652 := by decide +kernel
      have e5 : i2n (Int32.ofInt 5) = 2147483653 := by decide +kernel
      rw [i_lt, i_lt, e4, e5]
      omega
    by_cases r5 : Int32.ofInt 4 < wdR (nI dd)
    · refine rl_icmpT (by show some (decide (Int32.ofInt 4 < wdR (nI dd))) = some true; rw [decide_eq_true r5]) ?_
      exact f54 _ (by unfold wdW; rw [decide_eq_true (hr.mp r5), decide_eq_true e3]; rfl)
    · refine rl_icmpF (by show some (decide (Int32.ofInt 4 < wdR (nI dd))) = some false; rw [decide_eq_false r5]) ?_
      exact f32 _ rfl (by unfold wdW; rw [decide_eq_false (fun e => r5 (hr.mpr e))]; rfl)
  · refine rl_icmpT (by show some (decide (¬ v3 = Int32.ofInt 1)) = some true; rw [decide_eq_true e3]) ?_
    exact f32 _ rfl (by unfold wdW; rw [decide_eq_false e3, Bool.and_false])
end
end
