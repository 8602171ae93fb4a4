section
/-! ===== texts of boroughs, read by the model ===== -/
theorem code_185 : codeOf 185 = [(0, (1, 0, 2)), (1, (8, 142, 0)), (4, (1, 0, 2)), (5, (8, 102, 0)), (8, (1, 0, 2)), (9, (8, 143, 0)), (12, (10, 0, 0)), (13, (5, 3, 36)), (16, (1, 0, 2)), (17, (8, 103, 0)), (20, (0, 0, 60)), (22, (1, 0, 2)), (23, (8, 143, 0)), (26, (4, 2, 0)), (27, (1, 0, 2)), (28, (8, 142, 0)), (31, (4, 0, 0)), (32, (10, 0, 0)), (33, (7, 0, 37)), (36, (0, 0, -1)), (37, (13, 1, 0))] := by decide +kernel
theorem j185_36 : jump 185 36 = [(36, (0, 0, -1)), (37, (13, 1, 0))] := by rw [jump_jmp, code_185]; rfl
theorem j185_37 : jump 185 37 = [(37, (13, 1, 0))] := by rw [jump_jmp, code_185]; rfl
/-- textNow, at, fault, seen, laws -/
abbrev MDS : Type := Int32 × Int32 × Int32 × Int32 × List Int32
noncomputable def mdF (A B : List Value) (ol : Nat) (s : MDS) : List Value := A ++ (.int s.1 :: .int s.2.1 :: .int s.2.2.1 :: .ref ol :: .int s.2.2.2.1 :: B)
noncomputable def mdH (h : AH) (m ol : Nat) (A B : List Value) (s : MDS) : AH := (fun a => if a = m then some (11, mdF A B ol s) else if a = ol then some (20, s.2.2.2.2.map .int) else h.1 a, h.2)
/-- the model's rows of texts: text b has n bytes, those of bs -/
noncomputable def MdD (h : AH) (m ol ot oy : Nat) (A : List Value) (b n : Nat) (bs : List Int32) : Prop := (A.length = 25 ∧ (A[23]? = some (.ref ot) ∧ A[24]? = some (.ref oy))) ∧ ((m ≠ ol ∧ (m ≠ ot ∧ (m ≠ oy ∧ (ol ≠ ot ∧ ol ≠ oy)))) ∧ (b < 5 ∧ (n ≤ 60 ∧
  ((∃ ty : List Int32, h.1 ot = some (20, ty.map .int) ∧ ty[b]? = some (nI n)) ∧ ∃ yy : List Int32, h.1 oy = some (20, yy.map .int) ∧ ∀ j, j < n → yy[60 * b + j]? = some (bs.getD j 0)))))
theorem f_md : (fks 102).contains 11 = true ∧ (fks 103).contains 11 = true ∧ (fks 104).contains 11 = true ∧ (fks 142).contains 11 = true ∧ (fks 143).contains 11 = true ∧ (fks 144).contains 11 = true ∧ (fks 145).contains 11 = true := ⟨by decide +kernel, by decide +kernel, by decide +kernel, by decide +kernel, by decide +kernel, by decide +kernel, by decide +kernel⟩
theorem p_md : fpos 102 = 23 ∧ fpos 103 = 24 ∧ fpos 104 = 28 ∧ fpos 142 = 26 ∧ fpos 143 = 25 ∧ fpos 144 = 27 ∧ fpos 145 = 29 := ⟨by decide +kernel, by decide +kernel, by decide +kernel, by decide +kernel, by decide +kernel, by decide +kernel, by decide +kernel⟩
theorem dc_md : dcode (fr 142).2.2.1 = 0 ∧ dcode (fr 143).2.2.1 = 0 ∧ dcode (fr 144).2.2.1 = 0 ∧ dcode (fr 145).2.2.1 = 0 := ⟨by decide +kernel, by decide +kernel, by decide +kernel, by decide +kernel⟩
section
variable {σ : Nat → Nat} {h : AH} {m ol ot oy M M' pc a n b q k p : Nat} {A B : List Value} {s : MDS} {bs : List Int32} {c : Int} {tl : List (Nat × AI)} {L : LV} {S fs : List Value} {Q : Option Value → AH → Prop}
theorem md_m : (mdH h m ol A B s).1 m = some (11, mdF A B ol s) := if_pos rfl
theorem md_l (hd : MdD h m ol ot oy A b n bs) : (mdH h m ol A B s).1 ol = some (20, s.2.2.2.2.map .int) := by
  show (if ol = m then _ else if ol = ol then _ else _) = _
  rw [if_neg (fun e => hd.2.1.1 e.symm), if_pos rfl]
theorem md_o {x : Nat} (h1 : x ≠ m) (h2 : x ≠ ol) : (mdH h m ol A B s).1 x = h.1 x := by
  show (if x = m then _ else if x = ol then _ else h.1 x) = _
  rw [if_neg h1, if_neg h2]
theorem md_k (hA : A.length = 25) {l : List Value} {i k : Nat} (hi : i = 25 + k) : (A ++ l)[i]? = l[k]? := by
  rw [List.getElem?_append_right (by omega), hA, hi, Nat.add_sub_cancel_left]
theorem md_s (hA : A.length = 25) {l : List Value} {i k : Nat} {v : Value} (hi : i = 25 + k) : (A ++ l).set i v = A ++ l.set k v := by
  rw [List.set_append_right (h := by omega), hA, hi, Nat.add_sub_cancel_left]
theorem mt_tn (hA : A.length = 25) (hk : Rt σ M tl L (.int s.1 :: S) (mdH h m ol A B s) Q) : Rt σ M ((pc, (8, 143, c)) :: tl) L (.ref m :: S) (mdH h m ol A B s) Q := rl_get md_m f_md.2.2.2.2.1 (by rw [p_md.2.2.2.2.1]; exact md_k hA (k := 0) rfl) hk
theorem mt_at (hA : A.length = 25) (hk : Rt σ M tl L (.int s.2.1 :: S) (mdH h m ol A B s) Q) : Rt σ M ((pc, (8, 142, c)) :: tl) L (.ref m :: S) (mdH h m ol A B s) Q := rl_get md_m f_md.2.2.2.1 (by rw [p_md.2.2.2.1]; exact md_k hA (k := 1) rfl) hk
theorem mt_fl (hA : A.length = 25) (hk : Rt σ M tl L (.int s.2.2.1 :: S) (mdH h m ol A B s) Q) : Rt σ M ((pc, (8, 144, c)) :: tl) L (.ref m :: S) (mdH h m ol A B s) Q := rl_get md_m f_md.2.2.2.2.2.1 (by rw [p_md.2.2.2.2.2.1]; exact md_k hA (k := 2) rfl) hk
theorem mt_la (hA : A.length = 25) (hk : Rt σ M tl L (.ref ol :: S) (mdH h m ol A B s) Q) : Rt σ M ((pc, (8, 104, c)) :: tl) L (.ref m :: S) (mdH h m ol A B s) Q := rl_get md_m f_md.2.2.1 (by rw [p_md.2.2.1]; exact md_k hA (k := 3) rfl) hk
theorem mt_se (hA : A.length = 25) (hk : Rt σ M tl L (.int s.2.2.2.1 :: S) (mdH h m ol A B s) Q) : Rt σ M ((pc, (8, 145, c)) :: tl) L (.ref m :: S) (mdH h m ol A B s) Q := rl_get md_m f_md.2.2.2.2.2.2 (by rw [p_md.2.2.2.2.2.2]; exact md_k hA (k := 4) rfl) hk
theorem mt_ty (hd : MdD h m ol ot oy A b n bs) (hk : Rt σ M tl L (.ref ot :: S) (mdH h m ol A B s) Q) : Rt σ M ((pc, (8, 102, c)) :: tl) L (.ref m :: S) (mdH h m ol A B s) Q := rl_get md_m f_md.1 (by rw [p_md.1]; show (A ++ _)[23]? = _; rw [List.getElem?_append_left (by rw [hd.1.1]; omega)]; exact hd.1.2.1) hk
theorem mt_yy (hd : MdD h m ol ot oy A b n bs) (hk : Rt σ M tl L (.ref oy :: S) (mdH h m ol A B s) Q) : Rt σ M ((pc, (8, 103, c)) :: tl) L (.ref m :: S) (mdH h m ol A B s) Q := rl_get md_m f_md.2.1 (by rw [p_md.2.1]; show (A ++ _)[24]? = _; rw [List.getElem?_append_left (by rw [hd.1.1]; omega)]; exact hd.1.2.2) hk
theorem i60 (hb : b < 5) : Int32.ofInt 60 * nI b = nI (60 * b) := by
  have : b = 0 ∨ b = 1 ∨ b = 2 ∨ b = 3 ∨ b = 4 := by omega
  rcases this with rfl | rfl | rfl | rfl | rfl <;> decide +kernel
theorem mt_typed (hd : MdD h m ol ot oy A b n bs) (e1 : s.1 = nI b) {pc1 pc2 pc3 pc4 : Nat} {c1 c2 c3 : Int} (hL : lv_get 0 L = some (.ref m)) (hk : Rt σ M tl L (.int (nI n) :: S) (mdH h m ol A B s) Q) : Rt σ M ((pc, (1, 0, 2)) :: (pc1, (8, 102, c1)) :: (pc2, (1, 0, 2)) :: (pc3, (8, 143, c2)) :: (pc4, (10, 0, c3)) :: tl) L S (mdH h m ol A B s) Q := by
  obtain ⟨⟨a1, a2, a3⟩, ⟨d1, d2, d3, d4, d5⟩, hb, hn, ⟨ty, t1, t2⟩, -⟩ := id hd
  refine rl_load hL rfl (mt_ty hd (rl_load hL rfl (mt_tn a1 ?_)))
  rw [e1]
  refine rl_ald ((md_o d2.symm d4.symm).trans t1) rfl (nI_nn (by omega)).1 ?_ hk
  rw [(nI_nn (by omega)).2, List.getElem?_map, t2]
  rfl
theorem M_byte (hd : MdD h m ol ot oy A b n bs) (hp : p ≤ 100) (e1 : s.1 = nI b) (e2 : s.2.1 = nI p) (hQ : Q (some (.int (txN bs n p))) (mdH h m ol A B s)) : Rt σ 185 (codeOf 185) (am_args 0 [.ref m]) [] (mdH h m ol A B s) Q := by
  obtain ⟨⟨a1, a2, a3⟩, ⟨d1, d2, d3, d4, d5⟩, hb, hn, -, yy, y1, y2⟩ := id hd
  rw [code_185]
  refine rl_load rfl rfl (mt_at a1 (mt_typed hd e1 rfl ?_))
  rw [e2]
  by_cases hlt : p < n
  · refine rl_icmpF ?_ (rl_load rfl rfl (mt_yy hd (rl_const (rl_load rfl rfl (mt_tn a1 (rl_bin rfl (rl_load rfl rfl (mt_at a1 (rl_bin rfl ?_)))))))))
    · show some (decide (nI n ≤ nI p)) = some false
      rw [decide_eq_false (by rw [tx_le (by omega) (by omega)]; omega)]
    · rw [e1, e2, i60 hb, nI_plus (by omega)]
      refine rl_ald ((md_o d3.symm d5.symm).trans y1) rfl (nI_nn (by omega)).1 (v := .int (txN bs n p)) ?_ (rl_goto ?_)
      · rw [(nI_nn (by omega)).2, List.getElem?_map, y2 p hlt]
        unfold txN
        rw [if_pos hlt]
        rfl
      · show Rt σ 185 (jump 185 37) _ _ _ _
        rw [j185_37]
        exact rl_ret1 hQ
  · refine rl_icmpT ?_ ?_
    · show some (decide (nI n ≤ nI p)) = some true
      rw [decide_eq_true (by rw [tx_le (by omega) (by omega)]; omega)]
    · show Rt σ 185 (jump 185 36) _ _ _ _
      rw [j185_36]
      have hm : txN bs n p = Int32.ofInt (-1) := by
        unfold txN
        rw [if_neg hlt]
        decide +kernel
      rw [hm] at hQ
      exact rl_const (rl_ret1 hQ)
end
end
section
theorem code_1 : codeOf 1 = [(0, (1, 0, 0)), (1, (1, 1, 0)), (2, (5, 2, 14)), (5, (1, 0, 0)), (6, (1, 2, 0)), (7, (5, 4, 14)), (10, (0, 0, 1)), (11, (7, 0, 15)), (14, (0, 0, 0)), (15, (13, 4, 0))] := by decide +kernel
theorem j1_14 : jump 1 14 = [(14, (0, 0, 0)), (15, (13, 4, 0))] := by rw [jump_jmp, code_1]; rfl
theorem j1_15 : jump 1 15 = [(15, (13, 4, 0))] := by rw [jump_jmp, code_1]; rfl
theorem code_186 : codeOf 186 = [(0, (1, 0, 2)), (1, (8, 142, 0)), (4, (2, 4, 0)), (6, (0, 0, 0)), (7, (2, 5, 0)), (9, (1, 0, 2)), (10, (8, 142, 0)), (13, (1, 4, 0)), (15, (1, 1, 0)), (16, (4, 0, 0)), (17, (5, 3, 66)), (20, (1, 0, 2)), (21, (12, 139, 0)), (24, (0, 0, 48)), (26, (5, 2, 66)), (29, (1, 0, 2)), (30, (12, 139, 0)), (33, (0, 0, 57)), (35, (5, 4, 66)), (38, (0, 0, 10)), (40, (1, 5, 0)), (42, (4, 2, 0)), (43, (1, 0, 2)), (44, (12, 139, 0)), (47, (4, 0, 0)), (48, (0, 0, 48)), (50, (4, 1, 0)), (51, (2, 5, 0)), (53, (1, 0, 2)), (54, (18, 0, 0)), (55, (8, 142, 0)), (58, (0, 0, 1)), (59, (4, 0, 0)), (60, (9, 142, 0)), (63, (7, 0, 9)), (66, (1, 0, 2)), (67, (8, 144, 0)), (70, (0, 0, -1)), (71, (5, 1, 99)), (74, (1, 0, 2)), (75, (8, 142, 0)), (78, (1, 4, 0)), (80, (5, 0, 93)), (83, (1, 5, 0)), (85, (1, 2, 0)), (86, (1, 3, 0)), (87, (12, 125, 0)), (90, (6, 1, 99)), (93, (1, 0, 2)), (94, (1, 4, 0)), (96, (9, 144, 0)), (99, (1, 5, 0)), (101, (13, 1, 0))] := by decide +kernel
theorem j186_9 : jump 186 9 = [(9, (1, 0, 2)), (10, (8, 142, 0)), (13, (1, 4, 0)), (15, (1, 1, 0)), (16, (4, 0, 0)), (17, (5, 3, 66)), (20, (1, 0, 2)), (21, (12, 139, 0)), (24, (0, 0, 48)), (26, (5, 2, 66)), (29, (1, 0, 2)), (30, (12, 139, 0)), (33, (0, 0, 57)), (35, (5, 4, 66)), (38, (0, 0, 10)), (40, (1, 5, 0)), (42, (4, 2, 0)), (43, (1, 0, 2)), (44, (12, 139, 0)), (47, (4, 0, 0)), (48, (0, 0, 48)), (50, (4, 1, 0)), (51, (2, 5, 0)), (53, (1, 0, 2)), (54, (18, 0, 0)), (55, (8, 142, 0)), (58, (0, 0, 1)), (59, (4, 0, 0)), (60, (9, 142, 0)), (63, (7, 0, 9))] ++ jump 186 66 := by rw [jump_jmp, jump_jmp, code_186]; rfl
theorem j186_66 : jump 186 66 = [(66, (1, 0, 2)), (67, (8, 144, 0)), (70, (0, 0, -1)), (71, (5, 1, 99)), (74, (1, 0, 2)), (75, (8, 142, 0)), (78, (1, 4, 0)), (80, (5, 0, 93)), (83, (1, 5, 0)), (85, (1, 2, 0)), (86, (1, 3, 0)), (87, (12, 125, 0)), (90, (6, 1, 99))] ++ jump 186 93 := by rw [jump_jmp, jump_jmp, code_186]; rfl
theorem j186_93 : jump 186 93 = [(93, (1, 0, 2)), (94, (1, 4, 0)), (96, (9, 144, 0))] ++ jump 186 99 := by rw [jump_jmp, jump_jmp, code_186]; rfl
theorem j186_99 : jump 186 99 = [(99, (1, 5, 0)), (101, (13, 1, 0))] := by rw [jump_jmp, code_186]; rfl
theorem spec_125 : spec 125 = (0, 3, [(0, 1)]) := by decide +kernel
theorem spec_139 : spec 139 = (1, 0, [(11, 185)]) := by decide +kernel
theorem ml_md : (Nat.ble 3 (mL 1) && (Nat.ble 1 (mL 185) && Nat.ble 4 (mL 186))) = true := by decide +kernel
section
variable {σ : Nat → Nat} {h : AH} {m ol ot oy M M' pc a n b q k p : Nat} {A B : List Value} {s : MDS} {bs : List Int32} {c : Int} {tl : List (Nat × AI)} {L : LV} {S fs : List Value} {Q : Option Value → AH → Prop}
theorem M_in {v lo hi : Int32} (hQ : Q (some (.int (txW v lo hi))) h) : Rt σ 1 (codeOf 1) (am_args 0 [.int v, .int lo, .int hi]) [] h Q := by
  rw [code_1]
  refine rl_load rfl rfl (rl_load rfl rfl ?_)
  unfold txW at hQ
  by_cases h1 : v < lo
  · rw [if_neg (fun e => absurd e.1 (Int32.not_le.mpr h1))] at hQ
    refine rl_icmpT (by show some (decide (v < lo)) = some true; rw [decide_eq_true h1]) ?_
    show Rt σ 1 (jump 1 14) _ _ _ _
    rw [j1_14]
    exact rl_const (rl_ret4 (Or.inl rfl) hQ)
  · refine rl_icmpF (by show some (decide (v < lo)) = some false; rw [decide_eq_false h1]) (rl_load rfl rfl (rl_load rfl rfl ?_))
    by_cases h2 : hi < v
    · rw [if_neg (fun e => absurd e.2 (Int32.not_le.mpr h2))] at hQ
      refine rl_icmpT (by show some (decide (hi < v)) = some true; rw [decide_eq_true h2]) ?_
      show Rt σ 1 (jump 1 14) _ _ _ _
      rw [j1_14]
      exact rl_const (rl_ret4 (Or.inl rfl) hQ)
    · rw [if_pos ⟨Int32.not_lt.mp h1, Int32.not_lt.mp h2⟩] at hQ
      refine rl_icmpF (by show some (decide (hi < v)) = some false; rw [decide_eq_false h2]) (rl_const (rl_goto ?_))
      show Rt σ 1 (jump 1 15) _ _ _ _
      rw [j1_15]
      exact rl_ret4 (Or.inr rfl) hQ
theorem min_ok {v lo hi : Int32} (h4 : am_w S ≤ 8) (hk : Rt σ M tl L (.int (txW v lo hi) :: S) h Q) : Rt σ M ((pc, (12, 125, c)) :: tl) L (.int hi :: .int lo :: .int v :: S) h Q := by
  refine rl_calls (as := [.int v, .int lo, .int hi]) (r := S) spec_125 rfl rfl h4 ?_ (M_in hk)
  unfold am_ok
  rw [decide_eq_true (show ([.int v, .int lo, .int hi] : List Value).length ≤ mL 1 from blet (and2 ml_md).1)]
  rfl
theorem md_set {s' : MDS} {v : Value} {i : Nat} (h1 : (mdF A B ol s).set i v = mdF A B ol s') (h2 : s'.2.2.2.2 = s.2.2.2.2) : am_set (mdH h m ol A B s) m (11, (mdF A B ol s).set i v) = mdH h m ol A B s' := by
  unfold am_set mdH
  rw [h1]
  refine Prod.ext (funext fun a => ?_) rfl
  dsimp only
  by_cases e : a = m
  · rw [if_pos e, if_pos e]
  · rw [if_neg e, if_neg e, if_neg e, h2]
noncomputable def msA (s : MDS) (x : Int32) : MDS := (s.1, x, s.2.2)
noncomputable def msF (s : MDS) (x : Int32) : MDS := (s.1, s.2.1, x, s.2.2.2)
theorem mt_sa {x : Int32} (hA : A.length = 25) (hk : Rt σ M tl L S (mdH h m ol A B (msA s x)) Q) : Rt σ M ((pc, (9, 142, c)) :: tl) L (.int x :: .ref m :: S) (mdH h m ol A B s) Q := by
  refine rl_put md_m f_md.2.2.2.1 ?_ (by rw [dc_md.1]; rfl) ?_
  · rw [p_md.2.2.2.1]
    show 26 < (A ++ _).length
    rw [List.length_append, hA]
    show 26 < 25 + (B.length + 5)
    omega
  · rw [p_md.2.2.2.1, md_set (s := s) (s' := msA s x) (i := 26) (v := .int x) (md_s hA (i := 26) (k := 1) rfl) rfl]
    exact hk
theorem mt_sf {x : Int32} (hA : A.length = 25) (hk : Rt σ M tl L S (mdH h m ol A B (msF s x)) Q) : Rt σ M ((pc, (9, 144, c)) :: tl) L (.int x :: .ref m :: S) (mdH h m ol A B s) Q := by
  refine rl_put md_m f_md.2.2.2.2.2.1 ?_ (by rw [dc_md.2.2.1]; rfl) ?_
  · rw [p_md.2.2.2.2.2.1]
    show 27 < (A ++ _).length
    rw [List.length_append, hA]
    show 27 < 25 + (B.length + 5)
    omega
  · rw [p_md.2.2.2.2.2.1, md_set (s := s) (s' := msF s x) (i := 27) (v := .int x) (md_s hA (i := 27) (k := 2) rfl) rfl]
    exact hk
theorem mt_byte (hd : MdD h m ol ot oy A b n bs) (hp : p ≤ 100) (e1 : s.1 = nI b) (e2 : s.2.1 = nI p) (h4 : am_w S ≤ 8) (hk : Rt σ M tl L (.int (txN bs n p) :: S) (mdH h m ol A B s) Q) : Rt σ M ((pc, (12, 139, c)) :: tl) L (.ref m :: S) (mdH h m ol A B s) Q :=
  rl_callv (as := []) (r := S) spec_139 rfl rfl md_m h4 (ref_ok (blet (and2 (and2 ml_md).2).1)) (M_byte hd hp e1 e2 hk)
/-- the number's locals -/
noncomputable def NuL (m f fig : Nat) (lo hi a : Int32) (L : LV) : Prop := lv_get 0 L = some (.ref m) ∧ (lv_get 1 L = some (.int (nI fig)) ∧ (lv_get 2 L = some (.int lo) ∧ (lv_get 3 L = some (.int hi) ∧ (lv_get 4 L = some (.int (nI f)) ∧ lv_get 5 L = some (.int a)))))
theorem M_num_loop {f fig : Nat} {lo hi : Int32} (hd : MdD h m ol ot oy A b n bs) (hf : fig ≤ 3) (hff : f ≤ 61) : ∀ (k p : Nat) (s : MDS) (L : LV) (a : Int32), p + k = f + fig → s.1 = nI b → s.2.1 = nI p → NuL m f fig lo hi a L →
    (∀ L', NuL m f fig lo hi (txNum bs n k p a).2 L' → Rt σ 186 (jump 186 66) L' [] (mdH h m ol A B (msA s (nI (txNum bs n k p a).1))) Q) → Rt σ 186 (jump 186 9) L [] (mdH h m ol A B s) Q := by
  intro k
  have hA := hd.1.1
  have es : ∀ (s : MDS) (p : Nat), s.2.1 = nI p → msA s (nI p) = s := by
    intro s p e
    obtain ⟨a1, a2, a3⟩ := s
    have e : a2 = nI p := e
    rw [e]
    rfl
  induction k with
  | zero =>
    intro p s L a hk e1 e2 hL hQ
    obtain ⟨g0, g1, g2, g3, g4, g5⟩ := id hL
    rw [j186_9]
    refine rl_load g0 rfl (mt_at hA (rl_load g4 rfl (rl_load g1 rfl (rl_bin rfl (rl_icmpT ?_ ?_)))))
    · rw [e2, nI_plus (by omega)]
      show some (decide (nI (f + fig) ≤ nI p)) = some true
      rw [decide_eq_true (by rw [tx_le (by omega) (by omega)]; omega)]
    · have := hQ L hL
      rw [show (txNum bs n 0 p a).1 = p from rfl, es s p e2] at this
      exact this
  | succ k ih =>
    intro p s L a hk e1 e2 hL hQ
    obtain ⟨g0, g1, g2, g3, g4, g5⟩ := id hL
    rw [j186_9]
    refine rl_load g0 rfl (mt_at hA (rl_load g4 rfl (rl_load g1 rfl (rl_bin rfl (rl_icmpF ?_ (rl_load g0 rfl (mt_byte hd (by omega) e1 e2 (by show 0 ≤ 8; omega) (rl_const ?_))))))))
    · rw [e2, nI_plus (by omega)]
      show some (decide (nI (f + fig) ≤ nI p)) = some false
      rw [decide_eq_false (by rw [tx_le (by omega) (by omega)]; omega)]
    · have out : txW (txN bs n p) (Int32.ofInt 48) (Int32.ofInt 57) = 0 → Rt σ 186 (jump 186 66) L [] (mdH h m ol A B s) Q := by
        intro hw
        rw [show txNum bs n (k + 1) p a = (p, a) from if_pos hw] at hQ
        have := hQ L hL
        rw [es s p e2] at this
        exact this
      by_cases h1 : txN bs n p < Int32.ofInt 48
      · refine rl_icmpT (by show some (decide (txN bs n p < Int32.ofInt 48)) = some true; rw [decide_eq_true h1]) (out ?_)
        exact if_neg (fun e => absurd e.1 (Int32.not_le.mpr h1))
      · refine rl_icmpF (by show some (decide (txN bs n p < Int32.ofInt 48)) = some false; rw [decide_eq_false h1]) (rl_load g0 rfl (mt_byte hd (by omega) e1 e2 (by show 0 ≤ 8; omega) (rl_const ?_)))
        by_cases h2 : Int32.ofInt 57 < txN bs n p
        · refine rl_icmpT (by show some (decide (Int32.ofInt 57 < txN bs n p)) = some true; rw [decide_eq_true h2]) (out ?_)
          exact if_neg (fun e => absurd e.2 (Int32.not_le.mpr h2))
        · have hw : ¬ txW (txN bs n p) (Int32.ofInt 48) (Int32.ofInt 57) = 0 := by
            unfold txW
            rw [if_pos ⟨Int32.not_lt.mp h1, Int32.not_lt.mp h2⟩]
            decide +kernel
          rw [show txNum bs n (k + 1) p a = txNum bs n k (p + 1) (a * Int32.ofInt 10 + txN bs n p - Int32.ofInt 48) from if_neg hw] at hQ
          refine rl_icmpF (by show some (decide (Int32.ofInt 57 < txN bs n p)) = some false; rw [decide_eq_false h2]) (rl_const (rl_load g5 rfl (rl_bin rfl (rl_load g0 rfl (mt_byte hd (by omega) e1 e2 (by show 1 ≤ 8; omega) (rl_bin rfl (rl_const (rl_bin rfl (rl_store rfl ?_)))))))))
          rw [Int32.mul_comm (Int32.ofInt 10) a]
          have hL2 : NuL m f fig lo hi (a * Int32.ofInt 10 + txN bs n p - Int32.ofInt 48) (lv_put 5 (.int (a * Int32.ofInt 10 + txN bs n p - Int32.ofInt 48)) L) := ⟨get_put rfl rfl (by omega) g0, get_put rfl rfl (by omega) g1, get_put rfl rfl (by omega) g2, get_put rfl rfl (by omega) g3, get_put rfl rfl (by omega) g4, rfl⟩
          refine rl_load hL2.1 rfl (rl_dup rfl (mt_at hA (rl_const (rl_bin rfl (mt_sa hA (rl_goto ?_))))))
          rw [e2, nI_suc (by omega)]
          exact ih (p + 1) (msA s (nI (p + 1))) _ _ (by omega) e1 rfl hL2 hQ
theorem M_num {f fig : Nat} {lo hi : Int32} (hd : MdD h m ol ot oy A b n bs) (hf : fig ≤ 3) (hff : f ≤ 61) (e1 : s.1 = nI b) (e2 : s.2.1 = nI f) (e3 : s.2.2.1 = Int32.ofInt (-1))
    (hQ : Q (some (.int (txNum bs n fig f 0).2)) (mdH h m ol A B (msF (msA s (nI (txNum bs n fig f 0).1)) (txFlt f (txNum bs n fig f 0).1 (txNum bs n fig f 0).2 lo hi)))) : Rt σ 186 (codeOf 186) (am_args 0 [.ref m, .int (nI fig), .int lo, .int hi]) [] (mdH h m ol A B s) Q := by
  have hA := hd.1.1
  have hc : codeOf 186 = [(0, (1, 0, 2)), (1, (8, 142, 0)), (4, (2, 4, 0)), (6, (0, 0, 0)), (7, (2, 5, 0))] ++ jump 186 9 := by rw [jump_jmp, code_186]; rfl
  rw [hc]
  refine rl_load rfl rfl (mt_at hA (rl_store rfl (rl_const (rl_store rfl ?_))))
  rw [e2]
  refine M_num_loop hd hf hff fig f s _ 0 rfl e1 e2 ⟨rfl, rfl, rfl, rfl, rfl, rfl⟩ fun L hL => ?_
  obtain ⟨g0, g1, g2, g3, g4, g5⟩ := hL
  generalize txNum bs n fig f 0 = r at hQ g5 ⊢
  rw [j186_66]
  refine rl_load g0 rfl (mt_fl hA (rl_const (rl_icmpF ?_ (rl_load g0 rfl (mt_at hA (rl_load g4 rfl ?_))))))
  · rw [show (msA s (nI r.1)).2.2.1 = Int32.ofInt (-1) from e3]
    rfl
  · rw [show (msA s (nI r.1)).2.1 = nI r.1 from rfl]
    have es : msF (msA s (nI r.1)) (Int32.ofInt (-1)) = msA s (nI r.1) := by
      obtain ⟨a1, a2, a3, a4⟩ := s
      have e3 : a3 = Int32.ofInt (-1) := e3
      rw [e3]
      rfl
    have bad : txFlt f r.1 r.2 lo hi = nI f → Rt σ 186 (jump 186 93) L [] (mdH h m ol A B (msA s (nI r.1))) Q := by
      intro e
      rw [e] at hQ
      rw [j186_93]
      refine rl_load g0 rfl (rl_load g4 rfl (mt_sf hA ?_))
      rw [j186_99]
      exact rl_load g5 rfl (rl_ret1 hQ)
    by_cases h1 : nI r.1 = nI f
    · exact rl_icmpT (by show some (decide (nI r.1 = nI f)) = some true; rw [decide_eq_true h1]) (bad (if_pos (Or.inl h1)))
    · refine rl_icmpF (by show some (decide (nI r.1 = nI f)) = some false; rw [decide_eq_false h1]) (rl_load g5 rfl (rl_load g2 rfl (rl_load g3 rfl (min_ok (by show 0 ≤ 8; omega) ?_))))
      by_cases h2 : txW r.2 lo hi = 0
      · exact rl_ifF (by show some (decide (¬ txW r.2 lo hi = 0)) = some false; rw [decide_eq_false (fun e => e h2)]) (bad (if_pos (Or.inr h2)))
      · refine rl_ifT (by show some (decide (¬ txW r.2 lo hi = 0)) = some true; rw [decide_eq_true h2]) ?_
        show Rt σ 186 (jump 186 99) _ _ _ _
        rw [j186_99]
        rw [show txFlt f r.1 r.2 lo hi = Int32.ofInt (-1) from if_neg (fun e => e.elim h1 h2), es] at hQ
        exact rl_load g5 rfl (rl_ret1 hQ)
end
end
section
theorem code_188 : codeOf 188 = [(0, (1, 0, 0)), (1, (0, 0, 100)), (3, (5, 1, 10)), (6, (0, 0, 0)), (7, (7, 0, 61)), (10, (1, 0, 0)), (11, (0, 0, 108)), (13, (5, 1, 20)), (16, (0, 0, 1)), (17, (7, 0, 61)), (20, (1, 0, 0)), (21, (0, 0, 99)), (23, (5, 1, 30)), (26, (0, 0, 2)), (27, (7, 0, 61)), (30, (1, 0, 0)), (31, (0, 0, 101)), (33, (5, 1, 40)), (36, (0, 0, 3)), (37, (7, 0, 61)), (40, (1, 0, 0)), (41, (0, 0, 104)), (43, (5, 1, 50)), (46, (0, 0, 4)), (47, (7, 0, 61)), (50, (1, 0, 0)), (51, (0, 0, 111)), (53, (5, 1, 60)), (56, (0, 0, 5)), (57, (7, 0, 61)), (60, (0, 0, -1)), (61, (13, 1, 0))] := by decide +kernel
theorem head_188 : codeOf 188 = [(0, (1, 0, 0)), (1, (0, 0, 100)), (3, (5, 1, 10)), (6, (0, 0, 0)), (7, (7, 0, 61))] ++ jump 188 10 := by rw [jump_jmp, code_188]; rfl
theorem j188_10 : jump 188 10 = [(10, (1, 0, 0)), (11, (0, 0, 108)), (13, (5, 1, 20)), (16, (0, 0, 1)), (17, (7, 0, 61))] ++ jump 188 20 := by rw [jump_jmp, jump_jmp, code_188]; rfl
theorem j188_20 : jump 188 20 = [(20, (1, 0, 0)), (21, (0, 0, 99)), (23, (5, 1, 30)), (26, (0, 0, 2)), (27, (7, 0, 61))] ++ jump 188 30 := by rw [jump_jmp, jump_jmp, code_188]; rfl
theorem j188_30 : jump 188 30 = [(30, (1, 0, 0)), (31, (0, 0, 101)), (33, (5, 1, 40)), (36, (0, 0, 3)), (37, (7, 0, 61))] ++ jump 188 40 := by rw [jump_jmp, jump_jmp, code_188]; rfl
theorem j188_40 : jump 188 40 = [(40, (1, 0, 0)), (41, (0, 0, 104)), (43, (5, 1, 50)), (46, (0, 0, 4)), (47, (7, 0, 61))] ++ jump 188 50 := by rw [jump_jmp, jump_jmp, code_188]; rfl
theorem j188_50 : jump 188 50 = [(50, (1, 0, 0)), (51, (0, 0, 111)), (53, (5, 1, 60)), (56, (0, 0, 5)), (57, (7, 0, 61))] ++ jump 188 60 := by rw [jump_jmp, jump_jmp, code_188]; rfl
theorem j188_60 : jump 188 60 = [(60, (0, 0, -1))] ++ jump 188 61 := by rw [jump_jmp, jump_jmp, code_188]; rfl
theorem j188_61 : jump 188 61 = [(61, (13, 1, 0))] := by rw [jump_jmp, code_188]; rfl
theorem code_182 : codeOf 182 = [(0, (1, 0, 2)), (1, (8, 104, 0)), (4, (0, 0, 0)), (5, (0, 0, 14)), (7, (11, 0, 0)), (8, (1, 0, 2)), (9, (8, 104, 0)), (12, (0, 0, 1)), (13, (0, 0, 2)), (14, (11, 0, 0)), (15, (1, 0, 2)), (16, (8, 104, 0)), (19, (0, 0, 2)), (20, (0, 0, 5)), (21, (11, 0, 0)), (22, (1, 0, 2)), (23, (8, 104, 0)), (26, (0, 0, 3)), (27, (0, 0, 0)), (28, (11, 0, 0)), (29, (1, 0, 2)), (30, (8, 104, 0)), (33, (0, 0, 4)), (34, (0, 0, 0)), (35, (11, 0, 0)), (36, (1, 0, 2)), (37, (8, 104, 0)), (40, (0, 0, 5)), (41, (0, 0, 40)), (43, (11, 0, 0)), (44, (1, 0, 2)), (45, (0, 0, 0)), (46, (9, 145, 0)), (49, (13, 0, 0))] := by decide +kernel
theorem head_182 : codeOf 182 = [(0, (1, 0, 2)), (1, (8, 104, 0)), (4, (0, 0, 0)), (5, (0, 0, 14)), (7, (11, 0, 0)), (8, (1, 0, 2)), (9, (8, 104, 0)), (12, (0, 0, 1)), (13, (0, 0, 2)), (14, (11, 0, 0)), (15, (1, 0, 2)), (16, (8, 104, 0)), (19, (0, 0, 2)), (20, (0, 0, 5)), (21, (11, 0, 0)), (22, (1, 0, 2)), (23, (8, 104, 0)), (26, (0, 0, 3)), (27, (0, 0, 0)), (28, (11, 0, 0)), (29, (1, 0, 2)), (30, (8, 104, 0)), (33, (0, 0, 4)), (34, (0, 0, 0)), (35, (11, 0, 0)), (36, (1, 0, 2)), (37, (8, 104, 0)), (40, (0, 0, 5)), (41, (0, 0, 40)), (43, (11, 0, 0)), (44, (1, 0, 2)), (45, (0, 0, 0)), (46, (9, 145, 0))] ++ jump 182 49 := by rw [jump_jmp, code_182]; rfl
theorem j182_49 : jump 182 49 = [(49, (13, 0, 0))] := by rw [jump_jmp, code_182]; rfl
theorem code_187 : codeOf 187 = [(0, (1, 0, 2)), (1, (12, 139, 0)), (4, (12, 143, 0)), (7, (2, 1, 0)), (8, (1, 1, 0)), (9, (0, 0, -1)), (10, (5, 0, 25)), (13, (1, 0, 2)), (14, (8, 145, 0)), (17, (1, 1, 0)), (18, (4, 9, 0)), (19, (0, 0, 1)), (20, (4, 5, 0)), (21, (0, 0, 1)), (22, (5, 1, 34)), (25, (1, 0, 2)), (26, (1, 0, 2)), (27, (8, 142, 0)), (30, (9, 144, 0)), (33, (13, 0, 0)), (34, (1, 0, 2)), (35, (18, 0, 0)), (36, (8, 145, 0)), (39, (0, 0, 1)), (40, (1, 1, 0)), (41, (4, 8, 0)), (42, (4, 6, 0)), (43, (9, 145, 0)), (46, (1, 0, 2)), (47, (18, 0, 0)), (48, (8, 142, 0)), (51, (0, 0, 1)), (52, (4, 0, 0)), (53, (9, 142, 0)), (56, (1, 0, 2)), (57, (8, 104, 0)), (60, (1, 1, 0)), (61, (1, 1, 0)), (62, (0, 0, 3)), (63, (5, 0, 71)), (66, (1, 1, 0)), (67, (0, 0, 4)), (68, (5, 1, 75)), (71, (0, 0, 1)), (72, (7, 0, 121)), (75, (1, 0, 2)), (76, (1, 1, 0)), (77, (0, 0, 5)), (78, (5, 1, 85)), (81, (0, 0, 3)), (82, (7, 0, 86)), (85, (0, 0, 2)), (86, (1, 1, 0)), (87, (6, 1, 94)), (90, (0, 0, 1)), (91, (7, 0, 95)), (94, (0, 0, 0)), (95, (1, 1, 0)), (96, (0, 0, 1)), (97, (5, 1, 105)), (100, (0, 0, 9)), (102, (7, 0, 118)), (105, (1, 1, 0)), (106, (0, 0, 5)), (107, (5, 1, 116)), (110, (0, 0, 999)), (113, (7, 0, 118)), (116, (0, 0, 99)), (118, (12, 142, 0)), (121, (11, 0, 0)), (122, (13, 0, 0))] := by decide +kernel
theorem head_187 : codeOf 187 = [(0, (1, 0, 2)), (1, (12, 139, 0)), (4, (12, 143, 0)), (7, (2, 1, 0)), (8, (1, 1, 0)), (9, (0, 0, -1)), (10, (5, 0, 25)), (13, (1, 0, 2)), (14, (8, 145, 0)), (17, (1, 1, 0)), (18, (4, 9, 0)), (19, (0, 0, 1)), (20, (4, 5, 0)), (21, (0, 0, 1)), (22, (5, 1, 34))] ++ jump 187 25 := by rw [jump_jmp, code_187]; rfl
theorem j187_25 : jump 187 25 = [(25, (1, 0, 2)), (26, (1, 0, 2)), (27, (8, 142, 0)), (30, (9, 144, 0)), (33, (13, 0, 0))] ++ jump 187 34 := by rw [jump_jmp, jump_jmp, code_187]; rfl
theorem j187_34 : jump 187 34 = [(34, (1, 0, 2)), (35, (18, 0, 0)), (36, (8, 145, 0)), (39, (0, 0, 1)), (40, (1, 1, 0)), (41, (4, 8, 0)), (42, (4, 6, 0)), (43, (9, 145, 0)), (46, (1, 0, 2)), (47, (18, 0, 0)), (48, (8, 142, 0)), (51, (0, 0, 1)), (52, (4, 0, 0)), (53, (9, 142, 0)), (56, (1, 0, 2)), (57, (8, 104, 0)), (60, (1, 1, 0)), (61, (1, 1, 0)), (62, (0, 0, 3)), (63, (5, 0, 71)), (66, (1, 1, 0)), (67, (0, 0, 4)), (68, (5, 1, 75))] ++ jump 187 71 := by rw [jump_jmp, jump_jmp, code_187]; rfl
theorem j187_71 : jump 187 71 = [(71, (0, 0, 1)), (72, (7, 0, 121))] ++ jump 187 75 := by rw [jump_jmp, jump_jmp, code_187]; rfl
theorem j187_75 : jump 187 75 = [(75, (1, 0, 2)), (76, (1, 1, 0)), (77, (0, 0, 5)), (78, (5, 1, 85)), (81, (0, 0, 3)), (82, (7, 0, 86))] ++ jump 187 85 := by rw [jump_jmp, jump_jmp, code_187]; rfl
theorem j187_85 : jump 187 85 = [(85, (0, 0, 2))] ++ jump 187 86 := by rw [jump_jmp, jump_jmp, code_187]; rfl
theorem j187_86 : jump 187 86 = [(86, (1, 1, 0)), (87, (6, 1, 94)), (90, (0, 0, 1)), (91, (7, 0, 95))] ++ jump 187 94 := by rw [jump_jmp, jump_jmp, code_187]; rfl
theorem j187_94 : jump 187 94 = [(94, (0, 0, 0))] ++ jump 187 95 := by rw [jump_jmp, jump_jmp, code_187]; rfl
theorem j187_95 : jump 187 95 = [(95, (1, 1, 0)), (96, (0, 0, 1)), (97, (5, 1, 105)), (100, (0, 0, 9)), (102, (7, 0, 118))] ++ jump 187 105 := by rw [jump_jmp, jump_jmp, code_187]; rfl
theorem j187_105 : jump 187 105 = [(105, (1, 1, 0)), (106, (0, 0, 5)), (107, (5, 1, 116)), (110, (0, 0, 999)), (113, (7, 0, 118))] ++ jump 187 116 := by rw [jump_jmp, jump_jmp, code_187]; rfl
theorem j187_116 : jump 187 116 = [(116, (0, 0, 99))] ++ jump 187 118 := by rw [jump_jmp, jump_jmp, code_187]; rfl
theorem j187_118 : jump 187 118 = [(118, (12, 142, 0))] ++ jump 187 121 := by rw [jump_jmp, jump_jmp, code_187]; rfl
theorem j187_121 : jump 187 121 = [(121, (11, 0, 0)), (122, (13, 0, 0))] := by rw [jump_jmp, code_187]; rfl
theorem spec_137 : spec 137 = (1, 0, [(11, 182)]) := by decide +kernel
theorem spec_141 : spec 141 = (1, 0, [(11, 187)]) := by decide +kernel
theorem spec_142 : spec 142 = (1, 3, [(11, 186)]) := by decide +kernel
theorem spec_143 : spec 143 = (0, 1, [(0, 188)]) := by decide +kernel
theorem ml_md2 : (Nat.ble 1 (mL 182) && (Nat.ble 1 (mL 187) && Nat.ble 1 (mL 188))) = true := by decide +kernel
noncomputable def msL (s : MDS) (l : List Int32) : MDS := (s.1, s.2.1, s.2.2.1, s.2.2.2.1, l)
noncomputable def msS (s : MDS) (x : Int32) : MDS := (s.1, s.2.1, s.2.2.1, x, s.2.2.2.2)
section
variable {σ : Nat → Nat} {h : AH} {m ol ot oy M M' pc a n b q k p : Nat} {A B : List Value} {s : MDS} {bs : List Int32} {c : Int} {tl : List (Nat × AI)} {L : LV} {S fs : List Value} {Q : Option Value → AH → Prop}
theorem M_let1 {x : Int32} {z : Int} {i t u : Nat} {p1 p2 p3 p4 : Nat} (hj : jump 188 t = [(t, (1, 0, 0)), (p1, (0, 0, z)), (p2, (5, 1, (u : Int))), (p3, (0, 0, (i : Int))), (p4, (7, 0, 61))] ++ jump 188 u) (hi : Int32.ofInt (i : Int) = nI i)
    (hQ1 : x = Int32.ofInt z → Q (some (.int (nI i))) h) (hQ0 : x ≠ Int32.ofInt z → Rt σ 188 (jump 188 u) (am_args 0 [.int x]) [] h Q) : Rt σ 188 (jump 188 t) (am_args 0 [.int x]) [] h Q := by
  rw [hj]
  refine rl_load rfl rfl (rl_const ?_)
  by_cases e : x = Int32.ofInt z
  · refine rl_icmpF (by show some (decide (¬ x = Int32.ofInt z)) = some false; rw [decide_eq_false (fun h => h e)]) (rl_const (rl_goto ?_))
    show Rt σ 188 (jump 188 61) _ _ _ _
    rw [j188_61, hi]
    exact rl_ret1 (hQ1 e)
  · refine rl_icmpT (by show some (decide (¬ x = Int32.ofInt z)) = some true; rw [decide_eq_true e]) ?_
    show Rt σ 188 (jump 188 u) _ _ _ _
    exact hQ0 e
theorem M_letter {x : Int32} (hQ : Q (some (.int (txLf (Tab 1) 0 x))) h) : Rt σ 188 (codeOf 188) (am_args 0 [.int x]) [] h Q := by
  have e0 : txLf (Tab 1) 0 x = if x = Int32.ofInt 100 then nI 0 else if x = Int32.ofInt 108 then nI 1 else if x = Int32.ofInt 99 then nI 2 else if x = Int32.ofInt 101 then nI 3 else if x = Int32.ofInt 104 then nI 4 else if x = Int32.ofInt 111 then nI 5 else Int32.ofInt (-1) := rfl
  rw [e0] at hQ
  have h0 : codeOf 188 = jump 188 0 := by rw [jump_jmp, code_188]; rfl
  have hj0 : jump 188 0 = [(0, (1, 0, 0)), (1, (0, 0, 100)), (3, (5, 1, 10)), (6, (0, 0, 0)), (7, (7, 0, 61))] ++ jump 188 10 := by rw [← h0]; exact head_188
  rw [h0]
  refine M_let1 (i := 0) hj0 (by decide +kernel) (fun e => by rw [if_pos e] at hQ; exact hQ) fun e => ?_
  rw [if_neg e] at hQ
  refine M_let1 (i := 1) j188_10 (by decide +kernel) (fun e => by rw [if_pos e] at hQ; exact hQ) fun e => ?_
  rw [if_neg e] at hQ
  refine M_let1 (i := 2) j188_20 (by decide +kernel) (fun e => by rw [if_pos e] at hQ; exact hQ) fun e => ?_
  rw [if_neg e] at hQ
  refine M_let1 (i := 3) j188_30 (by decide +kernel) (fun e => by rw [if_pos e] at hQ; exact hQ) fun e => ?_
  rw [if_neg e] at hQ
  refine M_let1 (i := 4) j188_40 (by decide +kernel) (fun e => by rw [if_pos e] at hQ; exact hQ) fun e => ?_
  rw [if_neg e] at hQ
  refine M_let1 (i := 5) j188_50 (by decide +kernel) (fun e => by rw [if_pos e] at hQ; exact hQ) fun e => ?_
  rw [if_neg e] at hQ
  rw [j188_60, j188_61]
  exact rl_const (rl_ret1 hQ)
end
end
section
/-- the bits of what came -/
noncomputable def csB (u : Nat) : List Int32 := (List.range 6).map (fun i => if (u / 2 ^ i) % 2 = 1 then Int32.ofInt 1 else Int32.ofInt 0)
noncomputable def setB (u w : Nat) : Nat := if (u / 2 ^ w) % 2 = 1 then u else u + 2 ^ w
theorem bits_ck : (List.range 64).all (fun u => (List.range 6).all (fun w => decide (((nI u >>> (nI w &&& 31)) &&& Int32.ofInt 1 = Int32.ofInt 1 ↔ (csB u).getD w 0 ≠ 0)) && (decide (nI u ||| (Int32.ofInt 1 <<< (nI w &&& 31)) = nI (setB u w)) && (decide (csB (setB u w) = (csB u).set w 1) && decide (setB u w < 64))))) = true := by decide +kernel
theorem bits_ok {u w : Nat} (hu : u < 64) (hw : w < 6) : ((nI u >>> (nI w &&& 31)) &&& Int32.ofInt 1 = Int32.ofInt 1 ↔ (csB u).getD w 0 ≠ 0) ∧ (nI u ||| (Int32.ofInt 1 <<< (nI w &&& 31)) = nI (setB u w) ∧ (csB (setB u w) = (csB u).set w 1 ∧ setB u w < 64)) := by
  obtain ⟨h1, h2⟩ := and2 (List.all_eq_true.mp (List.all_eq_true.mp bits_ck u (List.mem_range.mpr hu)) w (List.mem_range.mpr hw))
  obtain ⟨h2, h3⟩ := and2 h2
  obtain ⟨h3, h4⟩ := and2 h3
  exact ⟨of_decide_eq_true h1, of_decide_eq_true h2, of_decide_eq_true h3, of_decide_eq_true h4⟩
section
variable {σ : Nat → Nat} {h : AH} {m ol ot oy M M' pc a n b q k p : Nat} {A B : List Value} {s : MDS} {bs : List Int32} {c : Int} {tl : List (Nat × AI)} {L : LV} {S fs : List Value} {Q : Option Value → AH → Prop}
theorem mt_ss {x : Int32} (hA : A.length = 25) (hk : Rt σ M tl L S (mdH h m ol A B (msS s x)) Q) : Rt σ M ((pc, (9, 145, c)) :: tl) L (.int x :: .ref m :: S) (mdH h m ol A B s) Q := by
  refine rl_put md_m f_md.2.2.2.2.2.2 ?_ (by rw [dc_md.2.2.2]; rfl) ?_
  · rw [p_md.2.2.2.2.2.2]
    show 29 < (A ++ _).length
    rw [List.length_append, hA]
    show 29 < 25 + (B.length + 5)
    omega
  · rw [p_md.2.2.2.2.2.2, md_set (s := s) (s' := msS s x) (i := 29) (v := .int x) (md_s hA (i := 29) (k := 4) rfl) rfl]
    exact hk
theorem mt_sl {x : Int32} {w : Nat} (hd : MdD h m ol ot oy A b n bs) (hw : w < 6) (hl : s.2.2.2.2.length = 6) (hk : Rt σ M tl L S (mdH h m ol A B (msL s (s.2.2.2.2.set w x))) Q) : Rt σ M ((pc, (11, 0, c)) :: tl) L (.int x :: .int (nI w) :: .ref ol :: S) (mdH h m ol A B s) Q := by
  have e := (nI_nn (show w < 2147483648 by omega)).2
  refine rl_ast (md_l hd) rfl (nI_nn (by omega)).1 (by rw [e, List.length_map, hl]; exact hw) ?_
  rw [e]
  have e2 : am_set (mdH h m ol A B s) ol (20, (s.2.2.2.2.map Value.int).set w (.int x)) = mdH h m ol A B (msL s (s.2.2.2.2.set w x)) := by
    unfold am_set mdH
    refine Prod.ext (funext fun a => ?_) rfl
    dsimp only
    by_cases e1 : a = ol
    · rw [if_pos e1, if_neg (fun e => hd.2.1.1 (e.symm.trans e1)), if_pos e1]
      show some (20, _) = some (20, (s.2.2.2.2.set w x).map Value.int)
      rw [List.map_set]
    · rw [if_neg e1, if_neg e1, if_neg e1]
      rfl
  rw [e2]
  exact hk
theorem M_no (hd : MdD h m ol ot oy A b n bs) (hl : s.2.2.2.2.length = 6) (hQ : Q none (mdH h m ol A B (msS (msL s txD0) (nI 0)))) : Rt σ 182 (codeOf 182) (am_args 0 [.ref m]) [] (mdH h m ol A B s) Q := by
  have hA := hd.1.1
  rw [code_182]
  have st : ∀ {w : Nat} {z : Int} {cz : Int} {l : List Int32} {p1 p2 p3 p4 p5 : Nat} {c1 c2 c3 c4 : Int} {tl : List (Nat × AI)}, Int32.ofInt cz = nI w → w < 6 → l.length = 6 → Rt σ 182 tl (am_args 0 [.ref m]) [] (mdH h m ol A B (msL s (l.set w (Int32.ofInt z)))) Q → Rt σ 182 ((p1, (1, 0, 2)) :: (p2, (8, 104, c1)) :: (p3, (0, 0, cz)) :: (p4, (0, 0, z)) :: (p5, (11, 0, c4)) :: tl) (am_args 0 [.ref m]) [] (mdH h m ol A B (msL s l)) Q := by
    intro w z cz l p1 p2 p3 p4 p5 c1 c2 c3 c4 tl hc hw hl2 hk
    refine rl_load rfl rfl (mt_la hA (rl_const (rl_const ?_)))
    rw [hc]
    exact mt_sl hd hw hl2 hk
  have e0 : mdH h m ol A B s = mdH h m ol A B (msL s s.2.2.2.2) := rfl
  rw [e0]
  refine st (w := 0) (c2 := 0) (c3 := 0) (by decide +kernel) (by omega) hl ?_
  refine st (w := 1) (c2 := 0) (c3 := 0) (by decide +kernel) (by omega) (by rw [List.length_set]; exact hl) ?_
  refine st (w := 2) (c2 := 0) (c3 := 0) (by decide +kernel) (by omega) (by rw [List.length_set, List.length_set]; exact hl) ?_
  refine st (w := 3) (c2 := 0) (c3 := 0) (by decide +kernel) (by omega) (by rw [List.length_set, List.length_set, List.length_set]; exact hl) ?_
  refine st (w := 4) (c2 := 0) (c3 := 0) (by decide +kernel) (by omega) (by rw [List.length_set, List.length_set, List.length_set, List.length_set]; exact hl) ?_
  refine st (w := 5) (c2 := 0) (c3 := 0) (by decide +kernel) (by omega) (by rw [List.length_set, List.length_set, List.length_set, List.length_set, List.length_set]; exact hl) ?_
  refine rl_load rfl rfl (rl_const (mt_ss hA (rl_ret0 ?_)))
  have e1 : ∀ l : List Int32, l.length = 6 → (((((l.set 0 (Int32.ofInt 14)).set 1 (Int32.ofInt 2)).set 2 (Int32.ofInt 5)).set 3 (Int32.ofInt 0)).set 4 (Int32.ofInt 0)).set 5 (Int32.ofInt 40) = txD0 := by
    intro l h
    match l, h with
    | [a, b, c, d, e, f], _ => rfl
  rw [e1 _ hl]
  exact hQ
end
end
section
section
variable {σ : Nat → Nat} {h : AH} {m ol ot oy M M' pc a n b q k p : Nat} {A B : List Value} {s : MDS} {bs : List Int32} {c : Int} {tl : List (Nat × AI)} {L : LV} {S fs : List Value} {Q : Option Value → AH → Prop}
/-- the model's state behind a part -/
noncomputable def msR (s : MDS) (r : TXR) (u : Nat) : MDS := (s.1, nI r.2.1, r.1, nI u, r.2.2.2.1)
/-- what follows the letter: a lone one, or a number's bounds -/
theorem M_arg {w : Nat} (hw : w < 6) (hL0 : lv_get 0 L = some (.ref m)) (hL1 : lv_get 1 L = some (.int (nI w))) (H1 : Int32.ofInt ((Tab 2).getD w 0) = 0 → Rt σ 187 (jump 187 121) L (.int (Int32.ofInt 1) :: S) h Q)
    (H2 : Int32.ofInt ((Tab 2).getD w 0) ≠ 0 → Rt σ 187 (jump 187 118) L (.int (Int32.ofInt ((Tab 4).getD w 0)) :: .int (Int32.ofInt ((Tab 3).getD w 0)) :: .int (Int32.ofInt ((Tab 2).getD w 0)) :: .ref m :: S) h Q) :
    Rt σ 187 ([(61, (1, 1, 0)), (62, (0, 0, 3)), (63, (5, 0, 71)), (66, (1, 1, 0)), (67, (0, 0, 4)), (68, (5, 1, 75))] ++ jump 187 71) L S h Q := by
  have lone : Int32.ofInt ((Tab 2).getD w 0) = 0 → Rt σ 187 (jump 187 71) L S h Q := fun e => by
    rw [j187_71]
    exact rl_const (rl_goto (H1 e))
  have hc : w = 0 ∨ w = 1 ∨ w = 2 ∨ w = 3 ∨ w = 4 ∨ w = 5 := by omega
  rcases hc with rfl | rfl | rfl | rfl | rfl | rfl
  · refine rl_load hL1 rfl (rl_const (rl_icmpF (by decide +kernel) (rl_load hL1 rfl (rl_const (rl_icmpT (by decide +kernel) ?_)))))
    show Rt σ 187 (jump 187 75) _ _ _ _
    rw [j187_75]
    refine rl_load hL0 rfl (rl_load hL1 rfl (rl_const (rl_icmpT (by decide +kernel) ?_)))
    show Rt σ 187 (jump 187 85) _ _ _ _
    rw [j187_85, j187_86]
    refine rl_const (rl_load hL1 rfl (rl_ifF (by decide +kernel) (rl_const (rl_goto ?_))))
    show Rt σ 187 (jump 187 95) _ _ _ _
    rw [j187_95]
    refine rl_load hL1 rfl (rl_const (rl_icmpT (by decide +kernel) ?_))
    show Rt σ 187 (jump 187 105) _ _ _ _
    rw [j187_105]
    refine rl_load hL1 rfl (rl_const (rl_icmpT (by decide +kernel) ?_))
    show Rt σ 187 (jump 187 116) _ _ _ _
    rw [j187_116]
    exact rl_const (H2 (by decide +kernel))
  · refine rl_load hL1 rfl (rl_const (rl_icmpF (by decide +kernel) (rl_load hL1 rfl (rl_const (rl_icmpT (by decide +kernel) ?_)))))
    show Rt σ 187 (jump 187 75) _ _ _ _
    rw [j187_75]
    refine rl_load hL0 rfl (rl_load hL1 rfl (rl_const (rl_icmpT (by decide +kernel) ?_)))
    show Rt σ 187 (jump 187 85) _ _ _ _
    rw [j187_85, j187_86]
    refine rl_const (rl_load hL1 rfl (rl_ifT (by decide +kernel) ?_))
    show Rt σ 187 (jump 187 94) _ _ _ _
    rw [j187_94, j187_95]
    refine rl_const (rl_load hL1 rfl (rl_const (rl_icmpF (by decide +kernel) (rl_const (rl_goto (H2 (by decide +kernel)))))))
  · refine rl_load hL1 rfl (rl_const (rl_icmpF (by decide +kernel) (rl_load hL1 rfl (rl_const (rl_icmpT (by decide +kernel) ?_)))))
    show Rt σ 187 (jump 187 75) _ _ _ _
    rw [j187_75]
    refine rl_load hL0 rfl (rl_load hL1 rfl (rl_const (rl_icmpT (by decide +kernel) ?_)))
    show Rt σ 187 (jump 187 85) _ _ _ _
    rw [j187_85, j187_86]
    refine rl_const (rl_load hL1 rfl (rl_ifT (by decide +kernel) ?_))
    show Rt σ 187 (jump 187 94) _ _ _ _
    rw [j187_94, j187_95]
    refine rl_const (rl_load hL1 rfl (rl_const (rl_icmpT (by decide +kernel) ?_)))
    show Rt σ 187 (jump 187 105) _ _ _ _
    rw [j187_105]
    refine rl_load hL1 rfl (rl_const (rl_icmpT (by decide +kernel) ?_))
    show Rt σ 187 (jump 187 116) _ _ _ _
    rw [j187_116]
    exact rl_const (H2 (by decide +kernel))
  · exact rl_load hL1 rfl (rl_const (rl_icmpT (by decide +kernel) (lone (by decide +kernel))))
  · exact rl_load hL1 rfl (rl_const (rl_icmpF (by decide +kernel) (rl_load hL1 rfl (rl_const (rl_icmpF (by decide +kernel) (lone (by decide +kernel)))))))
  · refine rl_load hL1 rfl (rl_const (rl_icmpF (by decide +kernel) (rl_load hL1 rfl (rl_const (rl_icmpT (by decide +kernel) ?_)))))
    show Rt σ 187 (jump 187 75) _ _ _ _
    rw [j187_75]
    refine rl_load hL0 rfl (rl_load hL1 rfl (rl_const (rl_icmpF (by decide +kernel) (rl_const (rl_goto ?_)))))
    show Rt σ 187 (jump 187 86) _ _ _ _
    rw [j187_86]
    refine rl_load hL1 rfl (rl_ifT (by decide +kernel) ?_)
    show Rt σ 187 (jump 187 94) _ _ _ _
    rw [j187_94, j187_95]
    refine rl_const (rl_load hL1 rfl (rl_const (rl_icmpT (by decide +kernel) ?_)))
    show Rt σ 187 (jump 187 105) _ _ _ _
    rw [j187_105]
    exact rl_load hL1 rfl (rl_const (rl_icmpF (by decide +kernel) (rl_const (rl_goto (H2 (by decide +kernel))))))
theorem M_part {u : Nat} {nm : Int32} (hd : MdD h m ol ot oy A b n bs) (hp : p ≤ 60) (hu : u < 64) (e1 : s.1 = nI b) (e2 : s.2.1 = nI p) (e3 : s.2.2.1 = Int32.ofInt (-1)) (e4 : s.2.2.2.1 = nI u) (hl : s.2.2.2.2.length = 6)
    (hQ : ∀ u', u' < 64 → csB u' = (txPart bs n p nm s.2.2.2.2 (csB u)).2.2.2.2 → Q none (mdH h m ol A B (msR s (txPart bs n p nm s.2.2.2.2 (csB u)) u'))) : Rt σ 187 (codeOf 187) (am_args 0 [.ref m]) [] (mdH h m ol A B s) Q := by
  have hA := hd.1.1
  rw [head_187]
  have bad : txPart bs n p nm s.2.2.2.2 (csB u) = (nI p, p, nm, s.2.2.2.2, csB u) → ∀ L : LV, lv_get 0 L = some (.ref m) → Rt σ 187 (jump 187 25) L [] (mdH h m ol A B s) Q := by
    intro e L hL
    rw [e] at hQ
    have := hQ u hu rfl
    have es : msR s (nI p, p, nm, s.2.2.2.2, csB u) u = msF s (nI p) := by
      obtain ⟨a1, a2, a3, a4, a5⟩ := s
      have e2 : a2 = nI p := e2
      have e4 : a4 = nI u := e4
      rw [e2, e4]
      rfl
    rw [es] at this
    rw [j187_25]
    refine rl_load hL rfl (rl_load hL rfl (mt_at hA (mt_sf hA (rl_ret0 ?_))))
    rw [e2]
    exact this
  refine rl_load rfl rfl (mt_byte hd (by omega) e1 e2 (by show 0 ≤ 8; omega) (rl_calls (as := [.int (txN bs n p)]) (r := []) spec_143 rfl rfl (by show 0 ≤ 8; omega) ?_ (M_letter (rl_store rfl (rl_load rfl rfl (rl_const ?_))))))
  · unfold am_ok
    rw [decide_eq_true (show ([.int (txN bs n p)] : List Value).length ≤ mL 188 from blet (and2 (and2 ml_md2).2).2)]
    rfl
  show Rt σ 187 _ (lv_put 1 (.int (txLf (Tab 1) 0 (txN bs n p))) (am_args 0 [.ref m])) [.int (Int32.ofInt (-1)), .int (txLf (Tab 1) 0 (txN bs n p))] _ Q
  rcases txl_ln (c := txN bs n p) (Tab 1) 0 (by show 0 + 6 ≤ 6; omega) with ⟨h1, h2⟩ | ⟨w, h1, h2, h3, -⟩
  · rw [h2]
    refine rl_icmpT rfl (bad ?_ _ rfl)
    unfold txPart
    rw [h1]
  · have hpn := txl_pos h1
    obtain ⟨b1, b2, b3, b4⟩ := bits_ok hu h3
    rw [h2]
    refine rl_icmpF ?_ (rl_load rfl rfl (mt_se hA (rl_load rfl rfl (rl_bin rfl (rl_const (rl_bin rfl (rl_const ?_)))))))
    · show some (decide (nI w = Int32.ofInt (-1))) = some false
      rw [decide_eq_false]
      intro e
      have e3 := congrArg i2n e
      rw [nI_ok (by omega), show i2n (Int32.ofInt (-1)) = 2147483647 by decide +kernel] at e3
      omega
    · rw [e4]
      by_cases hcm : (csB u).getD w 0 ≠ 0
      · refine rl_icmpF ?_ (bad ?_ _ rfl)
        · show some (decide (¬ (nI u >>> (nI w &&& 31)) &&& Int32.ofInt 1 = Int32.ofInt 1)) = some false
          rw [decide_eq_false (fun e => e (b1.mpr hcm))]
        · unfold txPart
          rw [h1]
          exact if_pos hcm
      · refine rl_icmpT ?_ ?_
        · show some (decide (¬ (nI u >>> (nI w &&& 31)) &&& Int32.ofInt 1 = Int32.ofInt 1)) = some true
          refine congrArg some (decide_eq_true ?_)
          exact fun e => hcm (b1.mp e)
        show Rt σ 187 (jump 187 34) _ _ _ _
        have hj : jump 187 34 = [(34, (1, 0, 2)), (35, (18, 0, 0)), (36, (8, 145, 0)), (39, (0, 0, 1)), (40, (1, 1, 0)), (41, (4, 8, 0)), (42, (4, 6, 0)), (43, (9, 145, 0)), (46, (1, 0, 2)), (47, (18, 0, 0)), (48, (8, 142, 0)), (51, (0, 0, 1)), (52, (4, 0, 0)), (53, (9, 142, 0)), (56, (1, 0, 2)), (57, (8, 104, 0)), (60, (1, 1, 0))] ++ ([(61, (1, 1, 0)), (62, (0, 0, 3)), (63, (5, 0, 71)), (66, (1, 1, 0)), (67, (0, 0, 4)), (68, (5, 1, 75))] ++ jump 187 71) := j187_34
        rw [hj]
        refine rl_load rfl rfl (rl_dup rfl (mt_se hA (rl_const (rl_load rfl rfl (rl_bin rfl (rl_bin rfl (mt_ss hA (rl_load rfl rfl (rl_dup rfl (mt_at hA (rl_const (rl_bin rfl (mt_sa hA (rl_load rfl rfl (mt_la hA (rl_load rfl rfl ?_))))))))))))))))
        rw [e4, b2, show (msS s (nI (setB u w))).2.1 = nI p from e2, nI_suc (by omega)]
        refine M_arg h3 rfl rfl (fun hfg => ?_) (fun hfg => ?_)
        · have e5 : txPart bs n p nm s.2.2.2.2 (csB u) = (Int32.ofInt (-1), p + 1, nm, s.2.2.2.2.set w 1, (csB u).set w 1) := by
            unfold txPart
            rw [h1]
            dsimp only
            rw [if_neg hcm, if_pos hfg]
          rw [e5] at hQ
          rw [j187_121]
          refine mt_sl hd h3 hl (rl_ret0 ?_)
          have := hQ (setB u w) b4 b3
          have es : msR s (Int32.ofInt (-1), p + 1, nm, s.2.2.2.2.set w 1, (csB u).set w 1) (setB u w) = msL (msA (msS s (nI (setB u w))) (nI (p + 1))) (s.2.2.2.2.set w (Int32.ofInt 1)) := by
            obtain ⟨a1, a2, a3, a4, a5⟩ := s
            have e3 : a3 = Int32.ofInt (-1) := e3
            rw [e3]
            rfl
          rw [es] at this
          exact this
        · obtain ⟨fg1, fg2⟩ := fig_nI h3
          have e5 : txPart bs n p nm s.2.2.2.2 (csB u) = (txFlt (p + 1) (txNum bs n ((Tab 2).getD w 0).toNat (p + 1) 0).1 (txNum bs n ((Tab 2).getD w 0).toNat (p + 1) 0).2 (Int32.ofInt ((Tab 3).getD w 0)) (Int32.ofInt ((Tab 4).getD w 0)),
      (txNum bs n ((Tab 2).getD w 0).toNat (p + 1) 0).1, (txNum bs n ((Tab 2).getD w 0).toNat (p + 1) 0).2, s.2.2.2.2.set w (txNum bs n ((Tab 2).getD w 0).toNat (p + 1) 0).2, (csB u).set w 1) := by
            unfold txPart
            rw [h1]
            dsimp only
            rw [if_neg hcm, if_neg hfg]
          rw [e5] at hQ
          rw [j187_118, fg1]
          refine rl_callv (as := [.int (nI ((Tab 2).getD w 0).toNat), .int (Int32.ofInt ((Tab 3).getD w 0)), .int (Int32.ofInt ((Tab 4).getD w 0))]) (r := [.int (nI w), .ref ol]) spec_142 rfl rfl md_m (by show 2 ≤ 8; omega) ?_ (M_num hd fg2 (by omega) e1 rfl e3 ?_)
          · unfold am_ok
            rw [decide_eq_true (show ([.ref m, .int (nI ((Tab 2).getD w 0).toNat), .int (Int32.ofInt ((Tab 3).getD w 0)), .int (Int32.ofInt ((Tab 4).getD w 0))] : List Value).length ≤ mL 186 from blet (and2 (and2 ml_md).2).2)]
            rfl
          · rw [j187_121]
            exact mt_sl hd h3 hl (rl_ret0 (hQ (setB u w) b4 b3))
end
end
section
theorem code_181 : codeOf 181 = [(0, (1, 0, 2)), (1, (1, 1, 0)), (2, (9, 143, 0)), (5, (1, 0, 2)), (6, (0, 0, 0)), (7, (9, 142, 0)), (10, (1, 0, 2)), (11, (0, 0, -1)), (12, (9, 144, 0)), (15, (1, 0, 2)), (16, (12, 137, 0)), (19, (1, 0, 2)), (20, (8, 102, 0)), (23, (1, 1, 0)), (24, (10, 0, 0)), (25, (6, 5, 32)), (28, (0, 0, 1)), (29, (7, 0, 33)), (32, (0, 0, 0)), (33, (2, 2, 0)), (34, (1, 2, 0)), (35, (6, 0, 105)), (38, (1, 0, 2)), (39, (12, 138, 0)), (42, (1, 0, 2)), (43, (8, 144, 0)), (46, (0, 0, -1)), (47, (5, 1, 67)), (50, (1, 0, 2)), (51, (8, 142, 0)), (54, (1, 0, 2)), (55, (8, 102, 0)), (58, (1, 1, 0)), (59, (10, 0, 0)), (60, (5, 3, 67)), (63, (0, 0, 1)), (64, (7, 0, 68)), (67, (0, 0, 0)), (68, (2, 2, 0)), (69, (1, 2, 0)), (70, (6, 0, 92)), (73, (1, 0, 2)), (74, (12, 139, 0)), (77, (0, 0, 59)), (79, (5, 0, 92)), (82, (1, 0, 2)), (83, (1, 0, 2)), (84, (8, 142, 0)), (87, (9, 144, 0)), (90, (0, 0, 0)), (91, (2, 2, 0)), (92, (1, 0, 2)), (93, (18, 0, 0)), (94, (8, 142, 0)), (97, (0, 0, 1)), (98, (4, 0, 0)), (99, (9, 142, 0)), (102, (7, 0, 34)), (105, (1, 0, 2)), (106, (8, 144, 0)), (109, (0, 0, -1)), (110, (5, 0, 117)), (113, (1, 0, 2)), (114, (12, 137, 0)), (117, (1, 0, 2)), (118, (8, 144, 0)), (121, (13, 1, 0))] := by decide +kernel
theorem head_181 : codeOf 181 = [(0, (1, 0, 2)), (1, (1, 1, 0)), (2, (9, 143, 0)), (5, (1, 0, 2)), (6, (0, 0, 0)), (7, (9, 142, 0)), (10, (1, 0, 2)), (11, (0, 0, -1)), (12, (9, 144, 0)), (15, (1, 0, 2)), (16, (12, 137, 0)), (19, (1, 0, 2)), (20, (8, 102, 0)), (23, (1, 1, 0)), (24, (10, 0, 0)), (25, (6, 5, 32)), (28, (0, 0, 1)), (29, (7, 0, 33))] ++ jump 181 32 := by rw [jump_jmp, code_181]; rfl
theorem j181_32 : jump 181 32 = [(32, (0, 0, 0))] ++ jump 181 33 := by rw [jump_jmp, jump_jmp, code_181]; rfl
theorem j181_33 : jump 181 33 = [(33, (2, 2, 0))] ++ jump 181 34 := by rw [jump_jmp, jump_jmp, code_181]; rfl
theorem j181_34 : jump 181 34 = [(34, (1, 2, 0)), (35, (6, 0, 105)), (38, (1, 0, 2)), (39, (12, 138, 0)), (42, (1, 0, 2)), (43, (8, 144, 0)), (46, (0, 0, -1)), (47, (5, 1, 67)), (50, (1, 0, 2)), (51, (8, 142, 0)), (54, (1, 0, 2)), (55, (8, 102, 0)), (58, (1, 1, 0)), (59, (10, 0, 0)), (60, (5, 3, 67)), (63, (0, 0, 1)), (64, (7, 0, 68))] ++ jump 181 67 := by rw [jump_jmp, jump_jmp, code_181]; rfl
theorem j181_67 : jump 181 67 = [(67, (0, 0, 0))] ++ jump 181 68 := by rw [jump_jmp, jump_jmp, code_181]; rfl
theorem j181_68 : jump 181 68 = [(68, (2, 2, 0)), (69, (1, 2, 0)), (70, (6, 0, 92)), (73, (1, 0, 2)), (74, (12, 139, 0)), (77, (0, 0, 59)), (79, (5, 0, 92)), (82, (1, 0, 2)), (83, (1, 0, 2)), (84, (8, 142, 0)), (87, (9, 144, 0)), (90, (0, 0, 0)), (91, (2, 2, 0))] ++ jump 181 92 := by rw [jump_jmp, jump_jmp, code_181]; rfl
theorem j181_92 : jump 181 92 = [(92, (1, 0, 2)), (93, (18, 0, 0)), (94, (8, 142, 0)), (97, (0, 0, 1)), (98, (4, 0, 0)), (99, (9, 142, 0)), (102, (7, 0, 34))] ++ jump 181 105 := by rw [jump_jmp, jump_jmp, code_181]; rfl
theorem j181_105 : jump 181 105 = [(105, (1, 0, 2)), (106, (8, 144, 0)), (109, (0, 0, -1)), (110, (5, 0, 117)), (113, (1, 0, 2)), (114, (12, 137, 0))] ++ jump 181 117 := by rw [jump_jmp, jump_jmp, code_181]; rfl
theorem j181_117 : jump 181 117 = [(117, (1, 0, 2)), (118, (8, 144, 0)), (121, (13, 1, 0))] := by rw [jump_jmp, code_181]; rfl
theorem code_183 : codeOf 183 = [(0, (1, 0, 2)), (1, (8, 143, 0)), (4, (0, 0, 4)), (5, (5, 1, 15)), (8, (1, 0, 2)), (9, (12, 140, 0)), (12, (7, 0, 19)), (15, (1, 0, 2)), (16, (12, 141, 0)), (19, (13, 0, 0))] := by decide +kernel
theorem head_183 : codeOf 183 = [(0, (1, 0, 2)), (1, (8, 143, 0)), (4, (0, 0, 4)), (5, (5, 1, 15)), (8, (1, 0, 2)), (9, (12, 140, 0)), (12, (7, 0, 19))] ++ jump 183 15 := by rw [jump_jmp, code_183]; rfl
theorem j183_15 : jump 183 15 = [(15, (1, 0, 2)), (16, (12, 141, 0))] ++ jump 183 19 := by rw [jump_jmp, jump_jmp, code_183]; rfl
theorem j183_19 : jump 183 19 = [(19, (13, 0, 0))] := by rw [jump_jmp, code_183]; rfl
theorem code_180 : codeOf 180 = [(0, (1, 0, 2)), (1, (1, 1, 0)), (2, (12, 136, 0)), (5, (2, 3, 0)), (6, (1, 0, 2)), (7, (8, 104, 0)), (10, (1, 2, 0)), (11, (10, 0, 0)), (12, (13, 1, 0))] := by decide +kernel
theorem head_180 : codeOf 180 = [(0, (1, 0, 2)), (1, (1, 1, 0)), (2, (12, 136, 0))] ++ jump 180 5 := by rw [jump_jmp, code_180]; rfl
theorem j180_5 : jump 180 5 = [(5, (2, 3, 0)), (6, (1, 0, 2)), (7, (8, 104, 0)), (10, (1, 2, 0)), (11, (10, 0, 0)), (12, (13, 1, 0))] := by rw [jump_jmp, code_180]; rfl
theorem spec_138 : spec 138 = (1, 0, [(11, 183)]) := by decide +kernel
theorem spec_136 : spec 136 = (1, 1, [(11, 181)]) := by decide +kernel
theorem ml_md3 : (Nat.ble 1 (mL 183) && (Nat.ble 2 (mL 181) && Nat.ble 3 (mL 180))) = true := by decide +kernel
section
variable {σ : Nat → Nat} {h : AH} {m ol ot oy M M' pc a n b q k p : Nat} {A B : List Value} {s : MDS} {bs : List Int32} {c : Int} {tl : List (Nat × AI)} {L : LV} {S fs : List Value} {Q : Option Value → AH → Prop}
theorem num_ge : ∀ {k p : Nat} {a : Int32}, p ≤ (txNum bs n k p a).1 := by
  intro k
  induction k with
  | zero => intro p a; exact Nat.le_refl _
  | succ k ih =>
    intro p a
    rw [txNum]
    by_cases hw : txW (txN bs n p) (Int32.ofInt 48) (Int32.ofInt 57) = 0
    · rw [if_pos hw]; exact Nat.le_refl _
    · rw [if_neg hw]
      exact Nat.le_trans (Nat.le_succ p) ih
theorem nI_m1 {p : Nat} (hp : p ≤ 100) : nI p ≠ Int32.ofInt (-1) := by
  intro e
  have e3 := congrArg i2n e
  rw [nI_ok (by omega), show i2n (Int32.ofInt (-1)) = 2147483647 by decide +kernel] at e3
  omega
theorem part_ge {nm : Int32} {vs cs : List Int32} (hp : p ≤ 60) (h1 : (txPart bs n p nm vs cs).1 = Int32.ofInt (-1)) : p + 1 ≤ (txPart bs n p nm vs cs).2.1 := by
  unfold txPart at h1 ⊢
  cases hw : txLn (Tab 1) 0 (txN bs n p) with
  | none =>
    rw [hw] at h1
    exact absurd h1 (nI_m1 (by omega))
  | some w =>
    rw [hw] at h1
    dsimp only at h1 ⊢
    by_cases h2 : cs.getD w 0 ≠ 0
    · rw [if_pos h2] at h1
      exact absurd h1 (nI_m1 (by omega))
    · rw [if_neg h2]
      by_cases h3 : Int32.ofInt ((Tab 2).getD w 0) = 0
      · rw [if_pos h3]; exact Nat.le_refl _
      · rw [if_neg h3]; exact num_ge
theorem M_rp {u : Nat} {nm : Int32} (hd : MdD h m ol ot oy A b n bs) (hb : b < 4) (hp : p ≤ 60) (hu : u < 64) (e1 : s.1 = nI b) (e2 : s.2.1 = nI p) (e3 : s.2.2.1 = Int32.ofInt (-1)) (e4 : s.2.2.2.1 = nI u) (hl : s.2.2.2.2.length = 6)
    (hQ : ∀ u', u' < 64 → csB u' = (txPart bs n p nm s.2.2.2.2 (csB u)).2.2.2.2 → Q none (mdH h m ol A B (msR s (txPart bs n p nm s.2.2.2.2 (csB u)) u'))) : Rt σ 183 (codeOf 183) (am_args 0 [.ref m]) [] (mdH h m ol A B s) Q := by
  have hA := hd.1.1
  rw [head_183]
  refine rl_load rfl rfl (mt_tn hA (rl_const (rl_icmpT ?_ ?_)))
  · rw [e1]
    have hc : b = 0 ∨ b = 1 ∨ b = 2 ∨ b = 3 := by omega
    rcases hc with rfl | rfl | rfl | rfl <;> decide +kernel
  · show Rt σ 183 (jump 183 15) _ _ _ _
    rw [j183_15]
    refine rl_load rfl rfl (rl_callv (as := []) (r := []) spec_141 rfl rfl md_m (by show 0 ≤ 8; omega) (ref_ok (blet (and2 (and2 ml_md2).2).1)) (M_part (nm := nm) hd hp hu e1 e2 e3 e4 hl fun u' h1 h2 => ?_))
    rw [j183_19]
    exact rl_ret0 (hQ u' h1 h2)
theorem mt_typed1 (hd : MdD h m ol ot oy A b n bs) {pc1 pc2 pc3 : Nat} {c1 c3 : Int} (hL : lv_get 0 L = some (.ref m)) (hL1 : lv_get 1 L = some (.int (nI b))) (hk : Rt σ M tl L (.int (nI n) :: S) (mdH h m ol A B s) Q) : Rt σ M ((pc, (1, 0, 2)) :: (pc1, (8, 102, c1)) :: (pc2, (1, 1, 0)) :: (pc3, (10, 0, c3)) :: tl) L S (mdH h m ol A B s) Q := by
  obtain ⟨⟨a1, a2, a3⟩, ⟨d1, d2, d3, d4, d5⟩, hb, hn, ⟨ty, t1, t2⟩, -⟩ := id hd
  refine rl_load hL rfl (mt_ty hd (rl_load hL1 rfl ?_))
  refine rl_ald ((md_o d2.symm d4.symm).trans t1) rfl (nI_nn (by omega)).1 ?_ hk
  rw [(nI_nn (by omega)).2, List.getElem?_map, t2]
  rfl
theorem M_reads_loop (hd : MdD h m ol ot oy A b n bs) (hb : b < 4) : ∀ (k p : Nat) (nm : Int32) (s : MDS) (u : Nat) (L : LV), lv_get 0 L = some (.ref m) → lv_get 1 L = some (.int (nI b)) → lv_get 2 L = some (.int 1) → p ≤ n → k ≤ 60 → 2 * (60 - k) ≤ p → u < 64 → s.1 = nI b → s.2.1 = nI p → s.2.2.1 = Int32.ofInt (-1) → s.2.2.2.1 = nI u → s.2.2.2.2.length = 6 →
    (∀ s' L', lv_get 0 L' = some (.ref m) → s'.1 = nI b → s'.2.2.1 = (txParts bs n k p nm s.2.2.2.2 (csB u)).1 → s'.2.2.2.2 = (txParts bs n k p nm s.2.2.2.2 (csB u)).2.2.2.1 → Rt σ 181 (jump 181 105) L' [] (mdH h m ol A B s') Q) → Rt σ 181 (jump 181 34) L [] (mdH h m ol A B s) Q := by
  have hA := hd.1.1
  have hn := hd.2.2.2.1
  intro k
  induction k with
  | zero => intro p nm s u L _ _ _ hp _ h2 _ _ _ _ _ _ _; omega
  | succ k ih =>
    intro p nm s u L g0 g1 g2 hp hk h2 hu e1 e2 e3 e4 hl hQ
    obtain ⟨b1, b2, b3⟩ := part_le (bs := bs) (nm := nm) (vs := s.2.2.2.2) (cs := csB u) hp
    have b4 := part_ge (bs := bs) (n := n) (nm := nm) (vs := s.2.2.2.2) (cs := csB u) (p := p) (by omega)
    rw [txParts] at hQ
    rw [j181_34]
    refine rl_load g2 rfl (rl_ifF rfl (rl_load g0 rfl (rl_callv (as := []) (r := []) spec_138 rfl rfl md_m (by show 0 ≤ 8; omega) (ref_ok (blet (and2 ml_md3).1)) (M_rp (nm := nm) hd hb (by omega) hu e1 e2 e3 e4 hl fun u' hu' hcs => ?_))))
    generalize hr : txPart bs n p nm s.2.2.2.2 (csB u) = r at hQ b1 b2 b3 b4 hcs ⊢
    -- out of the loop
    have ex : ∀ (s2 : MDS) (L2 : LV) (y : Nat), lv_get 0 L2 = some (.ref m) → lv_get 2 L2 = some (.int 0) → (∀ x, Rt σ 181 (jump 181 105) L2 [] (mdH h m ol A B (msA s2 x)) Q) → Rt σ 181 (jump 181 92) L2 [] (mdH h m ol A B s2) Q := by
      intro s2 L2 y q0 q2 hq
      rw [j181_92]
      refine rl_load q0 rfl (rl_dup rfl (mt_at hA (rl_const (rl_bin rfl (mt_sa hA (rl_goto ?_))))))
      show Rt σ 181 (jump 181 34) _ _ _ _
      rw [j181_34]
      refine rl_load q2 rfl (rl_ifT rfl ?_)
      exact hq _
    have ex0 : (txParts bs n (k + 1) p nm s.2.2.2.2 (csB u) = r) → Rt σ 181 (jump 181 67) L [] (mdH h m ol A B (msR s r u')) Q := by
      intro e
      rw [txParts, hr] at e
      rw [e] at hQ
      rw [j181_67, j181_68]
      refine rl_const (rl_store rfl (rl_load (v := .int 0) rfl rfl (rl_ifT rfl ?_)))
      refine ex _ _ 0 (get_put rfl rfl (by omega) g0) rfl fun x => hQ _ _ (get_put rfl rfl (by omega) g0) e1 rfl rfl
    refine rl_load g0 rfl (mt_fl hA (rl_const ?_))
    rw [show (msR s r u').2.2.1 = r.1 from rfl]
    by_cases h1 : r.1 = Int32.ofInt (-1)
    · refine rl_icmpF (by show some (decide (¬ r.1 = Int32.ofInt (-1))) = some false; rw [decide_eq_false (fun e => e h1)]) (rl_load g0 rfl (mt_at hA (mt_typed1 hd g0 g1 ?_)))
      rw [show (msR s r u').2.1 = nI r.2.1 from rfl]
      by_cases h3 : n ≤ r.2.1
      · refine rl_icmpT ?_ (ex0 ?_)
        · show some (decide (nI n ≤ nI r.2.1)) = some true
          rw [decide_eq_true (by rw [tx_le (by omega) (by omega)]; omega)]
        · rw [txParts, hr, if_pos (Or.inr h3)]
      · rw [if_neg (fun e => e.elim (fun e => e h1) h3)] at hQ
        refine rl_icmpF ?_ (rl_const (rl_goto ?_))
        · show some (decide (nI n ≤ nI r.2.1)) = some false
          rw [decide_eq_false (by rw [tx_le (by omega) (by omega)]; omega)]
        · show Rt σ 181 (jump 181 68) _ _ _ _
          rw [j181_68]
          have q0 : lv_get 0 (lv_put 2 (.int (Int32.ofInt 1)) L) = some (.ref m) := get_put rfl rfl (by omega) g0
          have q1 : lv_get 1 (lv_put 2 (.int (Int32.ofInt 1)) L) = some (.int (nI b)) := get_put rfl rfl (by omega) g1
          refine rl_store rfl (rl_load (v := .int (Int32.ofInt 1)) rfl rfl (rl_ifF rfl (rl_load q0 rfl (mt_byte (p := r.2.1) hd (by omega) e1 rfl (by show 0 ≤ 8; omega) (rl_const ?_)))))
          by_cases h5 : txN bs n r.2.1 = Int32.ofInt 59
          · rw [if_pos h5] at hQ
            refine rl_icmpT (by show some (decide (txN bs n r.2.1 = Int32.ofInt 59)) = some true; rw [decide_eq_true h5]) ?_
            show Rt σ 181 (jump 181 92) _ _ _ _
            rw [j181_92]
            refine rl_load q0 rfl (rl_dup rfl (mt_at hA (rl_const (rl_bin rfl (mt_sa hA (rl_goto ?_))))))
            rw [show (msR s r u').2.1 = nI r.2.1 from rfl, nI_suc (by omega)]
            have hb4 := b4 h1
            refine ih (r.2.1 + 1) r.2.2.1 (msA (msR s r u') (nI (r.2.1 + 1))) u' _ q0 q1 rfl (by omega) (by omega) (by omega) hu' e1 rfl h1 rfl (b2.trans hl) fun s' L' w0 w1 w2 w3 => ?_
            refine hQ s' L' w0 w1 ?_ ?_
            · rw [w2, hcs]; rfl
            · rw [w3, hcs]; rfl
          · rw [if_neg h5] at hQ
            refine rl_icmpF (by show some (decide (txN bs n r.2.1 = Int32.ofInt 59)) = some false; rw [decide_eq_false h5]) (rl_load q0 rfl (rl_load q0 rfl (mt_at hA (mt_sf hA (rl_const (rl_store rfl ?_))))))
            exact ex _ _ 0 (get_put rfl rfl (by omega) q0) rfl fun x => hQ _ _ (get_put rfl rfl (by omega) q0) e1 rfl rfl
    · refine rl_icmpT (by show some (decide (¬ r.1 = Int32.ofInt (-1))) = some true; rw [decide_eq_true h1]) (ex0 ?_)
      rw [txParts, hr, if_pos (Or.inl h1)]
end
end
section
section
variable {σ : Nat → Nat} {h : AH} {m ol ot oy M M' pc a n b q k p : Nat} {A B : List Value} {s : MDS} {bs : List Int32} {c : Int} {tl : List (Nat × AI)} {L : LV} {S fs : List Value} {Q : Option Value → AH → Prop}
noncomputable def msT (s : MDS) (x : Int32) : MDS := (x, s.2)
theorem mt_st {x : Int32} (hA : A.length = 25) (hk : Rt σ M tl L S (mdH h m ol A B (msT s x)) Q) : Rt σ M ((pc, (9, 143, c)) :: tl) L (.int x :: .ref m :: S) (mdH h m ol A B s) Q := by
  refine rl_put md_m f_md.2.2.2.2.1 ?_ (by rw [dc_md.2.1]; rfl) ?_
  · rw [p_md.2.2.2.2.1]
    show 25 < (A ++ _).length
    rw [List.length_append, hA]
    show 25 < 25 + (B.length + 5)
    omega
  · rw [p_md.2.2.2.2.1, md_set (s := s) (s' := msT s x) (i := 25) (v := .int x) (md_s hA (i := 25) (k := 0) rfl) rfl]
    exact hk
theorem csB_0 : csB 0 = txC0 := by decide +kernel
theorem all_len {nm : Int32} : (txAll bs n nm).2.2.2.1.length = 6 := by
  unfold txAll
  by_cases h0 : n = 0
  · rw [if_pos h0]; rfl
  · rw [if_neg h0]; exact (parts_len (Nat.zero_le _)).1
theorem M_reads {nm : Int32} (hd : MdD h m ol ot oy A b n bs) (hb : b < 4) (hl : s.2.2.2.2.length = 6) (hQ : ∀ s' : MDS, s'.2.2.2.2 = (txEnd (txAll bs n nm)).2.2.2.1 → Q (some (.int (txAll bs n nm).1)) (mdH h m ol A B s')) : Rt σ 181 (codeOf 181) (am_args 0 [.ref m, .int (nI b)]) [] (mdH h m ol A B s) Q := by
  have hA := hd.1.1
  have hn := hd.2.2.2.1
  have fin : ∀ (s' : MDS) (L' : LV), lv_get 0 L' = some (.ref m) → s'.2.2.1 = (txAll bs n nm).1 → s'.2.2.2.2 = (txAll bs n nm).2.2.2.1 → Rt σ 181 (jump 181 105) L' [] (mdH h m ol A B s') Q := by
    intro s' L' w0 w2 w3
    rw [j181_105]
    refine rl_load w0 rfl (mt_fl hA (rl_const ?_))
    by_cases h1 : (txAll bs n nm).1 = Int32.ofInt (-1)
    · have e : txEnd (txAll bs n nm) = txAll bs n nm := if_pos h1
      rw [e] at hQ
      refine rl_icmpT (by rw [w2]; show some (decide ((txAll bs n nm).1 = Int32.ofInt (-1))) = some true; rw [decide_eq_true h1]) ?_
      show Rt σ 181 (jump 181 117) _ _ _ _
      rw [j181_117]
      refine rl_load w0 rfl (mt_fl hA (rl_ret1 ?_))
      rw [w2]
      exact hQ s' w3
    · have e : txEnd (txAll bs n nm) = ((txAll bs n nm).1, (txAll bs n nm).2.1, (txAll bs n nm).2.2.1, txD0, txC0) := if_neg h1
      rw [e] at hQ
      refine rl_icmpF (by rw [w2]; show some (decide ((txAll bs n nm).1 = Int32.ofInt (-1))) = some false; rw [decide_eq_false h1]) (rl_load w0 rfl (rl_callv (as := []) (r := []) spec_137 rfl rfl md_m (by show 0 ≤ 8; omega) (ref_ok (blet (and2 ml_md2).1)) (M_no hd (by rw [w3]; exact all_len) ?_)))
      rw [j181_117]
      refine rl_load w0 rfl (mt_fl hA (rl_ret1 ?_))
      rw [show (msS (msL s' txD0) (nI 0)).2.2.1 = (txAll bs n nm).1 from w2]
      exact hQ _ rfl
  rw [head_181]
  refine rl_load rfl rfl (rl_load rfl rfl (mt_st hA (rl_load rfl rfl (rl_const (mt_sa hA (rl_load rfl rfl (rl_const (mt_sf hA (rl_load rfl rfl (rl_callv (as := []) (r := []) spec_137 rfl rfl md_m (by show 0 ≤ 8; omega) (ref_ok (blet (and2 ml_md2).1)) (M_no hd hl (mt_typed1 hd rfl rfl ?_))))))))))))
  by_cases h0 : n = 0
  · refine rl_ifT ?_ ?_
    · rw [h0]
      decide +kernel
    · show Rt σ 181 (jump 181 32) _ _ _ _
      rw [j181_32, j181_33, j181_34]
      refine rl_const (rl_store rfl (rl_load (v := .int (Int32.ofInt 0)) rfl rfl (rl_ifT rfl ?_)))
      refine fin _ _ rfl ?_ ?_
      · unfold txAll; rw [if_pos h0]; rfl
      · unfold txAll; rw [if_pos h0]; rfl
  · refine rl_ifF ?_ (rl_const (rl_goto ?_))
    · show some (decide (nI n ≤ 0)) = some false
      rw [decide_eq_false]
      intro e
      have e3 : nI n ≤ nI 0 := e
      rw [tx_le (by omega) (by omega)] at e3
      omega
    · show Rt σ 181 (jump 181 33) _ _ _ _
      rw [j181_33]
      refine rl_store rfl (M_reads_loop (nm := nm) hd hb 60 0 _ 0 _ rfl rfl rfl (Nat.zero_le _) (Nat.le_refl _) (Nat.le_refl _) (by omega) rfl rfl rfl rfl rfl fun s' L' w0 w1 w2 w3 => ?_)
      have e5 : txAll bs n nm = txParts bs n 60 0 nm txD0 txC0 := if_neg h0
      refine fin s' L' w0 ?_ ?_
      · rw [w2, csB_0, e5]; rfl
      · rw [w3, csB_0, e5]; rfl
theorem M_lawOf {w : Nat} {nm : Int32} (hd : MdD h m ol ot oy A b n bs) (hb : b < 4) (hw : w < 6) (hl : s.2.2.2.2.length = 6) (hQ : ∀ s' : MDS, s'.2.2.2.2 = (txEnd (txAll bs n nm)).2.2.2.1 → Q (some (.int ((txEnd (txAll bs n nm)).2.2.2.1.getD w 0))) (mdH h m ol A B s')) : Rt σ 180 (codeOf 180) (am_args 0 [.ref m, .int (nI b), .int (nI w)]) [] (mdH h m ol A B s) Q := by
  have hA := hd.1.1
  rw [code_180]
  refine rl_load rfl rfl (rl_load rfl rfl (rl_callv (as := [.int (nI b)]) (r := []) spec_136 rfl rfl md_m (by show 0 ≤ 8; omega) ?_ (M_reads (nm := nm) hd hb hl fun s' h1 => ?_)))
  · unfold am_ok
    rw [decide_eq_true (show ([.ref m, .int (nI b)] : List Value).length ≤ mL 181 from blet (and2 (and2 ml_md3).2).1)]
    rfl
  · have e6 : (txEnd (txAll bs n nm)).2.2.2.1.length = 6 := by
      unfold txEnd
      by_cases h2 : (txAll bs n nm).1 = Int32.ofInt (-1)
      · rw [if_pos h2]; exact all_len
      · rw [if_neg h2]; rfl
    refine rl_store rfl (rl_load rfl rfl (mt_la hA (rl_load rfl rfl (rl_ald (md_l hd) rfl (nI_nn (by omega)).1 (v := .int ((txEnd (txAll bs n nm)).2.2.2.1.getD w 0)) ?_ (rl_ret1 (hQ s' h1))))))
    rw [h1]
    exact map_get (by omega) (by omega)
end
end
