/-! ===== permit, by hand ===== -/
theorem code_33 : codeOf 33 = [(0, (1, 0, 2)), (1, (1, 1, 0)), (2, (12, 16, 0)), (5, (2, 4, 2)), (7, (1, 4, 2)), (9, (20, 0, 30)), (12, (1, 2, 0)), (13, (12, 11, 0)), (16, (6, 0, 30)), (19, (1, 3, 0)), (20, (1, 2, 0)), (21, (0, 0, 399)), (24, (12, 10, 0)), (27, (6, 1, 33)), (30, (0, 0, -2)), (32, (13, 1, 0)), (33, (1, 3, 0)), (34, (1, 2, 0)), (35, (4, 1, 0)), (36, (0, 0, 1)), (37, (4, 0, 0)), (38, (1, 4, 2)), (40, (8, 25, 0)), (43, (0, 0, 0)), (44, (12, 27, 0)), (47, (5, 5, 53)), (50, (0, 0, -3)), (52, (13, 1, 0)), (53, (1, 0, 2)), (54, (8, 26, 0)), (57, (0, 0, 60)), (59, (5, 2, 65)), (62, (0, 0, -4)), (64, (13, 1, 0)), (65, (1, 2, 0)), (66, (2, 5, 0)), (68, (1, 5, 0)), (70, (1, 3, 0)), (71, (5, 4, 89)), (74, (1, 4, 2)), (76, (8, 18, 0)), (79, (1, 5, 0)), (81, (0, 0, 1)), (82, (11, 2, 0)), (83, (3, 5, 1)), (86, (7, 0, 68)), (89, (1, 0, 2)), (90, (18, 0, 0)), (91, (8, 26, 0)), (94, (0, 0, 1)), (95, (4, 0, 0)), (96, (9, 26, 0)), (99, (1, 0, 2)), (100, (8, 26, 0)), (103, (0, 0, 1)), (104, (4, 1, 0)), (105, (13, 1, 0))] := by decide +kernel
theorem head_33 : codeOf 33 = [(0, (1, 0, 2)), (1, (1, 1, 0)), (2, (12, 16, 0)), (5, (2, 4, 2)), (7, (1, 4, 2)), (9, (20, 0, 30)), (12, (1, 2, 0)), (13, (12, 11, 0)), (16, (6, 0, 30)), (19, (1, 3, 0)), (20, (1, 2, 0)), (21, (0, 0, 399)), (24, (12, 10, 0)), (27, (6, 1, 33))] ++ jump 33 30 := by rw [jump_jmp, code_33]; rfl
theorem j33_30 : jump 33 30 = [(30, (0, 0, -2)), (32, (13, 1, 0))] ++ jump 33 33 := by rw [jump_jmp, jump_jmp, code_33]; rfl
theorem j33_33 : jump 33 33 = [(33, (1, 3, 0)), (34, (1, 2, 0)), (35, (4, 1, 0)), (36, (0, 0, 1)), (37, (4, 0, 0)), (38, (1, 4, 2)), (40, (8, 25, 0)), (43, (0, 0, 0)), (44, (12, 27, 0)), (47, (5, 5, 53)), (50, (0, 0, -3)), (52, (13, 1, 0))] ++ jump 33 53 := by rw [jump_jmp, jump_jmp, code_33]; rfl
theorem j33_53 : jump 33 53 = [(53, (1, 0, 2)), (54, (8, 26, 0)), (57, (0, 0, 60)), (59, (5, 2, 65)), (62, (0, 0, -4)), (64, (13, 1, 0))] ++ jump 33 65 := by rw [jump_jmp, jump_jmp, code_33]; rfl
theorem j33_65 : jump 33 65 = [(65, (1, 2, 0)), (66, (2, 5, 0))] ++ jump 33 68 := by rw [jump_jmp, jump_jmp, code_33]; rfl
theorem j33_68 : jump 33 68 = [(68, (1, 5, 0)), (70, (1, 3, 0)), (71, (5, 4, 89)), (74, (1, 4, 2)), (76, (8, 18, 0)), (79, (1, 5, 0)), (81, (0, 0, 1)), (82, (11, 2, 0)), (83, (3, 5, 1)), (86, (7, 0, 68))] ++ jump 33 89 := by rw [jump_jmp, jump_jmp, code_33]; rfl
theorem j33_89 : jump 33 89 = [(89, (1, 0, 2)), (90, (18, 0, 0)), (91, (8, 26, 0)), (94, (0, 0, 1)), (95, (4, 0, 0)), (96, (9, 26, 0)), (99, (1, 0, 2)), (100, (8, 26, 0)), (103, (0, 0, 1)), (104, (4, 1, 0)), (105, (13, 1, 0))] := by rw [jump_jmp, code_33]; rfl
theorem code_18 : codeOf 18 = [(0, (1, 1, 0)), (1, (0, 0, 0)), (2, (1, 0, 2)), (3, (8, 4, 0)), (6, (12, 13, 0)), (9, (0, 0, 1)), (10, (4, 1, 0)), (11, (12, 10, 0)), (14, (6, 0, 31)), (17, (1, 0, 2)), (18, (8, 4, 0)), (21, (1, 1, 0)), (22, (12, 17, 0)), (25, (28, 2, 0)), (28, (7, 0, 32)), (31, (19, 0, 0)), (32, (13, 3, 0))] := by decide +kernel
theorem head_18 : codeOf 18 = [(0, (1, 1, 0)), (1, (0, 0, 0)), (2, (1, 0, 2)), (3, (8, 4, 0)), (6, (12, 13, 0)), (9, (0, 0, 1)), (10, (4, 1, 0)), (11, (12, 10, 0)), (14, (6, 0, 31)), (17, (1, 0, 2)), (18, (8, 4, 0)), (21, (1, 1, 0)), (22, (12, 17, 0)), (25, (28, 2, 0)), (28, (7, 0, 32))] ++ jump 18 31 := by rw [jump_jmp, code_18]; rfl
theorem j18_31 : jump 18 31 = [(31, (19, 0, 0))] ++ jump 18 32 := by rw [jump_jmp, jump_jmp, code_18]; rfl
theorem j18_32 : jump 18 32 = [(32, (13, 3, 0))] := by rw [jump_jmp, code_18]; rfl
theorem code_34 : codeOf 34 = [(0, (1, 1, 0)), (1, (0, 0, 0)), (2, (1, 0, 2)), (3, (8, 53, 0)), (6, (23, 0, 0)), (7, (0, 0, 1)), (8, (4, 1, 0)), (9, (12, 10, 0)), (12, (6, 0, 24)), (15, (1, 0, 2)), (16, (8, 53, 0)), (19, (1, 1, 0)), (20, (10, 0, 0)), (21, (7, 0, 25)), (24, (0, 0, 0)), (25, (13, 1, 0))] := by decide +kernel
theorem head_34 : codeOf 34 = [(0, (1, 1, 0)), (1, (0, 0, 0)), (2, (1, 0, 2)), (3, (8, 53, 0)), (6, (23, 0, 0)), (7, (0, 0, 1)), (8, (4, 1, 0)), (9, (12, 10, 0)), (12, (6, 0, 24)), (15, (1, 0, 2)), (16, (8, 53, 0)), (19, (1, 1, 0)), (20, (10, 0, 0)), (21, (7, 0, 25))] ++ jump 34 24 := by rw [jump_jmp, code_34]; rfl
theorem j34_24 : jump 34 24 = [(24, (0, 0, 0))] ++ jump 34 25 := by rw [jump_jmp, jump_jmp, code_34]; rfl
theorem j34_25 : jump 34 25 = [(25, (13, 1, 0))] := by rw [jump_jmp, code_34]; rfl
theorem code_179 : codeOf 179 = [(0, (1, 0, 2)), (1, (1, 1, 0)), (2, (12, 128, 0)), (5, (6, 0, 27)), (8, (1, 2, 0)), (9, (12, 126, 0)), (12, (6, 0, 27)), (15, (1, 3, 0)), (16, (12, 126, 0)), (19, (6, 0, 27)), (22, (1, 2, 0)), (23, (1, 3, 0)), (24, (5, 5, 30)), (27, (0, 0, -2)), (29, (13, 1, 0)), (30, (1, 3, 0)), (31, (1, 2, 0)), (32, (4, 1, 0)), (33, (0, 0, 1)), (34, (4, 0, 0)), (35, (1, 0, 2)), (36, (1, 0, 2)), (37, (8, 85, 0)), (40, (1, 1, 0)), (41, (10, 0, 0)), (42, (0, 0, 0)), (43, (12, 135, 0)), (46, (5, 5, 52)), (49, (0, 0, -3)), (51, (13, 1, 0)), (52, (1, 0, 2)), (53, (8, 141, 0)), (56, (0, 0, 60)), (58, (5, 1, 64)), (61, (0, 0, -4)), (63, (13, 1, 0)), (64, (1, 0, 2)), (65, (8, 99, 0)), (68, (1, 0, 2)), (69, (8, 141, 0)), (72, (1, 1, 0)), (73, (11, 0, 0)), (74, (1, 0, 2)), (75, (8, 100, 0)), (78, (1, 0, 2)), (79, (8, 141, 0)), (82, (1, 2, 0)), (83, (11, 0, 0)), (84, (1, 0, 2)), (85, (8, 101, 0)), (88, (1, 0, 2)), (89, (8, 141, 0)), (92, (1, 3, 0)), (93, (11, 0, 0)), (94, (1, 0, 2)), (95, (18, 0, 0)), (96, (8, 141, 0)), (99, (0, 0, 1)), (100, (4, 0, 0)), (101, (9, 141, 0)), (104, (1, 0, 2)), (105, (8, 141, 0)), (108, (0, 0, 1)), (109, (4, 1, 0)), (110, (13, 1, 0))] := by decide +kernel
theorem head_179 : codeOf 179 = [(0, (1, 0, 2)), (1, (1, 1, 0)), (2, (12, 128, 0)), (5, (6, 0, 27)), (8, (1, 2, 0)), (9, (12, 126, 0)), (12, (6, 0, 27)), (15, (1, 3, 0)), (16, (12, 126, 0)), (19, (6, 0, 27)), (22, (1, 2, 0)), (23, (1, 3, 0)), (24, (5, 5, 30))] ++ jump 179 27 := by rw [jump_jmp, code_179]; rfl
theorem j179_27 : jump 179 27 = [(27, (0, 0, -2)), (29, (13, 1, 0))] ++ jump 179 30 := by rw [jump_jmp, jump_jmp, code_179]; rfl
theorem j179_30 : jump 179 30 = [(30, (1, 3, 0)), (31, (1, 2, 0)), (32, (4, 1, 0)), (33, (0, 0, 1)), (34, (4, 0, 0)), (35, (1, 0, 2)), (36, (1, 0, 2)), (37, (8, 85, 0)), (40, (1, 1, 0)), (41, (10, 0, 0)), (42, (0, 0, 0)), (43, (12, 135, 0)), (46, (5, 5, 52)), (49, (0, 0, -3)), (51, (13, 1, 0))] ++ jump 179 52 := by rw [jump_jmp, jump_jmp, code_179]; rfl
theorem j179_52 : jump 179 52 = [(52, (1, 0, 2)), (53, (8, 141, 0)), (56, (0, 0, 60)), (58, (5, 1, 64)), (61, (0, 0, -4)), (63, (13, 1, 0))] ++ jump 179 64 := by rw [jump_jmp, jump_jmp, code_179]; rfl
theorem j179_64 : jump 179 64 = [(64, (1, 0, 2)), (65, (8, 99, 0)), (68, (1, 0, 2)), (69, (8, 141, 0)), (72, (1, 1, 0)), (73, (11, 0, 0)), (74, (1, 0, 2)), (75, (8, 100, 0)), (78, (1, 0, 2)), (79, (8, 141, 0)), (82, (1, 2, 0)), (83, (11, 0, 0)), (84, (1, 0, 2)), (85, (8, 101, 0)), (88, (1, 0, 2)), (89, (8, 141, 0)), (92, (1, 3, 0)), (93, (11, 0, 0)), (94, (1, 0, 2)), (95, (18, 0, 0)), (96, (8, 141, 0)), (99, (0, 0, 1)), (100, (4, 0, 0)), (101, (9, 141, 0)), (104, (1, 0, 2)), (105, (8, 141, 0)), (108, (0, 0, 1)), (109, (4, 1, 0)), (110, (13, 1, 0))] := by rw [jump_jmp, code_179]; rfl
theorem code_13 : codeOf 13 = [(0, (1, 0, 0)), (1, (0, 0, 0)), (2, (0, 0, 399)), (5, (12, 10, 0)), (8, (13, 4, 0))] := by decide +kernel
theorem code_163 : codeOf 163 = [(0, (1, 0, 0)), (1, (0, 0, 0)), (2, (0, 0, 399)), (5, (12, 125, 0)), (8, (13, 4, 0))] := by decide +kernel
theorem code_167 : codeOf 167 = [(0, (1, 1, 0)), (1, (0, 0, 0)), (2, (1, 0, 2)), (3, (8, 137, 0)), (6, (0, 0, 1)), (7, (4, 1, 0)), (8, (12, 125, 0)), (11, (13, 4, 0))] := by decide +kernel
theorem spec_16 : spec 16 = (1, 1, [(10, 18)]) := by decide +kernel
theorem spec_11 : spec 11 = (0, 1, [(0, 13)]) := by decide +kernel
theorem spec_27 : spec 27 = (1, 1, [(0, 34)]) := by decide +kernel
theorem spec_128 : spec 128 = (1, 1, [(11, 167)]) := by decide +kernel
theorem spec_126 : spec 126 = (0, 1, [(0, 163)]) := by decide +kernel
theorem spec_135 : spec 135 = (1, 2, [(11, 180)]) := by decide +kernel
theorem ml_pm : ((2 ≤ mL 18 ∧ 1 ≤ mL 13) ∧ (2 ≤ mL 34 ∧ 2 ≤ mL 167)) ∧ (1 ≤ mL 163 ∧ 3 ≤ mL 180) := by decide +kernel
theorem pm_f : ((((fks 4).contains 10 = true ∧ fpos 4 = 8) ∧ ((fks 25).contains 2 = true ∧ fpos 25 = 2)) ∧ (((fks 18).contains 2 = true ∧ fpos 18 = 7) ∧ ((fks 53).contains 0 = true ∧ fpos 53 = 5))) ∧ ((((fks 26).contains 10 = true ∧ fpos 26 = 3) ∧ dcode (fr 26).2.2.1 = 0) ∧ (((fks 85).contains 11 = true ∧ fpos 85 = 3) ∧ (((fks 137).contains 11 = true ∧ fpos 137 = 2) ∧ dcode (fr 141).2.2.1 = 0))) := by decide +kernel
theorem pm_c : (((cdm 10 = 0 ∧ cdk 10 = 10) ∧ (cdm 2 = 0 ∧ cdk 2 = 2)) ∧ ((cdm 0 = 0 ∧ cdk 0 = 0) ∧ (cdk 24 = 22 ∧ arrI 24 400 = true))) ∧ (((arrI 18 6 = true ∧ cdk 18 = 20) ∧ (arrI 48 24 = true ∧ cdk 48 = 20)) ∧ (((arrI 62 60 = true ∧ arrI 63 60 = true) ∧ arrI 64 60 = true) ∧ ((12, 2, 1, 24) ∈ lstt ∧ (kMty = 65 ∧ (kMby = 66 ∧ kMla = 67))))) := by decide +kernel
theorem pm_t : ((ct_at 10 8 = some (7, 12, 0) ∧ ct_at 2 7 = some (4, 24, 0)) ∧ (ct_at 0 5 = some (4, 18, 0) ∧ ct_at 11 3 = some (7, 48, 0))) ∧ (((ct_at 11 20 = some (7, 62, 0) ∧ ct_at 11 21 = some (7, 63, 0)) ∧ ct_at 11 22 = some (7, 64, 0)) ∧ (sgl 11 = true ∧ sgl 10 = true)) := by decide +kernel
theorem ct_48 : (cd 48).2.2.head? = some (0, 2147483648, 2147483651) ∧ Nat.beq (cdm 48) 0 = false := by decide +kernel
theorem three_ok {q : Nat} {x y : Int32} {M : Nat} (hm : 3 ≤ mL M) : am_ok [.ref q, .int x, .int y] M = true := by
  unfold am_ok
  rw [decide_eq_true (show ([.ref q, .int x, .int y] : List Value).length ≤ mL M from hm)]
  rfl
theorem txW_len {k : Int32} {N : Nat} (hN : N < 2147483648) : (∃ b, b < N ∧ (k = nI b ∧ txW k (nI 0) (nI N - Int32.ofInt 1) = 1)) ∨ (txW k (nI 0) (nI N - Int32.ofInt 1) = 0 ∧ ∀ b, b < N → k ≠ nI b) := by
  cases N with
  | zero =>
    refine Or.inr ⟨?_, fun b hb => absurd hb (Nat.not_lt_zero _)⟩
    unfold txW
    rw [if_neg]
    rintro ⟨h1, h2⟩
    rw [i_le] at h1 h2
    have e1 : i2n (nI 0) = 2147483648 := by decide +kernel
    have e2 : i2n (nI 0 - Int32.ofInt 1) = 2147483647 := by decide +kernel
    omega
  | succ M =>
    have e : nI (M + 1) - Int32.ofInt 1 = nI M := by
      rw [← nI_suc (p := M) (by omega), Int32.add_sub_cancel]
    rw [e]
    rcases txW_nat (v := k) (k := M) (by omega) with ⟨b, b1, b2, b3⟩ | ⟨b1, b2⟩
    · exact Or.inl ⟨b, by omega, b2, b3⟩
    · exact Or.inr ⟨b1, fun b hb => b2 b (by omega)⟩
section
variable {ad : AD} {h : AH} {np c c' i p q o x y N l el mx f : Nat} {ex ho : Nat → Nat → Prop} {v : Value} {ty : TY} {z : AO}
/-- a field of an object of a class, out of its type -/
theorem fld (hT : TS ad h np ex ho) (hc : c < 1000) (hm : cdm c = 0) (hct : ct_at c p = some ty) (hq : ad c i = some q) : ∃ v, At ad h c i p v ∧ TV ad ty i p v := by
  obtain ⟨-, k, vs, y1, -, y3, y4⟩ := hT.1 c i q hc hq
  have hlen := y3.1 hm
  have hp : p < vs.length := by
    rw [hlen]
    unfold ct_at at hct
    rw [hm, Nat.beq_refl, cond_true] at hct
    exact (List.getElem?_eq_some_iff.mp hct).1
  obtain ⟨ty', t1, t2⟩ := y4 _ _ (List.getElem?_eq_getElem hp)
  rw [hct] at t1
  cases t1
  exact ⟨_, ⟨q, k, vs, hq, y1, List.getElem?_eq_getElem hp⟩, t2⟩
theorem fld_sgl (hT : TS ad h np ex ho) (hc : c < 1000) (hm : cdm c = 0) (hct : ct_at c p = some (7, c', 0)) (hq : ad c i = some q) : ∃ o, At ad h c i p (.ref o) ∧ ad c' 0 = some o := by
  obtain ⟨v, h1, h2⟩ := fld hT hc hm hct hq
  obtain ⟨o, rfl, h3⟩ := tv_sgl h2 rfl
  exact ⟨o, h1, h3⟩
theorem fld_own (hT : TS ad h np ex ho) (hc : c < 1000) (hm : cdm c = 0) (hct : ct_at c p = some (4, c', 0)) (hq : ad c i = some q) : ∃ o, At ad h c i p (.ref o) ∧ ad c' i = some o := by
  obtain ⟨v, h1, h2⟩ := fld hT hc hm hct hq
  obtain ⟨o, rfl, h3⟩ := tv_own h2 rfl
  exact ⟨o, h1, h3⟩
/-- a list of the class's objects, at a field of it -/
noncomputable def LsE (ad : AD) (h : AH) (f el N : Nat) : Prop := ∃ ql mc ed, At ad h 10 0 f (.ref ql) ∧ (h.1 ql = some (12, [.int mc, ed, .int (nI N)]) ∧ (N = 0 ∨ ∃ bq us, ed = .ref bq ∧ (h.1 bq = some (24, us) ∧ ∀ s, s < N → ∃ q, us[s]? = some (.ref q) ∧ ad el s = some q)))
theorem ls_form (hT : TS ad h np ex ho) (hl : (l, el, 1, mx) ∈ lstt) (hct : ct_at 10 f = some (7, l, 0)) (hox : ad 10 0 = some o) (hX : At ad h l 0 2 (.int (nI N))) (hN : N < 2147483648) : LsE ad h f el N := by
  obtain ⟨⟨⟨⟨c1, c2⟩, -⟩, -⟩, -⟩ := pm_c
  obtain ⟨ql, a1, a2⟩ := fld_sgl hT (by omega) c1 hct hox
  obtain ⟨mc, ed, sz, M, u1, u2, u3⟩ := hT.2.2.2.2.1 l el 1 mx hl ql a2
  have eX : sz = nI N := by
    obtain ⟨q', k', vs, w1, w2, w3⟩ := hX
    rw [a2] at w1
    cases w1
    rw [u1] at w2
    cases w2
    exact Value.int.inj (Option.some.inj w3)
  subst eX
  have eM : M = N := by
    rw [nI_ok hN] at u2
    omega
  subst eM
  refine ⟨ql, mc, ed, a1, u1, ?_⟩
  rcases u3 with ⟨q5, -, -, e⟩ | ⟨bq, us, -, w2, w3, -, -, w6⟩
  · exact Or.inl e
  · refine Or.inr ⟨bq, us, w2, w3, fun s hs => ?_⟩
    obtain ⟨u, v1, v2⟩ := w6 s hs
    rcases v2 with ⟨-, v3⟩ | ⟨e, -⟩
    · rcases v3 with ⟨e, -⟩ | ⟨-, q, v4, rfl⟩
      · omega
      · rw [Nat.add_sub_cancel_left] at v4
        exact ⟨q, v1, v4⟩
    · cases e
theorem at_up {ad' : AD} {c i p : Nat} {v : Value} (hup : ∀ c i q, c < 1000 → ad c i = some q → ad' c i = some q) (hc : c < 1000) (ha : At ad h c i p v) : At ad' h c i p v := by
  obtain ⟨q, k, vs, a1, a2, a3⟩ := ha
  exact ⟨q, k, vs, hup _ _ _ hc a1, a2, a3⟩
theorem at_ps {y : AO} (ha : At ad h c i p v) (hne : ad c i ≠ some x) : At ad (am_set h x y) c i p v := by
  obtain ⟨q, k, vs, a1, a2, a3⟩ := ha
  refine ⟨q, k, vs, a1, ?_, a3⟩
  show (if q = x then _ else _) = _
  rw [if_neg (fun e => hne (by rw [a1, e]))]
  exact a2
theorem am_set_at {y : AO} : (am_set h x y).1 x = some y := if_pos rfl
theorem am_set_ne {y : AO} (hne : q ≠ x) : (am_set h x y).1 q = h.1 q := if_neg hne
theorem am_set_id {y : AO} (hq : h.1 x = some y) : am_set h x y = h := by
  refine Prod.ext (funext fun a => ?_) rfl
  show (if a = x then _ else _) = _
  by_cases e : a = x
  · rw [if_pos e, e, hq]
  · rw [if_neg e]
theorem am_set_2 {y z : AO} : am_set (am_set h x y) x z = am_set h x z := by
  refine Prod.ext (funext fun a => ?_) rfl
  show (if a = x then some z else (if a = x then some y else h.1 a)) = (if a = x then some z else h.1 a)
  by_cases e : a = x
  · rw [if_pos e, if_pos e]
  · rw [if_neg e, if_neg e, if_neg e]
theorem r5_map {h' : AH} (hm : ∀ c i p v, (c = 0 ∨ c = 17) ∨ (c = 18 ∨ (c = kMty ∨ c = kMby)) → At ad h c i p v → At ad h' c i p v) (h5 : R5 ad h) : R5 ad h' := fun b hb => by
  obtain ⟨n, bs, nm, h1, ⟨h2, h3, h4⟩, h6, h7⟩ := h5 b hb
  exact ⟨n, bs, nm, h1, ⟨hm _ _ _ _ (Or.inl (Or.inl rfl)) h2, fun p hp => hm _ _ _ _ (Or.inl (Or.inr rfl)) (h3 p hp), fun w hw => hm _ _ _ _ (Or.inr (Or.inl rfl)) (h4 w hw)⟩, hm _ _ _ _ (Or.inr (Or.inr (Or.inl rfl))) h6, fun j hj => hm _ _ _ _ (Or.inr (Or.inr (Or.inr rfl))) (h7 j hj)⟩
end
section
variable {σ : Nat → Nat} {ad : AD} {h : AH} {np n N ox o b M pc : Nat} {ex ho : Nat → Nat → Prop} {Q : Option Value → AH → Prop} {k v w : Int32} {tl : List (Nat × AI)} {L : LV} {S : List Value} {c : Int}
theorem X_kerbAt (hT : TS ad h np ex ho) (hox : ad 10 0 = some ox) (hl : LsE ad h 8 2 N) (hN : N < 1000) (H1 : ∀ kk q, kk < N → k = nI kk → ad 2 kk = some q → Q (some (.ref q)) h) (H0 : (∀ kk, kk < N → k ≠ nI kk) → Q (some .null) h) : Rt σ 18 (codeOf 18) (am_args 0 [.ref ox, .int k]) [] h Q := by
  obtain ⟨⟨⟨⟨f1, f1'⟩, -⟩, -⟩, -⟩ := pm_f
  obtain ⟨⟨⟨⟨c1, c2⟩, c3, c4⟩, -⟩, -⟩ := pm_c
  obtain ⟨m1, m2⟩ := and2 ml_ff
  obtain ⟨m2, m3⟩ := and2 m2
  obtain ⟨ql, mc, ed, e2, e3, e4⟩ := hl
  rw [head_18]
  refine rl_load rfl rfl (rl_const (rl_load rfl rfl (ra_get hT.1 (by omega) (by omega) hox (by rw [f1']; exact e2) (by rw [c2]; exact f1) (rl_callv (as := []) (r := [.int (Int32.ofInt 0), .int k]) spec_13 rfl rfl e3 (by show 2 ≤ 8; omega) (ref_ok (blet m1)) (L_size e3 (rl_const (rl_bin rfl (within_ok (by show 0 ≤ 8; omega) ?_))))))))
  rcases txW_len (k := k) (show N < 2147483648 by omega) with ⟨kk, k1, k2, k3⟩ | ⟨k1, k2⟩
  · rcases e4 with e4 | ⟨bq, us, rfl, e6, e7⟩
    · omega
    · obtain ⟨qk, u1, u2⟩ := e7 kk k1
      have hi := nI_nn (show kk < 2147483648 by omega)
      obtain ⟨-, k', vs, o1, o2, -⟩ := hT.1 2 kk qk (by omega) u2
      have ek : k' = 2 := by
        rcases o2 with e | ⟨e, -⟩
        · rw [e, c4]
        · rw [c4] at e; cases e
      subst ek
      refine rl_ifF ?_ (rl_load rfl rfl (ra_get hT.1 (by omega) (by omega) hox (by rw [f1']; exact e2) (by rw [c2]; exact f1) (rl_load rfl rfl (rl_callv (as := [.int k]) (r := []) spec_17 rfl rfl e3 (by show 0 ≤ 8; omega) (two_ok (blet m2)) (L_get (u := qk) e3 e6 (by rw [k2]; exact hi.1) (by rw [k2]; exact (tx_lt (by omega) (by omega)).mpr (by omega)) (by rw [k2, hi.2]; exact u1) (rl_cast o1 (rl_goto ?_)))))))
      · show icond 0 (txW k (nI 0) (nI N - Int32.ofInt 1)) 0 = _
        rw [k3]; rfl
      · show Rt σ 18 (jump 18 32) _ _ _ _
        rw [j18_32]
        exact rl_ret3 (H1 kk qk k1 k2 u2)
  · refine rl_ifT ?_ ?_
    · show icond 0 (txW k (nI 0) (nI N - Int32.ofInt 1)) 0 = _
      rw [k1]; rfl
    · show Rt σ 18 (jump 18 31) _ _ _ _
      rw [j18_31]
      refine rl_null ?_
      rw [j18_32]
      exact rl_ret3n (H0 k2)
theorem isDay_x (h4 : am_w S ≤ 8) (hk : Rt σ M tl L (.int (txW v (nI 0) (nI 399)) :: S) h Q) : Rt σ M ((pc, (12, 11, c)) :: tl) L (.int v :: S) h Q := by
  obtain ⟨⟨⟨-, m1⟩, -⟩, -⟩ := ml_pm
  refine rl_calls (as := [.int v]) (r := S) spec_11 rfl rfl h4 ?_ ?_
  · unfold am_ok
    rw [decide_eq_true (show ([.int v] : List Value).length ≤ mL 13 from m1)]
    rfl
  · rw [code_13]
    refine rl_load rfl rfl (rl_const (rl_const (within_ok (by show 0 ≤ 8; omega) (rl_ret4 ?_ hk))))
    exact txW_01 _ _ _
theorem isDay_m (h4 : am_w S ≤ 8) (hk : Rt σ M tl L (.int (txW v (nI 0) (nI 399)) :: S) h Q) : Rt σ M ((pc, (12, 126, c)) :: tl) L (.int v :: S) h Q := by
  obtain ⟨-, m1, -⟩ := ml_pm
  refine rl_calls (as := [.int v]) (r := S) spec_126 rfl rfl h4 ?_ ?_
  · unfold am_ok
    rw [decide_eq_true (show ([.int v] : List Value).length ≤ mL 163 from m1)]
    rfl
  · rw [code_163]
    refine rl_load rfl rfl (rl_const (rl_const (min_ok (by show 0 ≤ 8; omega) (rl_ret4 ?_ hk))))
    exact txW_01 _ _ _
theorem X_val (hT : TS ad h np ex ho) (hb : ad 0 b = some o) (hv : At ad h 18 b 0 (.int v)) (hQ : Q (some (.int v)) h) : Rt σ 34 (codeOf 34) (am_args 0 [.ref o, .int (Int32.ofInt 0)]) [] h Q := by
  obtain ⟨⟨-, -, f1, f1'⟩, -⟩ := pm_f
  obtain ⟨⟨-, ⟨c1, c2⟩, -⟩, ⟨⟨c3, c4⟩, -⟩, -⟩ := pm_c
  obtain ⟨⟨-, t1, -⟩, -⟩ := pm_t
  obtain ⟨qv, w1, w2⟩ := fld_own hT (by omega) c1 t1 hb
  obtain ⟨l, r1, r2⟩ := row_of hT.1 c3 w2 c4 (by omega)
  have hlen : (l.map Value.int).length = 6 := by rw [List.length_map, r2]
  rw [head_34]
  refine rl_load rfl rfl (rl_const (rl_load rfl rfl (ra_get hT.1 (by omega) (by omega) hb (by rw [f1']; exact w1) (by rw [c2]; exact f1) (rl_len r1 (by omega) (by rw [hlen]; omega) (rl_const (rl_bin rfl (within_ok (by show 0 ≤ 8; omega) ?_)))))))
  have e1 : txW (Int32.ofInt 0) (Int32.ofInt 0) (nI 6 - Int32.ofInt 1) = 1 := by decide +kernel
  rw [hlen, e1]
  refine rl_ifF rfl (rl_load rfl rfl (ra_get hT.1 (by omega) (by omega) hb (by rw [f1']; exact w1) (by rw [c2]; exact f1) (rl_load rfl rfl (ra_ald (p := 0) hT.1 (by omega) (by omega) w2 hv (by rw [c4]; rfl) (by omega) (rl_goto ?_)))))
  show Rt σ 34 (jump 34 25) _ _ _ _
  rw [j34_25]
  exact rl_ret1 hQ
end
/-- the kerb's borough, on both sides -/
theorem cpf_0 : useR2 = true → ((cp_at ffT0).1 = 3 ∧ (cp_at ffT0).2.1 = [(2, 0, 2147483648), (2, 0, 2147483649), (2, 0, 2147483650), (48, 1, 2147483648)]) ∧ ((cp_at ffT0).2.2.1 = [[(600, 0, 0), (0, 2147483648, 2147483651), (100, 2147483648, 2147483651), (0, 2147483648, 2147483651)]] ∧ ffT0 < npL) := by decide +kernel
theorem tg_20 : tgc (2, 0, 2147483650) = 0 ∧ (cdm 2 = 0 ∧ 3 ≤ (cd 2).2.2.length) := by decide +kernel
theorem kerb_law {ad : AD} {h : AH} {k : Nat} {ho : Nat → Nat → Prop} (hu : useR2 = true) (hT : TS ad h npL (fun _ _ => False) ho) (hk : ad 2 k ≠ none) : ∃ b q, b < 4 ∧ (At ad h 2 k 2 (.ref q) ∧ (ad 0 b = some q ∧ At ad h 48 0 k (.int (nI b)))) := by
  obtain ⟨⟨c3, c3'⟩, c3'', t3'⟩ := cpf_0 hu
  obtain ⟨g2, g6, g7⟩ := tg_20
  obtain ⟨q0, hq0⟩ : ∃ q, ad 2 k = some q := by
    cases e : ad 2 k
    · exact absurd e hk
    · exact ⟨_, rfl⟩
  have mp0 : ∀ (c p k : Nat), mplace (c, 0, 2147483648 + p) k = (c, k, p) := fun c p k => by
    show (c, k, 2147483648 + p - 2147483648) = _
    rw [Nat.add_sub_cancel_left]
  have mp1 : ∀ (c k : Nat), mplace (c, 1, 2147483648) k = (c, 0, k) := fun c k => by
    show (c, 2147483648 - 2147483648, k) = _
    rw [Nat.sub_self]
  obtain ⟨V, hV⟩ : ∃ V, At ad h 2 k 2 V := by
    obtain ⟨-, k', vs, y1, -, y3, -⟩ := hT.1 2 k q0 (by omega) hq0
    have := y3.1 g6
    exact ⟨_, q0, k', vs, hq0, y1, List.getElem?_eq_getElem (by omega)⟩
  have hC := hT.2.2.2.2.2 ffT0 k t3' (fun e => e)
  unfold CpAt at hC
  rw [c3, c3', c3''] at hC
  obtain ⟨d, gv, e1, e2⟩ := (hC ⟨(2, 0, 2147483650), V, List.mem_cons_of_mem _ (List.mem_cons_of_mem _ List.mem_cons_self), by unfold AtM; rw [show mplace (2, 0, 2147483650) k = (2, k, 2) from mp0 2 2 k]; exact hV⟩).1 (Or.inr hk)
  have e1 := List.mem_singleton.mp e1
  subst e1
  obtain ⟨-, e2⟩ := dc_1 e2
  obtain ⟨E1, e2⟩ := dc_1 e2
  obtain ⟨E2, e2⟩ := dc_1 e2
  obtain ⟨E3, -⟩ := dc_1 e2
  obtain ⟨j, q, x1, x2, x3⟩ := en_ref rfl rfl E2
  have x3 : 2147483648 + j + 0 = gv 0 := x3
  obtain ⟨x, y1, y2, y3, y4⟩ := en_int rfl E3
  rw [g2] at x2
  unfold AtM at x1 y1
  rw [show mplace (2, 0, 2147483650) k = (2, k, 2) from mp0 2 2 k] at x1
  rw [mp1] at y1
  have y2 : i2n x = gv 0 := y2
  have y4 : i2n x ≤ 2147483651 := y4
  rw [r5nI (x := x) (j := j) (by omega) (by omega)] at y1
  exact ⟨j, q, by omega, x1, x2, y1⟩
/-! the class's call -/
noncomputable def Dk (ad : AD) (h : AH) (N n : Nat) (k f t : Int32) (g : Bool) : Prop := g = true ↔ ∃ kk ff tt b v, (kk < N ∧ k = nI kk) ∧ ((f = nI ff ∧ t = nI tt) ∧ ((ff ≤ tt ∧ tt ≤ 399) ∧ ((At ad h 48 0 kk (.int (nI b)) ∧ At ad h 18 b 0 (.int v)) ∧ (¬ v < t - f + Int32.ofInt 1 ∧ n < 60))))
noncomputable def PmP (ad : AD) (k f t : Int32) (h : AH) : Prop := ∃ (N n : Nat) (pk pf pt : Nat → Int32) (g : Bool), ((N ≤ 24 ∧ n ≤ 60) ∧ (At ad h 11 0 2 (.int (nI N)) ∧ At ad h 11 0 19 (.int (nI n)))) ∧
  ((∀ p, p < n → At ad h 62 0 p (.int (pk p)) ∧ (At ad h 63 0 p (.int (pf p)) ∧ (At ad h 64 0 p (.int (pt p)) ∧ ∃ k, pk p = nI k ∧ (k < 2147483648 ∧ ad 2 k ≠ none)))) ∧
  ((∀ k, ad 2 k ≠ none ↔ k < N) ∧ ((∀ kk, kk < N → ∃ b, b < 4 ∧ At ad h 48 0 kk (.int (nI b))) ∧
  ((∀ kk, kk < N → ∀ d, d < 400 → At ad h 24 kk d (.int (hpI (hpB pk pf pt (nI kk) (nI d) n || (g && decide (nI kk = k ∧ (f ≤ nI d ∧ nI d ≤ t))))))) ∧ (Dk ad h N n k f t g ∧ R5 ad h)))))
/-- what the class's call starts from -/
noncomputable def PmS (ad : AD) (h : AH) (N n : Nat) : Prop := ((N ≤ 24 ∧ n ≤ 60) ∧ (LsE ad h 8 2 N ∧ (At ad h 10 0 3 (.int (nI n)) ∧ (At ad h 11 0 2 (.int (nI N)) ∧ At ad h 11 0 19 (.int (nI n)))))) ∧
  ((∀ k, ad 2 k ≠ none ↔ k < N) ∧ (R2 ad h ∧ (R5 ad h ∧ ∀ kk, kk < N → ∃ b q, b < 4 ∧ (At ad h 2 kk 2 (.ref q) ∧ (ad 0 b = some q ∧ At ad h 48 0 kk (.int (nI b)))))))
/-- entries from a place on, so many, are 1 -/
noncomputable def fl (l : List Int32) (a : Nat) (j : Nat) : List Int32 := match j with
  | 0 => l
  | j + 1 => (fl l a j).set (a + j) 1
theorem fl_len {l : List Int32} {a : Nat} : ∀ {j : Nat}, (fl l a j).length = l.length := by
  intro j
  induction j with
  | zero => rfl
  | succ j ih => rw [fl, List.length_set, ih]
theorem fl_get {l : List Int32} {a p : Nat} {x : Int32} (hx : l[p]? = some x) : ∀ {j : Nat}, (fl l a j)[p]? = some (if a ≤ p ∧ p < a + j then 1 else x) := by
  intro j
  induction j with
  | zero =>
    rw [if_neg (by omega)]
    exact hx
  | succ j ih =>
    rw [fl, List.getElem?_set]
    have hl : p < (fl l a j).length := by
      obtain ⟨h1, -⟩ := List.getElem?_eq_some_iff.mp ih
      exact h1
    by_cases e : a + j = p
    · rw [if_pos e, if_pos (by omega), if_pos (by omega)]
    · rw [if_neg e, ih]
      by_cases e2 : a ≤ p ∧ p < a + j
      · rw [if_pos e2, if_pos (by omega)]
      · rw [if_neg e2, if_neg (by omega)]
theorem r2_row {ad : AD} {h : AH} (h2 : R2 ad h) {n : Nat} (hn : At ad h 11 0 19 (.int (nI n))) (hn60 : n ≤ 60) : ∃ pk pf pt, (∀ p, p < n → At ad h 62 0 p (.int (pk p)) ∧ (At ad h 63 0 p (.int (pf p)) ∧ (At ad h 64 0 p (.int (pt p)) ∧ ∃ k, pk p = nI k ∧ (k < 2147483648 ∧ ad 2 k ≠ none)))) ∧ ∀ k, ad 2 k ≠ none → ∀ d, d < 400 → At ad h 24 k d (.int (hpI (hpB pk pf pt (nI k) (nI d) n))) := by
  obtain ⟨n', pk, pf, pt, ⟨p1, p2⟩, p3, p4⟩ := h2
  have e := nI_inj (by omega) (by omega) (at_int p2 hn)
  subst e
  exact ⟨pk, pf, pt, p3, p4⟩
section
variable {σ : Nat → Nat} {ad ad1 : AD} {h h1 : AH} {np n N ox m : Nat} {ex ho : Nat → Nat → Prop} {k f t : Int32}
/-- refused: nothing changes -/
theorem pm_no (hs : PmS ad h N n) (hno : ¬ ∃ kk ff tt b v, (kk < N ∧ k = nI kk) ∧ ((f = nI ff ∧ t = nI tt) ∧ ((ff ≤ tt ∧ tt ≤ 399) ∧ ((At ad h 48 0 kk (.int (nI b)) ∧ At ad h 18 b 0 (.int v)) ∧ (¬ v < t - f + Int32.ofInt 1 ∧ n < 60))))) : PmP ad k f t h := by
  obtain ⟨⟨⟨s1, s2⟩, s3, s4, s5, s6⟩, s7, s8, s9, s10⟩ := hs
  obtain ⟨pk, pf, pt, r1, r2⟩ := r2_row s8 s6 s2
  refine ⟨N, n, pk, pf, pt, false, ⟨⟨s1, s2⟩, s5, s6⟩, r1, s7, fun kk hk => ?_, fun kk hk d hd => ?_, ?_, s9⟩
  · obtain ⟨b, q, b1, -, -, b4⟩ := s10 kk hk
    exact ⟨b, b1, b4⟩
  · rw [Bool.false_and, Bool.or_false]
    exact r2 kk ((s7 kk).mpr hk) d hd
  · exact ⟨fun e => Bool.noConfusion e, fun e => absurd e hno⟩
/-- granted: the kerb's row is filled -/
theorem pm_yes (h2 : T2 ad) (hs : PmS ad h N n) {kk ff tt b qp : Nat} {v : Int32} {l : List Int32} {z : AO} (hox : ad 10 0 = some ox) (hkk : kk < N ∧ k = nI kk) (hft : f = nI ff ∧ t = nI tt) (hle : ff ≤ tt ∧ tt ≤ 399) (hv : At ad h 48 0 kk (.int (nI b)) ∧ At ad h 18 b 0 (.int v)) (hd : ¬ v < t - f + Int32.ofInt 1 ∧ n < 60) (hqp : ad 24 kk = some qp) (hr : h.1 qp = some (22, l.map .int)) (hl : l.length = 400) : PmP ad k f t (am_set (am_set h qp (22, (fl l ff (tt + 1 - ff)).map .int)) ox z) := by
  obtain ⟨⟨⟨s1, s2⟩, s3, s4, s5, s6⟩, s7, s8, s9, s10⟩ := hs
  obtain ⟨⟨⟨⟨c1, c2⟩, -⟩, -, c5, -⟩, -, -, -, e1, e2, e3⟩ := pm_c
  obtain ⟨pk, pf, pt, r1, r2⟩ := r2_row s8 s6 s2
  have keep : ∀ {c i p : Nat} {v : Value}, (c ≠ 24 ∨ i ≠ kk) → c ≠ 10 → At ad h c i p v → At ad (am_set (am_set h qp (22, (fl l ff (tt + 1 - ff)).map .int)) ox z) c i p v := fun {c i p v} hc hc2 ha => by
    refine at_ps (at_ps ha fun e => ?_) fun e => ?_
    · exact ref_ne h2 hqp e (by omega) (fun e2 => hc.elim (fun e3 => e3 e2.1.symm) (fun e3 => e3 e2.2.symm)) rfl
    · exact ref_ne h2 hox e (by omega) (fun e2 => hc2 e2.1.symm) rfl
  refine ⟨N, n, pk, pf, pt, true, ⟨⟨s1, s2⟩, keep (Or.inl (by omega)) (by omega) s5, keep (Or.inl (by omega)) (by omega) s6⟩, fun p hp => ?_, s7, fun k' hk' => ?_, fun k' hk' d hd' => ?_, ⟨fun _ => ⟨kk, ff, tt, b, v, hkk, hft, hle, ⟨keep (Or.inl (by omega)) (by omega) hv.1, keep (Or.inl (by omega)) (by omega) hv.2⟩, hd⟩, fun _ => rfl⟩, r5_map (fun c i p v hc ha => keep (Or.inl (by omega)) (by omega) ha) s9⟩
  · obtain ⟨x1, x2, x3, x4⟩ := r1 p hp
    exact ⟨keep (Or.inl (by omega)) (by omega) x1, keep (Or.inl (by omega)) (by omega) x2, keep (Or.inl (by omega)) (by omega) x3, x4⟩
  · obtain ⟨b, q, b1, -, -, b4⟩ := s10 k' hk'
    exact ⟨b, b1, keep (Or.inl (by omega)) (by omega) b4⟩
  · have h0 := r2 k' ((s7 k').mpr hk') d hd'
    rw [Bool.true_and]
    by_cases e : k' = kk
    · subst e
      have hx := at_row h0 hqp hr
      have hne : qp ≠ ox := ref_ne h2 hqp hox (by omega) fun e => absurd e.1 (by omega)
      refine ⟨qp, 22, (fl l ff (tt + 1 - ff)).map .int, hqp, ?_, ?_⟩
      · rw [am_set_ne hne]
        exact am_set_at
      · rw [List.getElem?_map, fl_get hx]
        have ed : (nI k' = k ∧ (f ≤ nI d ∧ nI d ≤ t)) ↔ (ff ≤ d ∧ d < ff + (tt + 1 - ff)) := by
          rw [hft.1, hft.2, hkk.2, tx_le (by omega) (by omega), tx_le (by omega) (by omega)]
          constructor
          · rintro ⟨-, h3, h4⟩
            omega
          · rintro ⟨h3, h4⟩
            exact ⟨rfl, by omega, by omega⟩
        by_cases e3 : ff ≤ d ∧ d < ff + (tt + 1 - ff)
        · rw [if_pos e3, decide_eq_true (ed.mpr e3), Bool.or_true]
          rfl
        · rw [if_neg e3, decide_eq_false (fun h => e3 (ed.mp h)), Bool.or_false]
          rfl
    · have en : ¬ (nI k' = k ∧ (f ≤ nI d ∧ nI d ≤ t)) := fun h => e (nI_inj (by omega) (by omega) (h.1.trans hkk.2))
      rw [decide_eq_false en, Bool.or_false]
      exact keep (Or.inr e) (by omega) h0
theorem X_permit (hT : TS ad h np ex ho) (hox : ad 10 0 = some ox) (hs : PmS ad h N n) : Rt σ 33 (codeOf 33) (am_args 0 [.ref ox, .int k, .int f, .int t]) [] h (IntP (PmP ad k f t)) := by
  have hs0 := hs
  obtain ⟨⟨⟨s1, s2⟩, s3, s4, s5, s6⟩, s7, s8, s9, s10⟩ := hs
  obtain ⟨⟨⟨-, f2, f2'⟩, ⟨f3, f3'⟩, -⟩, ⟨⟨f5, f5'⟩, f5''⟩, -⟩ := pm_f
  obtain ⟨⟨⟨⟨c1, c2⟩, c3, c4⟩, -, c5, c6⟩, -⟩ := pm_c
  obtain ⟨⟨⟨-, t1⟩, -⟩, -⟩ := pm_t
  obtain ⟨⟨⟨m1, -⟩, m2, -⟩, -⟩ := ml_pm
  obtain ⟨vx, x1, x2⟩ := at_kind hT.1 (by omega) (by omega) s4 hox
  rw [c2] at x1
  have no : ∀ {h' : AH}, h' = h → (¬ ∃ kk ff tt b v, (kk < N ∧ k = nI kk) ∧ ((f = nI ff ∧ t = nI tt) ∧ ((ff ≤ tt ∧ tt ≤ 399) ∧ ((At ad h 48 0 kk (.int (nI b)) ∧ At ad h 18 b 0 (.int v)) ∧ (¬ v < t - f + Int32.ofInt 1 ∧ n < 60))))) → PmP ad k f t h' := fun e hno => by rw [e]; exact pm_no hs0 hno
  rw [head_33]
  refine rl_load rfl rfl (rl_load rfl rfl (rl_callv (as := [.int k]) (r := []) spec_16 rfl rfl x1 (by show 0 ≤ 8; omega) (two_ok m1) (X_kerbAt hT hox s3 (by omega) ?_ ?_)))
  · intro kk qk k1 k2 k3
    have bad : txW f (nI 0) (nI 399) = 0 ∨ txW t f (nI 399) = 0 → PmP ad k f t h := fun e => no rfl fun ⟨kk, ff, tt, b, v, _, ⟨z1, z2⟩, ⟨z3, z4⟩, _⟩ => by
      subst z1
      subst z2
      unfold txW at e
      rcases e with e | e
      · rw [if_pos ⟨(tx_le (by omega) (by omega)).mpr (by omega), (tx_le (by omega) (by omega)).mpr (by omega)⟩] at e
        exact absurd e (by decide)
      · rw [if_pos ⟨(tx_le (by omega) (by omega)).mpr (by omega), (tx_le (by omega) (by omega)).mpr (by omega)⟩] at e
        exact absurd e (by decide)
    refine rl_store rfl (rl_load rfl rfl (rl_nulF0 (rl_load rfl rfl (isDay_x (by show 0 ≤ 8; omega) ?_))))
    rcases txW_nat (v := f) (k := 399) (by omega) with ⟨ff, g1, g2, g3⟩ | ⟨g1, -⟩
    · refine rl_ifF (by rw [g3]; rfl) (rl_load rfl rfl (rl_load rfl rfl (rl_const (within_ok (by show 0 ≤ 8; omega) ?_))))
      rcases txW_01 t f (nI 399) with g4 | g4
      · refine rl_ifF (by show icond 1 (txW t f (nI 399)) 0 = _; rw [g4]; rfl) (rl_const (rl_ret1 ⟨⟨_, rfl⟩, bad (Or.inr g4)⟩))
      · -- the days are in order
        obtain ⟨tt, w1, w2, w3⟩ : ∃ tt, tt ≤ 399 ∧ (t = nI tt ∧ ff ≤ tt) := by
          unfold txW at g4
          by_cases e : f ≤ t ∧ t ≤ nI 399
          · obtain ⟨e1, e2⟩ := e
            rw [g2, i_le, nI_ok (by omega)] at e1
            rw [i_le, nI_ok (by omega)] at e2
            refine ⟨i2n t - 2147483648, by omega, r5nI (by omega) (by omega), by omega⟩
          · rw [if_neg e] at g4
            exact absurd g4 (by decide)
        refine rl_ifT (by show icond 1 (txW t f (nI 399)) 0 = _; rw [g4]; rfl) ?_
        show Rt σ 33 (jump 33 33) _ _ _ _
        rw [j33_33]
        obtain ⟨b, qb, b1, b2, b3, b4⟩ := s10 kk k1
        obtain ⟨n5, bs, nm, -, ⟨-, -, hv⟩, -⟩ := s9 b b1
        have hv := hv 0 (by omega)
        generalize hvv : ((txEnd (txAll bs n5 nm)).2.2.2.1.getD 0 0) = v at hv
        obtain ⟨-, kb, vb, y1, y2, -⟩ := hT.1 0 b qb (by omega) b3
        have c0 : cdk 0 = 0 := by decide +kernel
        have ekb : kb = 0 := by
          rcases y2 with e | ⟨e, -⟩
          · rw [e, c0]
          · rw [c0] at e; cases e
        subst ekb
        refine rl_load rfl rfl (rl_load rfl rfl (rl_bin rfl (rl_const (rl_bin rfl (rl_load rfl rfl (ra_get hT.1 (by omega) (by omega) k3 (by rw [f2']; exact b2) (by rw [c4]; exact f2) (rl_const (rl_callv (as := [.int (Int32.ofInt 0)]) (r := [.int (t - f + Int32.ofInt 1)]) spec_27 rfl rfl y1 (by show 1 ≤ 8; omega) (two_ok m2) (X_val hT b3 hv ?_)))))))))
        by_cases hlt : v < t - f + Int32.ofInt 1
        · refine rl_icmpF (by show some (decide (t - f + Int32.ofInt 1 ≤ v)) = some false; rw [decide_eq_false (Int32.not_le.mpr hlt)]) (rl_const (rl_ret1 ⟨⟨_, rfl⟩, no rfl fun ⟨kk', ff', tt', b', v', ⟨_, z0⟩, _, _, ⟨z1, z2⟩, z3, _⟩ => ?_⟩))
          have e1 : kk' = kk := nI_inj (by omega) (by omega) (z0.symm.trans k2)
          subst e1
          have e2 := nI_inj (a := b') (b := b) ?_ (by omega) (at_int z1 b4)
          · subst e2
            exact z3 (by rw [at_int z2 hv]; exact hlt)
          · obtain ⟨q', k', vs', w1', w2', w3'⟩ := z2
            have := (hT.1 18 b' q' (by omega) w1').1
            omega
        · refine rl_icmpT (by show some (decide (t - f + Int32.ofInt 1 ≤ v)) = some true; rw [decide_eq_true (Int32.not_lt.mp hlt)]) ?_
          show Rt σ 33 (jump 33 53) _ _ _ _
          rw [j33_53]
          refine rl_load rfl rfl (ra_get hT.1 (by omega) (by omega) hox (by rw [f5']; exact s4) (by rw [c2]; exact f5) (rl_const ?_))
          by_cases hn60 : n < 60
          · refine rl_icmpT (by show some (decide (nI n < nI 60)) = some true; rw [decide_eq_true ((tx_lt (by omega) (by omega)).mpr hn60)]) ?_
            show Rt σ 33 (jump 33 65) _ _ _ _
            rw [j33_65]
            refine rl_load rfl rfl (rl_store rfl ?_)
            obtain ⟨qp, p1, p2⟩ := fld_own hT (by omega) c3 t1 k3
            obtain ⟨l, r1, r2⟩ := row_of hT.1 c6 p2 c5 (by omega)
            obtain ⟨vk, kk1, kk2⟩ := at_kind hT.1 (by omega) (by omega) p1 k3
            rw [c4] at kk1
            have nek : qk ≠ qp := ref_ne hT.2.1 k3 p2 (by omega) fun e => absurd e.1 (by omega)
            have nex : ox ≠ qp := ref_ne hT.2.1 hox p2 (by omega) fun e => absurd e.1 (by omega)
            have loop : ∀ (r j : Nat) (L : LV), ff + j + r = tt + 1 → lv_get 0 L = some (.ref ox) → lv_get 3 L = some (.int t) → lv_get 4 L = some (.ref qk) → lv_get 5 L = some (.int (nI (ff + j))) → Rt σ 33 (jump 33 68) L [] (am_set h qp (22, (fl l ff j).map .int)) (IntP (PmP ad k f t)) := by
              intro r
              induction r with
              | zero =>
                intro j L hj l0 l3 l4 l5
                rw [j33_68]
                refine rl_load l5 rfl (rl_load l3 rfl (rl_icmpT ?_ ?_))
                · show some (decide (t < nI (ff + j))) = some true
                  rw [w2, decide_eq_true ((tx_lt (by omega) (by omega)).mpr (by omega))]
                · show Rt σ 33 (jump 33 89) _ _ _ _
                  rw [j33_89]
                  have e1 : (am_set h qp (22, (fl l ff j).map .int)).1 ox = some (10, vx) := by rw [am_set_ne nex]; exact x1
                  have lx : 3 < vx.length := by
                    obtain ⟨hh, -⟩ := List.getElem?_eq_some_iff.mp x2
                    exact hh
                  refine rl_load l0 rfl (rl_dup rfl (rl_get e1 f5 (by rw [f5']; exact x2) (rl_const (rl_bin rfl (rl_put e1 f5 (by rw [f5']; exact lx) (by rw [f5'']; rfl) (rl_load l0 rfl (rl_get am_set_at f5 (by rw [f5', List.getElem?_set_self lx]) (rl_const (rl_bin rfl (rl_ret1 ⟨⟨_, rfl⟩, ?_⟩))))))))))
                  have ej : j = tt + 1 - ff := by omega
                  rw [ej]
                  exact pm_yes hT.2.1 hs0 hox ⟨k1, k2⟩ ⟨g2, w2⟩ ⟨w3, w1⟩ ⟨b4, hv⟩ ⟨hlt, hn60⟩ p2 r1 r2
              | succ r ih =>
                intro j L hj l0 l3 l4 l5
                rw [j33_68]
                have e2 : (am_set h qp (22, (fl l ff j).map .int)).1 qk = some (2, vk) := by rw [am_set_ne nek]; exact kk1
                have hi := nI_nn (show ff + j < 2147483648 by omega)
                refine rl_load l5 rfl (rl_load l3 rfl (rl_icmpF ?_ (rl_load l4 rfl (rl_get e2 f3 (by rw [f3']; exact kk2) (rl_load l5 rfl (rl_const (rl_ast am_set_at rfl hi.1 ?_ (rl_iinc l5 (rl_goto ?_)))))))))
                · show some (decide (t < nI (ff + j))) = some false
                  rw [w2, decide_eq_false (by rw [tx_lt (by omega) (by omega)]; omega)]
                · rw [hi.2, List.length_map, fl_len, r2]
                  omega
                · show Rt σ 33 (jump 33 68) _ _ _ _
                  rw [am_set_2, hi.2, nI_suc (by omega)]
                  have e3 : ((fl l ff j).map Value.int).set (ff + j) (.int (Int32.ofInt 1)) = (fl l ff (j + 1)).map Value.int := by
                    rw [fl, List.map_set]
                    rfl
                  rw [e3]
                  exact ih (j + 1) _ (by omega) (get_put rfl rfl (by omega) l0) (get_put rfl rfl (by omega) l3) (get_put rfl rfl (by omega) l4) rfl
            have := loop (tt + 1 - ff) 0 (lv_put 5 (.int f) (lv_put 4 (.ref qk) (am_args 0 [.ref ox, .int k, .int f, .int t]))) (by omega) rfl rfl rfl (by rw [g2]; rfl)
            rw [show fl l ff 0 = l from rfl, am_set_id r1] at this
            exact this
          · refine rl_icmpF (by show some (decide (nI n < nI 60)) = some false; rw [decide_eq_false (by rw [tx_lt (by omega) (by omega)]; exact hn60)]) (rl_const (rl_ret1 ⟨⟨_, rfl⟩, no rfl fun ⟨_, _, _, _, _, _, _, _, _, _, z⟩ => hn60 z⟩))
    · refine rl_ifT (by rw [g1]; rfl) ?_
      show Rt σ 33 (jump 33 30) _ _ _ _
      rw [j33_30]
      exact rl_const (rl_ret1 ⟨⟨_, rfl⟩, bad (Or.inl g1)⟩)
  · intro hno
    refine rl_store rfl (rl_load rfl rfl (rl_nulT0 ?_))
    show Rt σ 33 (jump 33 30) _ _ _ _
    rw [j33_30]
    exact rl_const (rl_ret1 ⟨⟨_, rfl⟩, no rfl fun ⟨kk, _, _, _, _, ⟨z1, z2⟩, _⟩ => hno kk z1 z2⟩)
end
/-! the model's call -/
theorem hpb_congr {pk pf pt pk' pf' pt' : Nat → Int32} {k d : Int32} : ∀ {n : Nat}, (∀ p, p < n → pk' p = pk p ∧ (pf' p = pf p ∧ pt' p = pt p)) → hpB pk' pf' pt' k d n = hpB pk pf pt k d n := by
  intro n
  induction n with
  | zero => intro _; rfl
  | succ n ih =>
    intro hn
    obtain ⟨e1, e2, e3⟩ := hn n (by omega)
    rw [hpB, hpB, ih (fun p hp => hn p (by omega)), e1, e2, e3]
theorem set_row {l : List Int32} {p n : Nat} {x : Int32} {g : Nat → Int32} (hl : n < l.length) (hg : p < n → l[p]? = some (g p)) (hp : p ≤ n) : (l.set n x)[p]? = some (if p = n then x else g p) := by
  by_cases e : p = n
  · subst e
    rw [List.getElem?_set_self hl, if_pos rfl]
  · rw [List.getElem?_set_ne (fun e2 => e e2.symm), if_neg e]
    exact hg (by omega)
section
variable {σ : Nat → Nat} {ad ad1 : AD} {h h1 : AH} {np n N ox m ol b b5 : Nat} {ex ho : Nat → Nat → Prop} {k f t : Int32} {A Bl : List Value} {s s' : MDS} {Q : Option Value → AH → Prop}
/-- what the model's reading leaves -/
theorem at_md {ad : AD} {c i p : Nat} {v : Value} (hA : A.length = 25) (he : mdH h m ol A Bl s = h) (hn1 : ad c i ≠ some ol) (hn2 : ad c i = some m → p < 25) (ha : At ad h c i p v) : At ad (mdH h m ol A Bl s') c i p v := by
  obtain ⟨q, k', vs, a1, a2, a3⟩ := ha
  by_cases e : q = m
  · subst e
    have hp := hn2 a1
    refine ⟨q, 11, mdF A Bl ol s', a1, md_m, ?_⟩
    have e2 : h.1 q = some (11, mdF A Bl ol s) := by
      have := congrArg (fun g : AH => g.1 q) he
      rw [md_m] at this
      exact this.symm
    rw [a2] at e2
    cases e2
    unfold mdF at a3 ⊢
    rw [List.getElem?_append_left (by omega)] at a3 ⊢
    exact a3
  · refine ⟨q, k', vs, a1, ?_, a3⟩
    rw [md_o e (fun e2 => hn1 (by rw [a1, e2]))]
    exact a2
theorem M_permit (hT : TS ad1 h1 np ex ho) (hup : ∀ c i q, c < 1000 → ad c i = some q → ad1 c i = some q) (hex : ∀ c, sgl c = true → ad c 0 ≠ none) (hm : ad 11 0 = some m) (hP : PmP ad k f t h1) : Rt σ 179 (codeOf 179) (am_args 0 [.ref m, .int k, .int f, .int t]) [] h1 (IntP fun h' => R5 ad h' ∧ R2 ad h') := by
  obtain ⟨N, n, pk, pf, pt, g, ⟨⟨s1, s2⟩, s5, s6⟩, r1, s7, s8, r2, hD, s9⟩ := hP
  obtain ⟨-, -, ⟨f6, f6'⟩, f7⟩ := pm_f
  obtain ⟨⟨⟨f8, f8'⟩, -⟩, ⟨⟨f9, f9'⟩, g1, g1'⟩, g2, g2'⟩ := mf_ck
  obtain ⟨⟨d1, d2⟩, -⟩ := md_ck
  obtain ⟨-, ⟨-, c7, c8⟩, ⟨⟨c9, c10⟩, c11⟩, -, e1, e2, e3⟩ := pm_c
  obtain ⟨⟨-, -, t1⟩, ⟨⟨t2, t3⟩, t4⟩, -⟩ := pm_t
  obtain ⟨⟨-, -, m1⟩, -, m2⟩ := ml_pm
  obtain ⟨⟨⟨k62, k63⟩, k64⟩⟩ : ((cdk 62 = 20 ∧ cdk 63 = 20) ∧ cdk 64 = 20) ∧ True := by decide +kernel
  have hm1 := hup 11 0 m (by omega) hm
  have up : ∀ {c i p : Nat} {v : Value}, c < 1000 → At ad h1 c i p v → At ad1 h1 c i p v := fun {c i p v} hc ha => at_up hup hc ha
  have back : ∀ {c i q : Nat}, c < 1000 → ad c i ≠ none → ad1 c i = some q → ad c i = some q := fun {c i q} hc hn e => by
    cases e2 : ad c i
    · exact absurd e2 hn
    · rename_i q2
      have := hup c i q2 hc e2
      rw [e] at this
      cases this
      rfl
  obtain ⟨-, km, vm, y1, y2, y3, -⟩ := hT.1 11 0 m (by omega) hm1
  have ekm : km = 11 := by
    rcases y2 with e | ⟨e, -⟩
    · rw [e, d1]
    · rw [d1] at e; cases e
  subst ekm
  have a19 := up (by omega) s6
  have a2 := up (by omega) s5
  -- refused: nothing changes
  have no : g = false → R5 ad h1 ∧ R2 ad h1 := fun e => by
    refine ⟨s9, n, pk, pf, pt, ⟨s2, s6⟩, r1, fun k' hk' d hd => ?_⟩
    have := r2 k' ((s7 k').mp hk') d hd
    rw [e, Bool.false_and, Bool.or_false] at this
    exact this
  have gno : (¬ ∃ kk ff tt b v, (kk < N ∧ k = nI kk) ∧ ((f = nI ff ∧ t = nI tt) ∧ ((ff ≤ tt ∧ tt ≤ 399) ∧ ((At ad h1 48 0 kk (.int (nI b)) ∧ At ad h1 18 b 0 (.int v)) ∧ (¬ v < t - f + Int32.ofInt 1 ∧ n < 60))))) → g = false := fun hn => by
    cases e : g
    · rfl
    · exact absurd (hD.mp e) hn
  have bad : txW k (nI 0) (nI N - Int32.ofInt 1) = 0 ∨ (txW f (nI 0) (nI 399) = 0 ∨ (txW t (nI 0) (nI 399) = 0 ∨ ¬ f ≤ t)) → R5 ad h1 ∧ R2 ad h1 := fun e => no (gno fun ⟨kk, ff, tt, b, v, ⟨z0, z0'⟩, ⟨z1, z2⟩, ⟨z3, z4⟩, _⟩ => by
    subst z0'
    subst z1
    subst z2
    rcases e with e | e | e | e
    · rcases txW_len (k := nI kk) (show N < 2147483648 by omega) with ⟨b, -, -, e2⟩ | ⟨-, e2⟩
      · rw [e2] at e
        exact absurd e (by decide)
      · exact e2 kk z0 rfl
    · unfold txW at e
      rw [if_pos ⟨(tx_le (by omega) (by omega)).mpr (by omega), (tx_le (by omega) (by omega)).mpr (by omega)⟩] at e
      exact absurd e (by decide)
    · unfold txW at e
      rw [if_pos ⟨(tx_le (by omega) (by omega)).mpr (by omega), (tx_le (by omega) (by omega)).mpr (by omega)⟩] at e
      exact absurd e (by decide)
    · exact e ((tx_le (by omega) (by omega)).mpr z3))
  have fin : ∀ {L : LV}, (R5 ad h1 ∧ R2 ad h1) → Rt σ 179 (jump 179 27) L [] h1 (IntP fun h' => R5 ad h' ∧ R2 ad h') := fun {L} hq => by
    rw [j179_27]
    exact rl_const (rl_ret1 ⟨⟨_, rfl⟩, hq⟩)
  rw [head_179]
  refine rl_load rfl rfl (rl_load rfl rfl (rl_callv (as := [.int k]) (r := []) spec_128 rfl rfl y1 (by show 0 ≤ 8; omega) (two_ok m1) ?_))
  rw [code_167]
  refine rl_load rfl rfl (rl_const (rl_load rfl rfl (ra_get hT.1 (by omega) (by omega) hm1 (by rw [f7.1.2]; exact a2) (by rw [d1]; exact f7.1.1) (rl_const (rl_bin rfl (min_ok (by show 0 ≤ 8; omega) (rl_ret4 (txW_01 _ _ _) ?_)))))))
  show Rt σ 179 _ _ (.int (txW k (nI 0) (nI N - Int32.ofInt 1)) :: []) h1 _
  rcases txW_len (k := k) (show N < 2147483648 by omega) with ⟨kk, k1, k2, k3⟩ | ⟨k3, -⟩
  case inr => exact rl_ifT (by rw [k3]; rfl) (fin (bad (Or.inl k3)))
  refine rl_ifF (by rw [k3]; rfl) (rl_load rfl rfl (isDay_m (by show 0 ≤ 8; omega) ?_))
  rcases txW_nat (v := f) (k := 399) (by omega) with ⟨ff, g3, g4, g5⟩ | ⟨g5, -⟩
  case inr => exact rl_ifT (by rw [g5]; rfl) (fin (bad (Or.inr (Or.inl g5))))
  refine rl_ifF (by rw [g5]; rfl) (rl_load rfl rfl (isDay_m (by show 0 ≤ 8; omega) ?_))
  rcases txW_nat (v := t) (k := 399) (by omega) with ⟨tt, w1, w2, w3⟩ | ⟨w3, -⟩
  case inr => exact rl_ifT (by rw [w3]; rfl) (fin (bad (Or.inr (Or.inr (Or.inl w3)))))
  refine rl_ifF (by rw [w3]; rfl) (rl_load rfl rfl (rl_load rfl rfl ?_))
  by_cases hft : f ≤ t
  case neg => exact rl_icmpF (by show some (decide (f ≤ t)) = some false; rw [decide_eq_false hft]) (fin (bad (Or.inr (Or.inr (Or.inr hft)))))
  refine rl_icmpT (by show some (decide (f ≤ t)) = some true; rw [decide_eq_true hft]) ?_
  show Rt σ 179 (jump 179 30) _ _ _ _
  rw [j179_30]
  have hfft : ff ≤ tt := by rw [g4, w2, tx_le (by omega) (by omega)] at hft; exact hft
  obtain ⟨b, b1, b2⟩ := s8 kk k1
  obtain ⟨n5, bs, nm, ⟨hn5, hbs⟩, ⟨-, -, hv⟩, h6, h7⟩ := s9 b b1
  have hv := hv 0 (by omega)
  refine rl_load rfl rfl (rl_load rfl rfl (rl_bin rfl (rl_const (rl_bin rfl (rl_load rfl rfl (rl_load rfl rfl (ra_row hT hm1 (by rw [f6']; exact t1) f6 fun q48 hq48 => rl_load rfl rfl ?_)))))))
  rw [k2]
  refine ra_ald hT.1 (by omega) (by omega) hq48 (up (by omega) b2) (by rw [c8]; rfl) (by omega) (rl_const (rl_callv (as := [.int (nI b), .int (Int32.ofInt 0)]) (r := [.int (t - f + Int32.ofInt 1)]) spec_135 rfl rfl y1 (by show 1 ≤ 8; omega) (three_ok m2) ?_))
  obtain ⟨m', ol, ot, oy, A, Bl, s, ⟨z1, z1'⟩, z2, z3, z4⟩ := md_form2 hT b1 hn5 (up (by omega) h6) (fun j hj => up (by omega) (h7 j hj))
  rw [hm1] at z1
  cases z1
  have hlaw := fun (Q : Option Value → AH → Prop) (hQ : ∀ s' : MDS, s'.2.2.2.2 = (txEnd (txAll bs n5 nm)).2.2.2.1 → Q (some (.int ((txEnd (txAll bs n5 nm)).2.2.2.1.getD 0 0))) (mdH h1 m ol A Bl s')) => M_lawOf (σ := σ) (w := 0) (nm := nm) (h := h1) (B := Bl) (s := s) (Q := Q) z3 b1 (by omega) z4 hQ
  rw [z2] at hlaw
  refine hlaw _ fun s' _ => ?_
  generalize hvv : ((txEnd (txAll bs n5 nm)).2.2.2.1.getD 0 0) = v at hv
  -- what stayed
  have hA : A.length = 25 := z3.1.1
  have k67 : cdk 67 = 20 := by decide +kernel
  have nol : ∀ {c i : Nat}, c < 1000 → c ≠ 67 → ad1 c i ≠ some ol := fun {c i} hc hne e => ref_ne hT.2.1 z1' e (by rw [e3]; omega) (fun e2 => hne (by rw [← e2.1, e3])) rfl
  have nm1 : ∀ {c i : Nat}, c < 1000 → c ≠ 11 → ad1 c i ≠ some m := fun {c i} hc hne e => ref_ne hT.2.1 hm1 e (by omega) (fun e2 => hne e2.1.symm) rfl
  have keep : ∀ {c i p : Nat} {v : Value}, c < 1000 → c ≠ 67 → (c = 11 → p < 25) → At ad h1 c i p v → At ad (mdH h1 m ol A Bl s') c i p v := fun {c i p v} hc hne hp ha => by
    have hn : ad c i ≠ none := by
      obtain ⟨q, _, _, e, -⟩ := ha
      rw [e]
      exact fun e => by cases e
    refine at_md hA z2 (fun e => nol hc hne (hup _ _ _ hc e)) (fun e => ?_) ha
    by_cases ec : c = 11
    · exact hp ec
    · exact absurd (hup _ _ _ hc e) (nm1 hc ec)
  have r5' : R5 ad (mdH h1 m ol A Bl s') := r5_map (fun c i p v hc ha => keep (by omega) (by omega) (fun e => by omega) ha) s9
  have no2 : g = false → R5 ad (mdH h1 m ol A Bl s') ∧ R2 ad (mdH h1 m ol A Bl s') := fun e => by
    refine ⟨r5', n, pk, pf, pt, ⟨s2, keep (by omega) (by omega) (fun _ => by omega) s6⟩, fun p hp => ?_, fun k' hk' d hd => ?_⟩
    · obtain ⟨x1, x2, x3, x4⟩ := r1 p hp
      exact ⟨keep (by omega) (by omega) (fun e => by omega) x1, keep (by omega) (by omega) (fun e => by omega) x2, keep (by omega) (by omega) (fun e => by omega) x3, x4⟩
    · have := r2 k' ((s7 k').mp hk') d hd
      rw [e, Bool.false_and, Bool.or_false] at this
      exact keep (by omega) (by omega) (fun e => by omega) this
  show Rt σ 179 _ _ (.int v :: .int (t - f + Int32.ofInt 1) :: []) _ _
  by_cases hlt : v < t - f + Int32.ofInt 1
  · refine rl_icmpF (by show some (decide (t - f + Int32.ofInt 1 ≤ v)) = some false; rw [decide_eq_false (Int32.not_le.mpr hlt)]) (rl_const (rl_ret1 ⟨⟨_, rfl⟩, no2 (gno fun ⟨kk', ff', tt', b', v', ⟨_, y0⟩, _, _, ⟨y4, y5⟩, y6, _⟩ => ?_)⟩))
    have e1 : kk' = kk := nI_inj (by omega) (by omega) (y0.symm.trans k2)
    subst e1
    have e2 := nI_inj (a := b') (b := b) ?_ (by omega) (at_int y4 b2)
    · subst e2
      exact y6 (by rw [at_int y5 hv]; exact hlt)
    · obtain ⟨q', k', vs', w1', w2', w3'⟩ := y5
      have := (hT.1 18 b' q' (by omega) (hup _ _ _ (by omega) w1')).1
      omega
  · refine rl_icmpT (by show some (decide (t - f + Int32.ofInt 1 ≤ v)) = some true; rw [decide_eq_true (Int32.not_lt.mp hlt)]) ?_
    show Rt σ 179 (jump 179 52) _ _ _ _
    rw [j179_52]
    have a19' := keep (by omega) (by omega) (fun _ => by omega) s6
    obtain ⟨mF, mF2⟩ : ∃ fs, (mdH h1 m ol A Bl s').1 m = some (11, fs) ∧ (fs.length = A.length + (Bl.length + 5) ∧ (∀ p, p < 25 → fs[p]? = A[p]?)) := ⟨mdF A Bl ol s', md_m, by unfold mdF; rw [List.length_append]; rfl, fun p hp => by unfold mdF; rw [List.getElem?_append_left (by omega)]⟩
    obtain ⟨mF1, mF2, mF3⟩ := mF2
    have aA : A[19]? = some (.int (nI n)) := by
      obtain ⟨q', k', vs', w1', w2', w3'⟩ := a19'
      rw [hm] at w1'
      cases w1'
      rw [mF1] at w2'
      cases w2'
      rw [← mF3 19 (by omega)]
      exact w3'
    have g19 : ∀ {M' pc : Nat} {tl : List (Nat × AI)} {L : LV} {S : List Value} {h' : AH} {Q : Option Value → AH → Prop} {z : Int}, h'.1 m = some (11, mF) → Rt σ M' tl L (.int (nI n) :: S) h' Q → Rt σ M' ((pc, (8, 141, z)) :: tl) L (.ref m :: S) h' Q := fun hh hr => rl_get hh f8 (by rw [f8', mF3 19 (by omega)]; exact aA) hr
    refine rl_load rfl rfl (g19 mF1 (rl_const ?_))
    by_cases hn60 : n < 60
    · have hne : ¬ nI n = nI 60 := fun e => by
        have := nI_inj (by omega) (by omega) e
        omega
      refine rl_icmpT (by show some (decide (¬ nI n = nI 60)) = some true; rw [decide_eq_true hne]) ?_
      show Rt σ 179 (jump 179 64) _ _ _ _
      rw [j179_64]
      have gT : g = true := hD.mpr ⟨kk, ff, tt, b, v, ⟨k1, k2⟩, ⟨g4, w2⟩, ⟨hfft, w1⟩, ⟨b2, hv⟩, hlt, hn60⟩
      -- the three rows
      obtain ⟨q62, p62, q62'⟩ := fld_sgl hT (by omega) d2 t2 hm1
      obtain ⟨q63, p63, q63'⟩ := fld_sgl hT (by omega) d2 t3 hm1
      obtain ⟨q64, p64, q64'⟩ := fld_sgl hT (by omega) d2 t4 hm1
      obtain ⟨l2, l21, l22⟩ := row_of hT.1 c9 q62' k62 (by omega)
      obtain ⟨l3, l31, l32⟩ := row_of hT.1 c10 q63' k63 (by omega)
      obtain ⟨l4, l41, l42⟩ := row_of hT.1 c11 q64' k64 (by omega)
      have s62 : ad 62 0 = some q62 := back (by omega) (hex 62 (by decide +kernel)) q62'
      have s63 : ad 63 0 = some q63 := back (by omega) (hex 63 (by decide +kernel)) q63'
      have s64 : ad 64 0 = some q64 := back (by omega) (hex 64 (by decide +kernel)) q64'
      have n26 : q62 ≠ m := fun e => nm1 (c := 62) (i := 0) (by omega) (by omega) (by rw [q62', e])
      have n36 : q63 ≠ m := fun e => nm1 (c := 63) (i := 0) (by omega) (by omega) (by rw [q63', e])
      have n46 : q64 ≠ m := fun e => nm1 (c := 64) (i := 0) (by omega) (by omega) (by rw [q64', e])
      have n2l : q62 ≠ ol := fun e => nol (c := 62) (i := 0) (by omega) (by omega) (by rw [q62', e])
      have n3l : q63 ≠ ol := fun e => nol (c := 63) (i := 0) (by omega) (by omega) (by rw [q63', e])
      have n4l : q64 ≠ ol := fun e => nol (c := 64) (i := 0) (by omega) (by omega) (by rw [q64', e])
      have n23 : q62 ≠ q63 := ref_ne hT.2.1 q62' q63' (by omega) fun e => absurd e.1 (by omega)
      have n24 : q62 ≠ q64 := ref_ne hT.2.1 q62' q64' (by omega) fun e => absurd e.1 (by omega)
      have n34 : q63 ≠ q64 := ref_ne hT.2.1 q63' q64' (by omega) fun e => absurd e.1 (by omega)
      have rw2 : (mdH h1 m ol A Bl s').1 q62 = some (20, l2.map .int) := by rw [md_o n26 n2l]; exact l21
      have rw3 : (mdH h1 m ol A Bl s').1 q63 = some (20, l3.map .int) := by rw [md_o n36 n3l]; exact l31
      have rw4 : (mdH h1 m ol A Bl s').1 q64 = some (20, l4.map .int) := by rw [md_o n46 n4l]; exact l41
      have fA : ∀ {p q : Nat}, p < 25 → At ad1 h1 11 0 p (.ref q) → mF[p]? = some (.ref q) := fun {p q} hp ha => by
        have ha := at_md (s' := s') hA z2 (nol (by omega) (by omega)) (fun _ => hp) ha
        obtain ⟨q', k', vs', w1', w2', w3'⟩ := ha
        rw [hm1] at w1'
        cases w1'
        rw [mF1] at w2'
        cases w2'
        exact w3'
      have f20 := fA (by omega) p62
      have f21 := fA (by omega) p63
      have f22 := fA (by omega) p64
      have hi := nI_nn (show n < 2147483648 by omega)
      have ff9 : fpos 99 = 20 ∧ (fpos 100 = 21 ∧ fpos 101 = 22) := by decide +kernel
      obtain ⟨ff9, ff10, ff11⟩ := ff9
      generalize hG : mdH h1 m ol A Bl s' = G at *
      have v1 : (am_set G q62 (20, (l2.map .int).set n (.int k))).1 m = some (11, mF) := by rw [am_set_ne n26.symm]; exact mF1
      have v2 : (am_set (am_set G q62 (20, (l2.map .int).set n (.int k))) q63 (20, (l3.map .int).set n (.int f))).1 m = some (11, mF) := by rw [am_set_ne n36.symm]; exact v1
      have v3 : (am_set (am_set (am_set G q62 (20, (l2.map .int).set n (.int k))) q63 (20, (l3.map .int).set n (.int f))) q64 (20, (l4.map .int).set n (.int t))).1 m = some (11, mF) := by rw [am_set_ne n46.symm]; exact v2
      have lx : 19 < mF.length := by rw [mF2, hA]; omega
      rw [← k2]
      refine rl_load rfl rfl (rl_get mF1 f9 (by rw [ff9]; exact f20) (rl_load rfl rfl (g19 mF1 (rl_load rfl rfl (rl_ast rw2 rfl hi.1 (by rw [hi.2, List.length_map, l22]; exact hn60) ?_)))))
      rw [hi.2]
      refine rl_load rfl rfl (rl_get v1 g1 (by rw [ff10]; exact f21) (rl_load rfl rfl (g19 v1 (rl_load rfl rfl (rl_ast (by rw [am_set_ne n23.symm]; exact rw3) rfl hi.1 (by rw [hi.2, List.length_map, l32]; exact hn60) ?_)))))
      rw [hi.2]
      refine rl_load rfl rfl (rl_get v2 g2 (by rw [ff11]; exact f22) (rl_load rfl rfl (g19 v2 (rl_load rfl rfl (rl_ast (by rw [am_set_ne n34.symm, am_set_ne n24.symm]; exact rw4) rfl hi.1 (by rw [hi.2, List.length_map, l42]; exact hn60) ?_)))))
      rw [hi.2]
      refine rl_load rfl rfl (rl_dup rfl (g19 v3 (rl_const (rl_bin rfl (rl_put v3 f8 (by rw [f8']; exact lx) (by rw [f7.2]; rfl) (rl_load rfl rfl (rl_get am_set_at f8 (by rw [f8', List.getElem?_set_self lx]) (rl_const (rl_bin rfl (rl_ret1 ⟨⟨_, rfl⟩, ?_⟩))))))))))
      rw [f8', nI_suc (by omega)]
      -- the relation
      have keep2 : ∀ {c i p : Nat} {v : Value}, c < 1000 → (c ≠ 62 ∧ (c ≠ 63 ∧ c ≠ 64)) → c ≠ 11 → At ad G c i p v → At ad (am_set (am_set (am_set (am_set G q62 (20, (l2.map .int).set n (.int k))) q63 (20, (l3.map .int).set n (.int f))) q64 (20, (l4.map .int).set n (.int t))) m (11, mF.set 19 (.int (nI (n + 1))))) c i p v := fun {c i p v} hc hne h11 ha => by
        refine at_ps (at_ps (at_ps (at_ps ha fun e => ?_) fun e => ?_) fun e => ?_) fun e => ?_
        · exact ref_ne hT.2.1 q62' (hup _ _ _ hc e) (by omega) (fun e2 => hne.1 e2.1.symm) rfl
        · exact ref_ne hT.2.1 q63' (hup _ _ _ hc e) (by omega) (fun e2 => hne.2.1 e2.1.symm) rfl
        · exact ref_ne hT.2.1 q64' (hup _ _ _ hc e) (by omega) (fun e2 => hne.2.2 e2.1.symm) rfl
        · exact nm1 hc h11 (hup _ _ _ hc e)
      refine ⟨r5_map (fun c i p v hc ha => keep2 (by omega) ⟨by omega, by omega, by omega⟩ (by omega) ha) r5', n + 1, fun p => if p = n then k else pk p, fun p => if p = n then f else pf p, fun p => if p = n then t else pt p, ⟨by omega, m, 11, _, hm, am_set_at, List.getElem?_set_self lx⟩, fun p hp => ⟨⟨q62, 20, (l2.map Value.int).set n (.int k), s62, ?_, ?_⟩, ⟨q63, 20, (l3.map Value.int).set n (.int f), s63, ?_, ?_⟩, ⟨q64, 20, (l4.map Value.int).set n (.int t), s64, ?_, ?_⟩, ?_⟩, fun k' hk' d hd => ?_⟩
      · rw [am_set_ne n26, am_set_ne n24, am_set_ne n23, am_set_at]
      · show ((l2.map Value.int).set n (.int k))[p]? = _
        rw [← List.map_set, List.getElem?_map, set_row (g := pk) (by omega) (fun hp' => at_row (at_up hup (by omega) (r1 p hp').1) q62' l21) (by omega)]
        rfl
      · rw [am_set_ne n36, am_set_ne n34, am_set_at]
      · show ((l3.map Value.int).set n (.int f))[p]? = _
        rw [← List.map_set, List.getElem?_map, set_row (g := pf) (by omega) (fun hp' => at_row (at_up hup (by omega) (r1 p hp').2.1) q63' l31) (by omega)]
        rfl
      · rw [am_set_ne n46, am_set_at]
      · show ((l4.map Value.int).set n (.int t))[p]? = _
        rw [← List.map_set, List.getElem?_map, set_row (g := pt) (by omega) (fun hp' => at_row (at_up hup (by omega) (r1 p hp').2.2.1) q64' l41) (by omega)]
        rfl
      · by_cases e : p = n
        · exact ⟨kk, by dsimp only; rw [if_pos e]; exact k2, by omega, (s7 kk).mpr k1⟩
        · obtain ⟨-, -, -, x4⟩ := r1 p (by omega)
          dsimp only
          rw [if_neg e]
          exact x4
      · have h3 := keep2 (by omega) ⟨by omega, by omega, by omega⟩ (by omega) (keep (by omega) (by omega) (fun e => absurd e (by omega)) (r2 k' ((s7 k').mp hk') d hd))
        have e4 : hpB (fun p => if p = n then k else pk p) (fun p => if p = n then f else pf p) (fun p => if p = n then t else pt p) (nI k') (nI d) (n + 1) = (hpB pk pf pt (nI k') (nI d) n || (g && decide (nI k' = k ∧ (f ≤ nI d ∧ nI d ≤ t)))) := by
          have e5 : hpB (fun p => if p = n then k else pk p) (fun p => if p = n then f else pf p) (fun p => if p = n then t else pt p) (nI k') (nI d) n = hpB pk pf pt (nI k') (nI d) n := hpb_congr (fun p hp => by
            have hpn : ¬ p = n := by omega
            rw [if_neg hpn, if_neg hpn, if_neg hpn]
            exact ⟨rfl, rfl, rfl⟩)
          rw [hpB, e5, gT, Bool.true_and]
          rw [if_pos rfl, if_pos rfl, if_pos rfl]
          congr 1
          exact decide_eq_decide.mpr ⟨fun h => ⟨h.1.symm, h.2⟩, fun h => ⟨h.1.symm, h.2⟩⟩
        rw [e4]
        exact h3
    · have en : n = 60 := by omega
      refine rl_icmpF (by show some (decide (¬ nI n = nI 60)) = some false; rw [en]; rw [decide_eq_false (fun h => h rfl)]) (rl_const (rl_ret1 ⟨⟨_, rfl⟩, no2 (gno fun ⟨_, _, _, _, _, _, _, _, _, _, z⟩ => hn60 z)⟩))
end
