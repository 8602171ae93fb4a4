/-! ===== every method's bytes are its plain form ===== -/
noncomputable def chkM (M : Nat) : Bool := (match codeOf M with | (pc, _) :: _ => pc == 0 | _ => false) && chk M (mB M).data.toList (codeOf M)
theorem ch_0 : (List.range' 0 41).all chkM = true := by decide +kernel
theorem ch_1 : (List.range' 41 41).all chkM = true := by decide +kernel
theorem ch_2 : (List.range' 82 41).all chkM = true := by decide +kernel
theorem ch_3 : (List.range' 123 41).all chkM = true := by decide +kernel
theorem ch_4 : (List.range' 164 41).all chkM = true := by decide +kernel
theorem ch_5 : (List.range' 205 41).all chkM = true := by decide +kernel
theorem ch_6 : (List.range' 246 41).all chkM = true := by decide +kernel
theorem ch_7 : (List.range' 287 2).all chkM = true := by decide +kernel
theorem ch_all {M : Nat} (h : M < nM) : chkM M = true := by
  have h1 : M < 289 := h
  by_cases h2 : M < 41
  · exact List.all_eq_true.mp ch_0 M (List.mem_range'.mpr ⟨M - 0, by omega, by omega⟩)
  by_cases h3 : M < 82
  · exact List.all_eq_true.mp ch_1 M (List.mem_range'.mpr ⟨M - 41, by omega, by omega⟩)
  by_cases h4 : M < 123
  · exact List.all_eq_true.mp ch_2 M (List.mem_range'.mpr ⟨M - 82, by omega, by omega⟩)
  by_cases h5 : M < 164
  · exact List.all_eq_true.mp ch_3 M (List.mem_range'.mpr ⟨M - 123, by omega, by omega⟩)
  by_cases h6 : M < 205
  · exact List.all_eq_true.mp ch_4 M (List.mem_range'.mpr ⟨M - 164, by omega, by omega⟩)
  by_cases h7 : M < 246
  · exact List.all_eq_true.mp ch_5 M (List.mem_range'.mpr ⟨M - 205, by omega, by omega⟩)
  by_cases h8 : M < 287
  · exact List.all_eq_true.mp ch_6 M (List.mem_range'.mpr ⟨M - 246, by omega, by omega⟩)
  by_cases h9 : M < 289
  · exact List.all_eq_true.mp ch_7 M (List.mem_range'.mpr ⟨M - 287, by omega, by omega⟩)
  omega
theorem sw_0 : SwOK 19 14 0 := ⟨101, 0, 6, #[42, 47, 52, 57, 62, 75, 81], 42, 115, [56, 61, 66, 71, 76, 89, 95], by decide +kernel, by decide +kernel, by decide +kernel, by decide +kernel⟩
theorem sw_1 : SwOK 26 20 1 := ⟨66, 0, 2, #[28, 33, 51], 28, 86, [48, 53, 71], by decide +kernel, by decide +kernel, by decide +kernel, by decide +kernel⟩
theorem sw_2 : SwOK 65 20 2 := ⟨133, 0, 8, #[52, 60, 68, 73, 78, 83, 88, 103, 118], 52, 153, [72, 80, 88, 93, 98, 103, 108, 123, 138], by decide +kernel, by decide +kernel, by decide +kernel, by decide +kernel⟩
theorem sw_3 : SwOK 114 1 3 := ⟨73, 1, 5, #[35, 41, 49, 55, 67], 35, 74, [36, 42, 50, 56, 68], by decide +kernel, by decide +kernel, by decide +kernel, by decide +kernel⟩
theorem sw_4 : SwOK 155 1 4 := ⟨141, 0, 11, #[63, 68, 76, 84, 89, 97, 102, 110, 115, 120, 131, 136], 63, 142, [64, 69, 77, 85, 90, 98, 103, 111, 116, 121, 132, 137], by decide +kernel, by decide +kernel, by decide +kernel, by decide +kernel⟩
theorem sw_5 : SwOK 169 1 5 := ⟨106, 0, 6, #[43, 50, 57, 64, 71, 86, 92], 43, 107, [44, 51, 58, 65, 72, 87, 93], by decide +kernel, by decide +kernel, by decide +kernel, by decide +kernel⟩
theorem sw_6 : SwOK 203 1 6 := ⟨114, 0, 8, #[51, 58, 65, 72, 79, 86, 93, 100, 107], 51, 115, [52, 59, 66, 73, 80, 87, 94, 101, 108], by decide +kernel, by decide +kernel, by decide +kernel, by decide +kernel⟩
theorem sw_7 : SwOK 242 24 7 := ⟨107, 1, 5, #[36, 59, 67, 82, 90], 36, 131, [60, 83, 91, 106, 114], by decide +kernel, by decide +kernel, by decide +kernel, by decide +kernel⟩
theorem sw_8 : SwOK 270 3 8 := ⟨240, 0, 11, #[61, 66, 71, 76, 111, 116, 121, 126, 161, 166, 171, 206], 61, 243, [64, 69, 74, 79, 114, 119, 124, 129, 164, 169, 174, 209], by decide +kernel, by decide +kernel, by decide +kernel, by decide +kernel⟩
theorem sw_9 : SwOK 288 33 9 := ⟨2063, 0, 51, #[223, 246, 295, 348, 397, 430, 453, 486, 561, 594, 637, 670, 693, 716, 749, 782, 835, 858, 891, 934, 997, 1010, 1033, 1066, 1089, 1142, 1165, 1198, 1231, 1284, 1327, 1370, 1413, 1456, 1479, 1522, 1555, 1578, 1621, 1634, 1657, 1680, 1723, 1756, 1769, 1812, 1835, 1888, 1931, 1994, 2027, 2050], 223, 2096, [256, 279, 328, 381, 430, 463, 486, 519, 594, 627, 670, 703, 726, 749, 782, 815, 868, 891, 924, 967, 1030, 1043, 1066, 1099, 1122, 1175, 1198, 1231, 1264, 1317, 1360, 1403, 1446, 1489, 1512, 1555, 1588, 1611, 1654, 1667, 1690, 1713, 1756, 1789, 1802, 1845, 1868, 1921, 1964, 2027, 2060, 2083], by decide +kernel, by decide +kernel, by decide +kernel, by decide +kernel⟩
theorem sw_all : ∀ x ∈ swl, SwOK x.1 x.2.1 x.2.2 := by
  unfold swl
  simp only [List.forall_mem_cons, List.not_mem_nil, false_implies, implies_true, and_true]
  exact ⟨sw_0, sw_1, sw_2, sw_3, sw_4, sw_5, sw_6, sw_7, sw_8, sw_9⟩
noncomputable def GoodC (M : Nat) (cd : List (Nat × AI)) : Prop := match cd with
  | [] => True
  | (pc, _) :: _ => chk M ((mB M).data.toList.drop pc) cd = true
noncomputable def nxt (M pc : Nat) (tl : List (Nat × AI)) : Nat := match tl with
  | [] => pc + ((mB M).data.toList.drop pc).length
  | (q, _) :: _ => q
theorem goodC_step {M pc : Nat} {ai : AI} {tl : List (Nat × AI)} (h : GoodC M ((pc, ai) :: tl)) : Lk M pc (nxt M pc tl) ai ∧ GoodC M tl := by
  unfold GoodC at h
  dsimp only at h
  unfold chk at h
  dsimp only at h
  rw [Bool.and_eq_true, Bool.and_eq_true] at h
  obtain ⟨h1, h2, h3⟩ := h
  constructor
  · rcases Bool.or_eq_true_iff.mp h1 with h1 | h1
    · exact Or.inr (Or.inr (by simpa using h1))
    · rcases Bool.or_eq_true_iff.mp h1 with h1 | h1
      · simp only [Bool.and_eq_true, beq_iff_eq] at h1
        obtain ⟨e1, -, e3⟩ := h1
        have e4 : (M, pc, ai.2.1) ∈ swl := List.contains_iff_mem.mp e3
        have e5 : SwOK M pc ai.2.1 := sw_all (M, pc, ai.2.1) e4
        exact Or.inr (Or.inl ⟨e1, e5⟩)
      · cases hp : par ((mB M).data.toList.drop pc) with
        | none => rw [hp] at h1; cases h1
        | some x =>
          obtain ⟨i, n⟩ := x
          rw [hp] at h1
          simp only [Bool.and_eq_true, decide_eq_true_eq] at h1
          obtain ⟨e1, e2, e3⟩ := h1
          subst e1
          refine Or.inl ⟨i, par_ok rfl hp, ?_, e3⟩
          rw [← e2]
          unfold nxt
          cases tl <;> rfl
  · cases tl with
    | nil => trivial
    | cons y tl =>
      obtain ⟨q, b⟩ := y
      simp only [decide_eq_true_eq] at h2
      have e : List.drop (q - pc) (List.drop pc (mB M).data.toList) = List.drop q (mB M).data.toList := by
        rw [List.drop_drop]; congr 1; omega
      show chk M (List.drop q _) _ = true
      rw [← e]
      exact h3
theorem goodC_suf {M : Nat} : ∀ {a b : List (Nat × AI)}, GoodC M (a ++ b) → GoodC M b := by
  intro a
  induction a with
  | nil => intro b h; exact h
  | cons x a ih => intro b h; exact ih (goodC_step h).2
theorem goodC_all {M : Nat} (h : M < nM) : GoodC M (codeOf M) ∧ (codeOf M).head?.map Prod.fst = some 0 := by
  have h1 := ch_all h
  unfold chkM at h1
  rw [Bool.and_eq_true] at h1
  cases hc : codeOf M with
  | nil => rw [hc] at h1; exact absurd h1.1 (by decide)
  | cons x tl =>
    obtain ⟨pc, ai⟩ := x
    rw [hc] at h1
    obtain ⟨e1, e2⟩ := h1
    have e1 : pc = 0 := by simpa using e1
    subst e1
    exact ⟨by show chk M _ _ = true; rw [List.drop_zero]; exact e2, rfl⟩
theorem goodC_jump {M t : Nat} (h : M < nM) : GoodC M (jump M t) ∧ ∀ x tl, jump M t = x :: tl → x.1 = t := by
  constructor
  · obtain ⟨a, ha⟩ := List.dropWhile_suffix (fun x : Nat × AI => !(x.1 == t)) (l := codeOf M)
    refine goodC_suf (a := a) ?_
    unfold jump
    rw [ha]
    exact (goodC_all h).1
  · intro x tl hx
    have h1 := List.head?_dropWhile_not (fun x : Nat × AI => !(x.1 == t)) (codeOf M)
    unfold jump at hx
    rw [hx] at h1
    simpa using h1
