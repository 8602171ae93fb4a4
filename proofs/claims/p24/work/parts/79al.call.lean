/-! ===== calls that one symbolic run does not take (printed by wip/e2/prt.py) ===== -/
noncomputable def hoL : List Nat := [9, 10, 11, 22]
noncomputable def HoX (k : Nat) : Prop := k = 22
theorem ho_cases {k : Nat} (hk : k ∈ hoL) : k = 9 ∨ (k = 10 ∨ (k = 11 ∨ HoX k)) := by
  unfold hoL at hk
  unfold HoX
  simp only [List.mem_cons, List.not_mem_nil, or_false] at hk
  omega
theorem law_P22 : jump lawM 1066 = (1066, (1, 1, 2)) :: (acs [(1067, 1068, 1069, 1070, 1071), (1072, 1073, 1074, 1075, 1076)] 1 ++ ((1077, (12, 236, 0)) :: (1080, (1, 2, 2)) :: (acs [(1081, 1082, 1083, 1084, 1085), (1086, 1087, 1088, 1089, 1090)] 1 ++ ((1091, (12, 237, 0)) :: ((1094, (5, 0, Int.ofNat enL)) :: jump lawM 1097))))) := by rw [jump_jmp, jump_jmp]; decide +kernel
theorem law_tX22 : swTs[22]? = some 1066 := by decide +kernel
theorem law_sX22 : spec 236 = (1, 2, [(10, 75)]) := by decide +kernel
theorem law_sM22 : spec 237 = (1, 2, [(11, 212)]) := by decide +kernel
theorem ml_X22 : 2 + 1 ≤ mL 75 ∧ 2 + 1 ≤ mL 212 := by decide +kernel
/-! the pair of calls that this part compares -/
noncomputable def pmL : List Nat := [0, 1, 2, 3, 13, 64, 74, 75, 163, 201, 211, 212, 282, 283, 284]
theorem pm_pure : pureM pmL = true := by decide +kernel
noncomputable def pcsL : List PCT := [(19, 19, (19, [(3, 0, 2147483648, 4294967295), (4, 0, 2147483648, 2147483708)], [], [], [], [], ((0, 4), 1)), [(3, 3), (4, 4)])]
set_option maxRecDepth 100000 in
theorem ck_P : okP pcsL [19] [19] 75 212 2 (topL (2147483648 + 22) (2147483648 + 22)) = true := by decide +kernel
theorem ml_P : nmem 75 pmL = true ∧ nmem 212 pmL = true := by decide +kernel
theorem call_E22 {σ nu : Nat → Nat} {ad : AD} {h : AH} {L : LV} {i q kb : Nat} {X : Int32} {vs : List Value} {Q : Option Value → AH → Prop} (hD : HD σ ad h L i) (hcn : ∀ M C, C ∈ cns M → C.1 < nC → CnOK σ C) (tR : RM ((ad, h), no2) (nu, fun _ => 0, ad) (topL (2147483648 + 22) (2147483648 + 22)) h)
    (n0 : nu 0 = 2147483648 + i) (w1 : 1 ≤ g_n (topL (2147483648 + 22) (2147483648 + 22))) (wp : g_p (topL (2147483648 + 22) (2147483648 + 22)) = npL) (wB : (kBL, sk 2147483648, (8, 0, 0), sk 2147483652) ∈ g_c (topL (2147483648 + 22) (2147483648 + 22))) (wS : (kSH, sk 2147483648, (8, 0, 0), sk 2147483652) ∈ g_c (topL (2147483648 + 22) (2147483648 + 22))) (wh : g_h (topL (2147483648 + 22) (2147483648 + 22)) = [])
    (s1 : ad kSCR 0 = some q) (s2 : lv_get 0 L = some (.ref q)) (s3 : h.1 q = some (kb, vs)) (s3' : am_ld 0 kb = true) (s5 : vs.length ≤ 3584) (s6 : i + 7 ≤ vs.length) (s7 : lv_get 3 L = some (.int X)) (s8 : i2n X = 2147483648 + i) (s9 : ∀ (p : Nat) (v : Value), vs[p]? = some v → ∃ x, v = .int x)
    (hk : ∀ (ad' : AD) (h' : AH) (L' : LV) (i' : Nat), i + 1 ≤ i' → HD σ ad' h' L' i' → h'.2.1 ≤ h.2.1 + 99 → h'.2.2 ≤ h.2.2 + 999 → Rt σ lawM (jump lawM 18) L' [] h' Q) : Rt σ lawM (jump lawM 1066) L [] h Q :=
  call_pr pm_pure ml_P.1 ml_P.2 ck_P law_P22 rfl rfl (by omega) law_sX22 law_sM22 ml_X22.1 ml_X22.2
    (fun q vx xs Q _ _ hr => rt_mono hr fun v h' ⟨_, e, hq⟩ => (by subst e; exact ⟨rfl, hq⟩))
    (fun q vx xs Q _ _ hr => rt_mono hr fun v h' ⟨_, e, hq⟩ => (by subst e; exact ⟨rfl, hq⟩))
    hD hcn tR s2 s3 s3' s5 s6 s7 s8 s9 hk
theorem call_H {σ nu : Nat → Nat} {ad : AD} {h : AH} {L : LV} {i q kb : Nat} {X : Int32} {vs : List Value} {Q : Option Value → AH → Prop} {k : Nat} (hX : HoX k) (hD : HD σ ad h L i) (hcn : ∀ M C, C ∈ cns M → C.1 < nC → CnOK σ C) (tR : RM ((ad, h), no2) (nu, fun _ => 0, ad) (topL (2147483648 + k) (2147483648 + k)) h)
    (n0 : nu 0 = 2147483648 + i) (w1 : 1 ≤ g_n (topL (2147483648 + k) (2147483648 + k))) (wp : g_p (topL (2147483648 + k) (2147483648 + k)) = npL) (wB : (kBL, sk 2147483648, (8, 0, 0), sk 2147483652) ∈ g_c (topL (2147483648 + k) (2147483648 + k))) (wS : (kSH, sk 2147483648, (8, 0, 0), sk 2147483652) ∈ g_c (topL (2147483648 + k) (2147483648 + k))) (wh : g_h (topL (2147483648 + k) (2147483648 + k)) = [])
    (s1 : ad kSCR 0 = some q) (s2 : lv_get 0 L = some (.ref q)) (s3 : h.1 q = some (kb, vs)) (s3' : am_ld 0 kb = true) (s5 : vs.length ≤ 3584) (s6 : i + 7 ≤ vs.length) (s7 : lv_get 3 L = some (.int X)) (s8 : i2n X = 2147483648 + i) (s9 : ∀ (p : Nat) (v : Value), vs[p]? = some v → ∃ x, v = .int x)
    (hk : ∀ (ad' : AD) (h' : AH) (L' : LV) (i' : Nat), i + 1 ≤ i' → HD σ ad' h' L' i' → h'.2.1 ≤ h.2.1 + 99 → h'.2.2 ≤ h.2.2 + 999 → Rt σ lawM (jump lawM 18) L' [] h' Q) : ∃ t, (k < 52 ∧ swTs[k]? = some t) ∧ Rt σ lawM (jump lawM t) L [] h Q := by
  unfold HoX at hX
  rcases hX with rfl
  · exact ⟨_, ⟨by omega, law_tX22⟩, call_E22 hD hcn tR n0 w1 wp wB wS wh s1 s2 s3 s3' s5 s6 s7 s8 s9 hk⟩
