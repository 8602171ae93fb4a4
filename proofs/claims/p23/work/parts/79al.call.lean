/-! ===== calls that one symbolic run does not take (printed by wip/e2/prt.py) ===== -/
noncomputable def hoL : List Nat := [9, 10, 11, 21]
noncomputable def HoX (k : Nat) : Prop := k = 21
theorem ho_cases {k : Nat} (hk : k ∈ hoL) : k = 9 ∨ (k = 10 ∨ (k = 11 ∨ HoX k)) := by
  unfold hoL at hk
  unfold HoX
  simp only [List.mem_cons, List.not_mem_nil, or_false] at hk
  omega
theorem law_P21 : jump lawM 1043 = (1043, (1, 1, 2)) :: (acs [(1044, 1045, 1046, 1047, 1048)] 1 ++ ((1049, (12, 234, 0)) :: (1052, (1, 2, 2)) :: (acs [(1053, 1054, 1055, 1056, 1057)] 1 ++ ((1058, (12, 235, 0)) :: ((1061, (5, 0, Int.ofNat enL)) :: jump lawM 1064))))) := by rw [jump_jmp, jump_jmp]; decide +kernel
theorem law_tX21 : swTs[21]? = some 1043 := by decide +kernel
theorem law_sX21 : spec 234 = (1, 1, [(10, 73)]) := by decide +kernel
theorem law_sM21 : spec 235 = (1, 1, [(11, 210)]) := by decide +kernel
theorem ml_X21 : 1 + 1 ≤ mL 73 ∧ 1 + 1 ≤ mL 210 := by decide +kernel
/-! the pair of calls that this part compares -/
noncomputable def pmL : List Nat := [0, 1, 2, 3, 13, 64, 73, 74, 163, 201, 210, 211, 282, 283, 284]
theorem pm_pure : pureM pmL = true := by decide +kernel
noncomputable def pcsL : List PCT := [(14, 14, (14, [(2, 0, 0, 4294967295), (3, 0, 2147483648, 2147483708)], [], [], [], [], ((0, 3), 1)), [(2, 2), (3, 3)])]
set_option maxRecDepth 100000 in
theorem ck_P : okP pcsL [14] [14] 73 210 1 (topL (2147483648 + 21) (2147483648 + 21)) = true := by decide +kernel
theorem ml_P : nmem 73 pmL = true ∧ nmem 210 pmL = true := by decide +kernel
theorem call_E21 {σ nu : Nat → Nat} {ad : AD} {h : AH} {L : LV} {i q kb : Nat} {X : Int32} {vs : List Value} {Q : Option Value → AH → Prop} (hD : HD σ ad h L i) (hcn : ∀ M C, C ∈ cns M → C.1 < nC → CnOK σ C) (tR : RM ((ad, h), no2) (nu, fun _ => 0, ad) (topL (2147483648 + 21) (2147483648 + 21)) h)
    (n0 : nu 0 = 2147483648 + i) (w1 : 1 ≤ g_n (topL (2147483648 + 21) (2147483648 + 21))) (wp : g_p (topL (2147483648 + 21) (2147483648 + 21)) = npL) (wB : (kBL, sk 2147483648, (8, 0, 0), sk 2147483652) ∈ g_c (topL (2147483648 + 21) (2147483648 + 21))) (wS : (kSH, sk 2147483648, (8, 0, 0), sk 2147483652) ∈ g_c (topL (2147483648 + 21) (2147483648 + 21))) (wh : g_h (topL (2147483648 + 21) (2147483648 + 21)) = [])
    (s1 : ad kSCR 0 = some q) (s2 : lv_get 0 L = some (.ref q)) (s3 : h.1 q = some (kb, vs)) (s3' : am_ld 0 kb = true) (s5 : vs.length ≤ 3584) (s6 : i + 7 ≤ vs.length) (s7 : lv_get 3 L = some (.int X)) (s8 : i2n X = 2147483648 + i) (s9 : ∀ (p : Nat) (v : Value), vs[p]? = some v → ∃ x, v = .int x)
    (hk : ∀ (ad' : AD) (h' : AH) (L' : LV) (i' : Nat), i + 1 ≤ i' → HD σ ad' h' L' i' → h'.2.1 ≤ h.2.1 + 99 → h'.2.2 ≤ h.2.2 + 999 → Rt σ lawM (jump lawM 18) L' [] h' Q) : Rt σ lawM (jump lawM 1043) L [] h Q :=
  call_pr pm_pure ml_P.1 ml_P.2 ck_P law_P21 rfl rfl (by omega) law_sX21 law_sM21 ml_X21.1 ml_X21.2
    (fun q vx xs Q _ _ hr => rt_mono hr fun v h' ⟨_, e, hq⟩ => (by subst e; exact ⟨rfl, hq⟩))
    (fun q vx xs Q _ _ hr => rt_mono hr fun v h' ⟨_, e, hq⟩ => (by subst e; exact ⟨rfl, hq⟩))
    hD hcn tR s2 s3 s3' s5 s6 s7 s8 s9 hk
theorem call_H {σ nu : Nat → Nat} {ad : AD} {h : AH} {L : LV} {i q kb : Nat} {X : Int32} {vs : List Value} {Q : Option Value → AH → Prop} {k : Nat} (hX : HoX k) (hD : HD σ ad h L i) (hcn : ∀ M C, C ∈ cns M → C.1 < nC → CnOK σ C) (tR : RM ((ad, h), no2) (nu, fun _ => 0, ad) (topL (2147483648 + k) (2147483648 + k)) h)
    (n0 : nu 0 = 2147483648 + i) (w1 : 1 ≤ g_n (topL (2147483648 + k) (2147483648 + k))) (wp : g_p (topL (2147483648 + k) (2147483648 + k)) = npL) (wB : (kBL, sk 2147483648, (8, 0, 0), sk 2147483652) ∈ g_c (topL (2147483648 + k) (2147483648 + k))) (wS : (kSH, sk 2147483648, (8, 0, 0), sk 2147483652) ∈ g_c (topL (2147483648 + k) (2147483648 + k))) (wh : g_h (topL (2147483648 + k) (2147483648 + k)) = [])
    (s1 : ad kSCR 0 = some q) (s2 : lv_get 0 L = some (.ref q)) (s3 : h.1 q = some (kb, vs)) (s3' : am_ld 0 kb = true) (s5 : vs.length ≤ 3584) (s6 : i + 7 ≤ vs.length) (s7 : lv_get 3 L = some (.int X)) (s8 : i2n X = 2147483648 + i) (s9 : ∀ (p : Nat) (v : Value), vs[p]? = some v → ∃ x, v = .int x)
    (hk : ∀ (ad' : AD) (h' : AH) (L' : LV) (i' : Nat), i + 1 ≤ i' → HD σ ad' h' L' i' → h'.2.1 ≤ h.2.1 + 99 → h'.2.2 ≤ h.2.2 + 999 → Rt σ lawM (jump lawM 18) L' [] h' Q) : ∃ t, (k < 52 ∧ swTs[k]? = some t) ∧ Rt σ lawM (jump lawM t) L [] h Q := by
  unfold HoX at hX
  rcases hX with rfl
  · exact ⟨_, ⟨by omega, law_tX21⟩, call_E21 hD hcn tR n0 w1 wp wB wS wh s1 s2 s3 s3' s5 s6 s7 s8 s9 hk⟩
