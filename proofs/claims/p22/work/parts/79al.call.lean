/-! ===== calls that one symbolic run does not take (printed by wip/e2/prt.py) ===== -/
noncomputable def hoL : List Nat := [9, 10, 11, 20]
noncomputable def HoX (k : Nat) : Prop := k = 20
theorem ho_cases {k : Nat} (hk : k ∈ hoL) : k = 9 ∨ (k = 10 ∨ (k = 11 ∨ HoX k)) := by
  unfold hoL at hk
  unfold HoX
  simp only [List.mem_cons, List.not_mem_nil, or_false] at hk
  omega
theorem law_P20 : jump lawM 1030 = (1030, (1, 1, 2)) :: (acs [] 1 ++ ((1031, (12, 123, 0)) :: (1034, (1, 2, 2)) :: (acs [] 1 ++ ((1035, (12, 233, 0)) :: ((1038, (5, 0, Int.ofNat enL)) :: jump lawM 1041))))) := by rw [jump_jmp, jump_jmp]; decide +kernel
theorem law_tX20 : swTs[20]? = some 1030 := by decide +kernel
theorem law_sX20 : spec 123 = (1, 0, [(10, 72)]) := by decide +kernel
theorem law_sM20 : spec 233 = (1, 0, [(11, 208)]) := by decide +kernel
theorem ml_X20 : 0 + 1 ≤ mL 72 ∧ 0 + 1 ≤ mL 208 := by decide +kernel
/-! the pair of calls that this part compares -/
noncomputable def pmL : List Nat := [0, 1, 2, 3, 22, 64, 72, 171, 201, 208, 209, 282, 283, 284]
theorem pm_pure : pureM pmL = true := by decide +kernel
noncomputable def pcsL : List PCT := [(4, 4, (4, [(1, 0, 0, 4294967295), (2, 0, 2147483648, 2147483708)], [], [], [], [], ((0, 2), 1)), [(1, 1), (2, 2)])]
set_option maxRecDepth 100000 in
theorem ck_P : okP pcsL [4] [4] 72 209 0 (topL (2147483648 + 20) (2147483648 + 20)) = true := by decide +kernel
theorem ml_P : nmem 72 pmL = true ∧ nmem 209 pmL = true := by decide +kernel
theorem code_W208 : codeOf 208 = [(0, (1, 0, 2)), (1, (12, 153, 0)), (4, (13, 1, 0))] := by decide +kernel
theorem spec_W208 : spec 153 = (1, 0, [(11, 209)]) := by decide +kernel
theorem ml_W208 : 1 ≤ mL 209 := by decide +kernel
theorem call_E20 {σ nu : Nat → Nat} {ad : AD} {h : AH} {L : LV} {i q kb : Nat} {X : Int32} {vs : List Value} {Q : Option Value → AH → Prop} (hD : HD σ ad h L i) (hcn : ∀ M C, C ∈ cns M → C.1 < nC → CnOK σ C) (tR : RM ((ad, h), no2) (nu, fun _ => 0, ad) (topL (2147483648 + 20) (2147483648 + 20)) h)
    (n0 : nu 0 = 2147483648 + i) (w1 : 1 ≤ g_n (topL (2147483648 + 20) (2147483648 + 20))) (wp : g_p (topL (2147483648 + 20) (2147483648 + 20)) = npL) (wB : (kBL, sk 2147483648, (8, 0, 0), sk 2147483652) ∈ g_c (topL (2147483648 + 20) (2147483648 + 20))) (wS : (kSH, sk 2147483648, (8, 0, 0), sk 2147483652) ∈ g_c (topL (2147483648 + 20) (2147483648 + 20))) (wh : g_h (topL (2147483648 + 20) (2147483648 + 20)) = [])
    (s1 : ad kSCR 0 = some q) (s2 : lv_get 0 L = some (.ref q)) (s3 : h.1 q = some (kb, vs)) (s3' : am_ld 0 kb = true) (s5 : vs.length ≤ 3584) (s6 : i + 7 ≤ vs.length) (s7 : lv_get 3 L = some (.int X)) (s8 : i2n X = 2147483648 + i) (s9 : ∀ (p : Nat) (v : Value), vs[p]? = some v → ∃ x, v = .int x)
    (hk : ∀ (ad' : AD) (h' : AH) (L' : LV) (i' : Nat), i + 1 ≤ i' → HD σ ad' h' L' i' → h'.2.1 ≤ h.2.1 + 99 → h'.2.2 ≤ h.2.2 + 999 → Rt σ lawM (jump lawM 18) L' [] h' Q) : Rt σ lawM (jump lawM 1030) L [] h Q :=
  call_pr pm_pure ml_P.1 ml_P.2 ck_P law_P20 rfl rfl (by omega) law_sX20 law_sM20 ml_X20.1 ml_X20.2
    (fun q vx xs Q _ _ hr => rt_mono hr fun v h' ⟨_, e, hq⟩ => (by subst e; exact ⟨rfl, hq⟩))
    (fun q vx xs Q hq hl hr => (by
      have e0 := List.length_eq_zero_iff.mp hl
      subst e0
      rw [code_W208]
      exact rl_load rfl rfl (rl_callv (as := []) (r := []) spec_W208 rfl rfl hq (by show 0 ≤ 8; omega) (ref_ok ml_W208) (rt_mono hr fun v h' ⟨⟨Y, e1⟩, e2, e3⟩ => (by subst e1; subst e2; exact rl_ret1 ⟨rfl, e3⟩)))))
    hD hcn tR s2 s3 s3' s5 s6 s7 s8 s9 hk
theorem call_H {σ nu : Nat → Nat} {ad : AD} {h : AH} {L : LV} {i q kb : Nat} {X : Int32} {vs : List Value} {Q : Option Value → AH → Prop} {k : Nat} (hX : HoX k) (hD : HD σ ad h L i) (hcn : ∀ M C, C ∈ cns M → C.1 < nC → CnOK σ C) (tR : RM ((ad, h), no2) (nu, fun _ => 0, ad) (topL (2147483648 + k) (2147483648 + k)) h)
    (n0 : nu 0 = 2147483648 + i) (w1 : 1 ≤ g_n (topL (2147483648 + k) (2147483648 + k))) (wp : g_p (topL (2147483648 + k) (2147483648 + k)) = npL) (wB : (kBL, sk 2147483648, (8, 0, 0), sk 2147483652) ∈ g_c (topL (2147483648 + k) (2147483648 + k))) (wS : (kSH, sk 2147483648, (8, 0, 0), sk 2147483652) ∈ g_c (topL (2147483648 + k) (2147483648 + k))) (wh : g_h (topL (2147483648 + k) (2147483648 + k)) = [])
    (s1 : ad kSCR 0 = some q) (s2 : lv_get 0 L = some (.ref q)) (s3 : h.1 q = some (kb, vs)) (s3' : am_ld 0 kb = true) (s5 : vs.length ≤ 3584) (s6 : i + 7 ≤ vs.length) (s7 : lv_get 3 L = some (.int X)) (s8 : i2n X = 2147483648 + i) (s9 : ∀ (p : Nat) (v : Value), vs[p]? = some v → ∃ x, v = .int x)
    (hk : ∀ (ad' : AD) (h' : AH) (L' : LV) (i' : Nat), i + 1 ≤ i' → HD σ ad' h' L' i' → h'.2.1 ≤ h.2.1 + 99 → h'.2.2 ≤ h.2.2 + 999 → Rt σ lawM (jump lawM 18) L' [] h' Q) : ∃ t, (k < 52 ∧ swTs[k]? = some t) ∧ Rt σ lawM (jump lawM t) L [] h Q := by
  unfold HoX at hX
  rcases hX with rfl
  · exact ⟨_, ⟨by omega, law_tX20⟩, call_E20 hD hcn tR n0 w1 wp wB wS wh s1 s2 s3 s3' s5 s6 s7 s8 s9 hk⟩
