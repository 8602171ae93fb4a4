/-! ===== calls that one symbolic run does not take (printed by wip/e2/prt.py) ===== -/
noncomputable def hoL : List Nat := [9, 10, 11, 19]
noncomputable def HoX (k : Nat) : Prop := k = 19
theorem ho_cases {k : Nat} (hk : k ∈ hoL) : k = 9 ∨ (k = 10 ∨ (k = 11 ∨ HoX k)) := by
  unfold hoL at hk
  unfold HoX
  simp only [List.mem_cons, List.not_mem_nil, or_false] at hk
  omega
theorem law_E19 : jump lawM 967 = (967, (1, 1, 2)) :: (acs [(968, 969, 970, 971, 972), (973, 974, 975, 976, 977), (978, 979, 980, 981, 982), (983, 984, 985, 986, 987), (988, 989, 990, 991, 992)] 1 ++ ((993, (12, 231, 0)) :: ([(996, (18, 1, 0))] ++ ((997, (1, 2, 2)) :: (acs [(998, 999, 1000, 1001, 1002), (1003, 1004, 1005, 1006, 1007), (1008, 1009, 1010, 1011, 1012), (1013, 1014, 1015, 1016, 1017), (1018, 1019, 1020, 1021, 1022)] 1 ++ ((1023, (12, 232, 0)) :: ([(1026, (18, 1, 0)), (1027, (7, 0, Int.ofNat enL))] ++ jump lawM 1030))))))) := by rw [jump_jmp, jump_jmp]; decide +kernel
theorem law_tX19 : swTs[19]? = some 967 := by decide +kernel
theorem law_sX19 : spec 231 = (1, 5, [(10, 71)]) := by decide +kernel
theorem law_sM19 : spec 232 = (1, 5, [(11, 207)]) := by decide +kernel
theorem ml_X19 : 5 + 1 ≤ mL 71 ∧ 5 + 1 ≤ mL 207 := by decide +kernel
set_option maxRecDepth 100000 in
theorem ckl_19 : okEl 71 (fra (g_n (topL (2147483648 + 19) (2147483648 + 19))) 5) (frG (topK (topL (2147483648 + 19) (2147483648 + 19))) 5) (8 * 15) = true := by decide +kernel
theorem cke_19 : ∀ j, j < 8 → okEp rbK 71 207 (fra (g_n (topL (2147483648 + 19) (2147483648 + 19))) 5) (topL (2147483648 + 19) (2147483648 + 19)) (frG (topK (topL (2147483648 + 19) (2147483648 + 19))) 5) false (j * 15) 15 = true := fun j hj => match j, hj with
      | 0, _ => cke_19_0
      | 1, _ => cke_19_1
      | 2, _ => cke_19_2
      | 3, _ => cke_19_3
      | 4, _ => cke_19_4
      | 5, _ => cke_19_5
      | 6, _ => cke_19_6
      | 7, _ => cke_19_7
      | j + 8, hj => absurd hj (by omega)
theorem call_E19 {σ nu : Nat → Nat} {ad : AD} {h : AH} {L : LV} {i q kb : Nat} {X : Int32} {vs : List Value} {Q : Option Value → AH → Prop} (hD : HD σ ad h L i) (hcn : ∀ M C, C ∈ cns M → C.1 < nC → CnOK σ C) (tR : RM ((ad, h), no2) (nu, fun _ => 0, ad) (topL (2147483648 + 19) (2147483648 + 19)) h)
    (n0 : nu 0 = 2147483648 + i) (w1 : 1 ≤ g_n (topL (2147483648 + 19) (2147483648 + 19))) (wp : g_p (topL (2147483648 + 19) (2147483648 + 19)) = npL) (wB : (kBL, sk 2147483648, (8, 0, 0), sk 2147483652) ∈ g_c (topL (2147483648 + 19) (2147483648 + 19))) (wS : (kSH, sk 2147483648, (8, 0, 0), sk 2147483652) ∈ g_c (topL (2147483648 + 19) (2147483648 + 19))) (wh : g_h (topL (2147483648 + 19) (2147483648 + 19)) = [])
    (s1 : ad kSCR 0 = some q) (s2 : lv_get 0 L = some (.ref q)) (s3 : h.1 q = some (kb, vs)) (s3' : am_ld 0 kb = true) (s5 : vs.length ≤ 3584) (s6 : i + 7 ≤ vs.length) (s7 : lv_get 3 L = some (.int X)) (s8 : i2n X = 2147483648 + i) (s9 : ∀ (p : Nat) (v : Value), vs[p]? = some v → ∃ x, v = .int x)
    (hk : ∀ (ad' : AD) (h' : AH) (L' : LV) (i' : Nat), i + 1 ≤ i' → HD σ ad' h' L' i' → h'.2.1 ≤ h.2.1 + 99 → h'.2.2 ≤ h.2.2 + 999 → Rt σ lawM (jump lawM 18) L' [] h' Q) : Rt σ lawM (jump lawM 967) L [] h Q := by
  obtain ⟨es, hes, hck⟩ := okE_all ckl_19 cke_19
  exact two_eng (cm := false) rfl rfl hes hck law_E19 rfl rfl (by omega) (by omega) law_sX19 law_sM19 ml_X19.1 ml_X19.2 hD hcn tR n0 w1 wp wB wS wh s1 s2 s3 s3' s5 s6 s7 s8 s9 fun I4 G' h' L' i' b1 b2 b3 b4 b5 b6 => hk I4.2.2 h' L' i' b1 (hd_rb hD b2 b3 b4) b5 b6
theorem call_H {σ nu : Nat → Nat} {ad : AD} {h : AH} {L : LV} {i q kb : Nat} {X : Int32} {vs : List Value} {Q : Option Value → AH → Prop} {k : Nat} (hX : HoX k) (hD : HD σ ad h L i) (hcn : ∀ M C, C ∈ cns M → C.1 < nC → CnOK σ C) (tR : RM ((ad, h), no2) (nu, fun _ => 0, ad) (topL (2147483648 + k) (2147483648 + k)) h)
    (n0 : nu 0 = 2147483648 + i) (w1 : 1 ≤ g_n (topL (2147483648 + k) (2147483648 + k))) (wp : g_p (topL (2147483648 + k) (2147483648 + k)) = npL) (wB : (kBL, sk 2147483648, (8, 0, 0), sk 2147483652) ∈ g_c (topL (2147483648 + k) (2147483648 + k))) (wS : (kSH, sk 2147483648, (8, 0, 0), sk 2147483652) ∈ g_c (topL (2147483648 + k) (2147483648 + k))) (wh : g_h (topL (2147483648 + k) (2147483648 + k)) = [])
    (s1 : ad kSCR 0 = some q) (s2 : lv_get 0 L = some (.ref q)) (s3 : h.1 q = some (kb, vs)) (s3' : am_ld 0 kb = true) (s5 : vs.length ≤ 3584) (s6 : i + 7 ≤ vs.length) (s7 : lv_get 3 L = some (.int X)) (s8 : i2n X = 2147483648 + i) (s9 : ∀ (p : Nat) (v : Value), vs[p]? = some v → ∃ x, v = .int x)
    (hk : ∀ (ad' : AD) (h' : AH) (L' : LV) (i' : Nat), i + 1 ≤ i' → HD σ ad' h' L' i' → h'.2.1 ≤ h.2.1 + 99 → h'.2.2 ≤ h.2.2 + 999 → Rt σ lawM (jump lawM 18) L' [] h' Q) : ∃ t, (k < 52 ∧ swTs[k]? = some t) ∧ Rt σ lawM (jump lawM t) L [] h Q := by
  unfold HoX at hX
  rcases hX with rfl
  · exact ⟨_, ⟨by omega, law_tX19⟩, call_E19 hD hcn tR n0 w1 wp wB wS wh s1 s2 s3 s3' s5 s6 s7 s8 s9 hk⟩
