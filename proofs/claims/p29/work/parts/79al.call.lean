/-! ===== calls that one symbolic run does not take (printed by wip/e2/prt.py) ===== -/
noncomputable def hoL : List Nat := [9, 10, 11, 15, 18, 19, 24]
noncomputable def HoX (k : Nat) : Prop := k = 15 ∨ k = 18 ∨ k = 19 ∨ k = 24
theorem ho_cases {k : Nat} (hk : k ∈ hoL) : k = 9 ∨ (k = 10 ∨ (k = 11 ∨ HoX k)) := by
  unfold hoL at hk
  unfold HoX
  simp only [List.mem_cons, List.not_mem_nil, or_false] at hk
  omega
theorem law_E15 : jump lawM 815 = (815, (1, 1, 2)) :: (acs [(816, 817, 818, 819, 820), (821, 822, 823, 824, 825), (826, 827, 828, 829, 830), (831, 832, 833, 834, 835)] 1 ++ ((836, (12, 224, 0)) :: ([(839, (18, 1, 0))] ++ ((840, (1, 2, 2)) :: (acs [(841, 842, 843, 844, 845), (846, 847, 848, 849, 850), (851, 852, 853, 854, 855), (856, 857, 858, 859, 860)] 1 ++ ((861, (12, 225, 0)) :: ([(864, (18, 1, 0)), (865, (7, 0, Int.ofNat enL))] ++ jump lawM 868))))))) := by rw [jump_jmp, jump_jmp]; decide +kernel
theorem law_tX15 : swTs[15]? = some 815 := by decide +kernel
theorem law_sX15 : spec 224 = (1, 4, [(10, 56)]) := by decide +kernel
theorem law_sM15 : spec 225 = (1, 4, [(11, 196)]) := by decide +kernel
theorem ml_X15 : 4 + 1 ≤ mL 56 ∧ 4 + 1 ≤ mL 196 := by decide +kernel
set_option maxRecDepth 100000 in
theorem ckl_15 : okEl 56 (fra (g_n (topL (2147483648 + 15) (2147483648 + 15))) 4) (frG (topK (topL (2147483648 + 15) (2147483648 + 15))) 4) (2 * 15) = true := by decide +kernel
theorem cke_15 : ∀ j, j < 2 → okEp kkN 56 196 (fra (g_n (topL (2147483648 + 15) (2147483648 + 15))) 4) (topL (2147483648 + 15) (2147483648 + 15)) (frG (topK (topL (2147483648 + 15) (2147483648 + 15))) 4) false (j * 15) 15 = true := fun j hj => match j, hj with
      | 0, _ => cke_15_0
      | 1, _ => cke_15_1
      | j + 2, hj => absurd hj (by omega)
noncomputable def nlL15 : List Nat := [0, 1, 2, 3, 18, 20, 21, 22, 27, 34, 56, 57, 58, 59, 60, 61, 163, 167, 170, 171, 174, 181, 182, 183, 184, 185, 186, 187, 188, 196, 197, 198, 275, 276, 277, 278, 279, 280, 281, 282, 283, 284]
theorem nl_P15 : (nlM nlL15 = true) ∧ (nmem 56 nlL15 = true ∧ nmem 196 nlL15 = true) := by decide +kernel
theorem call_E15 {σ nu : Nat → Nat} {ad : AD} {h : AH} {L : LV} {i q kb : Nat} {X : Int32} {vs : List Value} {Q : Option Value → AH → Prop} (hD : HD σ ad h L i) (hcn : ∀ M C, C ∈ cns M → C.1 < nC → CnOK σ C) (tR : RM ((ad, h), no2) (nu, fun _ => 0, ad) (topL (2147483648 + 15) (2147483648 + 15)) h)
    (n0 : nu 0 = 2147483648 + i) (w1 : 1 ≤ g_n (topL (2147483648 + 15) (2147483648 + 15))) (wp : g_p (topL (2147483648 + 15) (2147483648 + 15)) = npL) (wB : (kBL, sk 2147483648, (8, 0, 0), sk 2147483652) ∈ g_c (topL (2147483648 + 15) (2147483648 + 15))) (wS : (kSH, sk 2147483648, (8, 0, 0), sk 2147483652) ∈ g_c (topL (2147483648 + 15) (2147483648 + 15))) (wh : g_h (topL (2147483648 + 15) (2147483648 + 15)) = [])
    (s1 : ad kSCR 0 = some q) (s2 : lv_get 0 L = some (.ref q)) (s3 : h.1 q = some (kb, vs)) (s3' : am_ld 0 kb = true) (s5 : vs.length ≤ 3584) (s6 : i + 7 ≤ vs.length) (s7 : lv_get 3 L = some (.int X)) (s8 : i2n X = 2147483648 + i) (s9 : ∀ (p : Nat) (v : Value), vs[p]? = some v → ∃ x, v = .int x)
    (hk : ∀ (ad' : AD) (h' : AH) (L' : LV) (i' : Nat), i + 1 ≤ i' → HD σ ad' h' L' i' → h'.2.1 ≤ h.2.1 + 99 → h'.2.2 ≤ h.2.2 + 999 → Rt σ lawM (jump lawM 18) L' [] h' Q) : Rt σ lawM (jump lawM 815) L [] h Q := by
  obtain ⟨es, hes, hck⟩ := okE_all ckl_15 cke_15
  exact two_engN nl_P15.1 nl_P15.2.1 nl_P15.2.2 (cm := false) rfl rfl hes hck law_E15 rfl rfl (by omega) (by omega) law_sX15 law_sM15 ml_X15.1 ml_X15.2 hD hcn tR n0 w1 wp wB wS wh s1 s2 s3 s3' s5 s6 s7 s8 s9 fun I4 G' h' L' i' b1 b2 b3 b4 bN b5 b6 => hk I4.2.2 h' L' i' b1 (hd_nl hD b2 b3 b4 bN) b5 b6
theorem law_E18 : jump lawM 924 = (924, (1, 1, 2)) :: (acs [(925, 926, 927, 928, 929), (930, 931, 932, 933, 934), (935, 936, 937, 938, 939)] 1 ++ ((940, (12, 229, 0)) :: ([(943, (18, 1, 0))] ++ ((944, (1, 2, 2)) :: (acs [(945, 946, 947, 948, 949), (950, 951, 952, 953, 954), (955, 956, 957, 958, 959)] 1 ++ ((960, (12, 230, 0)) :: ([(963, (18, 1, 0)), (964, (7, 0, Int.ofNat enL))] ++ jump lawM 967))))))) := by rw [jump_jmp, jump_jmp]; decide +kernel
theorem law_tX18 : swTs[18]? = some 924 := by decide +kernel
theorem law_sX18 : spec 229 = (1, 3, [(10, 66)]) := by decide +kernel
theorem law_sM18 : spec 230 = (1, 3, [(11, 204)]) := by decide +kernel
theorem ml_X18 : 3 + 1 ≤ mL 66 ∧ 3 + 1 ≤ mL 204 := by decide +kernel
set_option maxRecDepth 100000 in
theorem ckl_18 : okEl 66 (fra (g_n (topL (2147483648 + 18) (2147483648 + 18))) 3) (frG (topK (topL (2147483648 + 18) (2147483648 + 18))) 3) (1 * 15) = true := by decide +kernel
theorem cke_18 : ∀ j, j < 1 → okEp kkN 66 204 (fra (g_n (topL (2147483648 + 18) (2147483648 + 18))) 3) (topL (2147483648 + 18) (2147483648 + 18)) (frG (topK (topL (2147483648 + 18) (2147483648 + 18))) 3) false (j * 15) 15 = true := fun j hj => match j, hj with
      | 0, _ => cke_18_0
      | j + 1, hj => absurd hj (by omega)
noncomputable def nlL18 : List Nat := [0, 1, 2, 3, 22, 34, 59, 63, 64, 66, 67, 68, 69, 70, 181, 182, 183, 184, 185, 186, 187, 188, 197, 200, 201, 204, 205, 206, 282, 283, 284]
theorem nl_P18 : (nlM nlL18 = true) ∧ (nmem 66 nlL18 = true ∧ nmem 204 nlL18 = true) := by decide +kernel
theorem call_E18 {σ nu : Nat → Nat} {ad : AD} {h : AH} {L : LV} {i q kb : Nat} {X : Int32} {vs : List Value} {Q : Option Value → AH → Prop} (hD : HD σ ad h L i) (hcn : ∀ M C, C ∈ cns M → C.1 < nC → CnOK σ C) (tR : RM ((ad, h), no2) (nu, fun _ => 0, ad) (topL (2147483648 + 18) (2147483648 + 18)) h)
    (n0 : nu 0 = 2147483648 + i) (w1 : 1 ≤ g_n (topL (2147483648 + 18) (2147483648 + 18))) (wp : g_p (topL (2147483648 + 18) (2147483648 + 18)) = npL) (wB : (kBL, sk 2147483648, (8, 0, 0), sk 2147483652) ∈ g_c (topL (2147483648 + 18) (2147483648 + 18))) (wS : (kSH, sk 2147483648, (8, 0, 0), sk 2147483652) ∈ g_c (topL (2147483648 + 18) (2147483648 + 18))) (wh : g_h (topL (2147483648 + 18) (2147483648 + 18)) = [])
    (s1 : ad kSCR 0 = some q) (s2 : lv_get 0 L = some (.ref q)) (s3 : h.1 q = some (kb, vs)) (s3' : am_ld 0 kb = true) (s5 : vs.length ≤ 3584) (s6 : i + 7 ≤ vs.length) (s7 : lv_get 3 L = some (.int X)) (s8 : i2n X = 2147483648 + i) (s9 : ∀ (p : Nat) (v : Value), vs[p]? = some v → ∃ x, v = .int x)
    (hk : ∀ (ad' : AD) (h' : AH) (L' : LV) (i' : Nat), i + 1 ≤ i' → HD σ ad' h' L' i' → h'.2.1 ≤ h.2.1 + 99 → h'.2.2 ≤ h.2.2 + 999 → Rt σ lawM (jump lawM 18) L' [] h' Q) : Rt σ lawM (jump lawM 924) L [] h Q := by
  obtain ⟨es, hes, hck⟩ := okE_all ckl_18 cke_18
  exact two_engN nl_P18.1 nl_P18.2.1 nl_P18.2.2 (cm := false) rfl rfl hes hck law_E18 rfl rfl (by omega) (by omega) law_sX18 law_sM18 ml_X18.1 ml_X18.2 hD hcn tR n0 w1 wp wB wS wh s1 s2 s3 s3' s5 s6 s7 s8 s9 fun I4 G' h' L' i' b1 b2 b3 b4 bN b5 b6 => hk I4.2.2 h' L' i' b1 (hd_nl hD b2 b3 b4 bN) b5 b6
theorem law_E19 : jump lawM 967 = (967, (1, 1, 2)) :: (acs [(968, 969, 970, 971, 972), (973, 974, 975, 976, 977), (978, 979, 980, 981, 982), (983, 984, 985, 986, 987), (988, 989, 990, 991, 992)] 1 ++ ((993, (12, 231, 0)) :: ([(996, (18, 1, 0))] ++ ((997, (1, 2, 2)) :: (acs [(998, 999, 1000, 1001, 1002), (1003, 1004, 1005, 1006, 1007), (1008, 1009, 1010, 1011, 1012), (1013, 1014, 1015, 1016, 1017), (1018, 1019, 1020, 1021, 1022)] 1 ++ ((1023, (12, 232, 0)) :: ([(1026, (18, 1, 0)), (1027, (7, 0, Int.ofNat enL))] ++ jump lawM 1030))))))) := by rw [jump_jmp, jump_jmp]; decide +kernel
theorem law_tX19 : swTs[19]? = some 967 := by decide +kernel
theorem law_sX19 : spec 231 = (1, 5, [(10, 71)]) := by decide +kernel
theorem law_sM19 : spec 232 = (1, 5, [(11, 207)]) := by decide +kernel
theorem ml_X19 : 5 + 1 ≤ mL 71 ∧ 5 + 1 ≤ mL 207 := by decide +kernel
set_option maxRecDepth 100000 in
theorem ckl_19 : okEl 71 (fra (g_n (topL (2147483648 + 19) (2147483648 + 19))) 5) (frG (topK (topL (2147483648 + 19) (2147483648 + 19))) 5) (3 * 15) = true := by decide +kernel
theorem cke_19 : ∀ j, j < 3 → okEp kkN 71 207 (fra (g_n (topL (2147483648 + 19) (2147483648 + 19))) 5) (topL (2147483648 + 19) (2147483648 + 19)) (frG (topK (topL (2147483648 + 19) (2147483648 + 19))) 5) false (j * 15) 15 = true := fun j hj => match j, hj with
      | 0, _ => cke_19_0
      | 1, _ => cke_19_1
      | 2, _ => cke_19_2
      | j + 3, hj => absurd hj (by omega)
noncomputable def nlL19 : List Nat := [0, 1, 2, 3, 22, 27, 34, 57, 58, 59, 60, 61, 63, 64, 67, 68, 69, 70, 71, 163, 171, 174, 181, 182, 183, 184, 185, 186, 187, 188, 197, 198, 200, 201, 205, 206, 207, 275, 276, 277, 278, 279, 280, 281, 282, 283, 284]
theorem nl_P19 : (nlM nlL19 = true) ∧ (nmem 71 nlL19 = true ∧ nmem 207 nlL19 = true) := by decide +kernel
theorem call_E19 {σ nu : Nat → Nat} {ad : AD} {h : AH} {L : LV} {i q kb : Nat} {X : Int32} {vs : List Value} {Q : Option Value → AH → Prop} (hD : HD σ ad h L i) (hcn : ∀ M C, C ∈ cns M → C.1 < nC → CnOK σ C) (tR : RM ((ad, h), no2) (nu, fun _ => 0, ad) (topL (2147483648 + 19) (2147483648 + 19)) h)
    (n0 : nu 0 = 2147483648 + i) (w1 : 1 ≤ g_n (topL (2147483648 + 19) (2147483648 + 19))) (wp : g_p (topL (2147483648 + 19) (2147483648 + 19)) = npL) (wB : (kBL, sk 2147483648, (8, 0, 0), sk 2147483652) ∈ g_c (topL (2147483648 + 19) (2147483648 + 19))) (wS : (kSH, sk 2147483648, (8, 0, 0), sk 2147483652) ∈ g_c (topL (2147483648 + 19) (2147483648 + 19))) (wh : g_h (topL (2147483648 + 19) (2147483648 + 19)) = [])
    (s1 : ad kSCR 0 = some q) (s2 : lv_get 0 L = some (.ref q)) (s3 : h.1 q = some (kb, vs)) (s3' : am_ld 0 kb = true) (s5 : vs.length ≤ 3584) (s6 : i + 7 ≤ vs.length) (s7 : lv_get 3 L = some (.int X)) (s8 : i2n X = 2147483648 + i) (s9 : ∀ (p : Nat) (v : Value), vs[p]? = some v → ∃ x, v = .int x)
    (hk : ∀ (ad' : AD) (h' : AH) (L' : LV) (i' : Nat), i + 1 ≤ i' → HD σ ad' h' L' i' → h'.2.1 ≤ h.2.1 + 99 → h'.2.2 ≤ h.2.2 + 999 → Rt σ lawM (jump lawM 18) L' [] h' Q) : Rt σ lawM (jump lawM 967) L [] h Q := by
  obtain ⟨es, hes, hck⟩ := okE_all ckl_19 cke_19
  exact two_engN nl_P19.1 nl_P19.2.1 nl_P19.2.2 (cm := false) rfl rfl hes hck law_E19 rfl rfl (by omega) (by omega) law_sX19 law_sM19 ml_X19.1 ml_X19.2 hD hcn tR n0 w1 wp wB wS wh s1 s2 s3 s3' s5 s6 s7 s8 s9 fun I4 G' h' L' i' b1 b2 b3 b4 bN b5 b6 => hk I4.2.2 h' L' i' b1 (hd_nl hD b2 b3 b4 bN) b5 b6
theorem law_E24 : jump lawM 1122 = (1122, (1, 1, 2)) :: (acs [(1123, 1124, 1125, 1126, 1127), (1128, 1129, 1130, 1131, 1132), (1133, 1134, 1135, 1136, 1137), (1138, 1139, 1140, 1141, 1142)] 1 ++ ((1143, (12, 239, 0)) :: ([(1146, (18, 1, 0))] ++ ((1147, (1, 2, 2)) :: (acs [(1148, 1149, 1150, 1151, 1152), (1153, 1154, 1155, 1156, 1157), (1158, 1159, 1160, 1161, 1162), (1163, 1164, 1165, 1166, 1167)] 1 ++ ((1168, (12, 240, 0)) :: ([(1171, (18, 1, 0)), (1172, (7, 0, Int.ofNat enL))] ++ jump lawM 1175))))))) := by rw [jump_jmp, jump_jmp]; decide +kernel
theorem law_tX24 : swTs[24]? = some 1122 := by decide +kernel
theorem law_sX24 : spec 239 = (1, 4, [(10, 79)]) := by decide +kernel
theorem law_sM24 : spec 240 = (1, 4, [(11, 215)]) := by decide +kernel
theorem ml_X24 : 4 + 1 ≤ mL 79 ∧ 4 + 1 ≤ mL 215 := by decide +kernel
set_option maxRecDepth 100000 in
theorem ckw_24 : okH kkW 79 215 4 (topL (2147483648 + 24) (2147483648 + 24)) = true := by decide +kernel
theorem call_E24 {σ nu : Nat → Nat} {ad : AD} {h : AH} {L : LV} {i q kb : Nat} {X : Int32} {vs : List Value} {Q : Option Value → AH → Prop} (hD : HD σ ad h L i) (hcn : ∀ M C, C ∈ cns M → C.1 < nC → CnOK σ C) (tR : RM ((ad, h), no2) (nu, fun _ => 0, ad) (topL (2147483648 + 24) (2147483648 + 24)) h)
    (n0 : nu 0 = 2147483648 + i) (w1 : 1 ≤ g_n (topL (2147483648 + 24) (2147483648 + 24))) (wp : g_p (topL (2147483648 + 24) (2147483648 + 24)) = npL) (wB : (kBL, sk 2147483648, (8, 0, 0), sk 2147483652) ∈ g_c (topL (2147483648 + 24) (2147483648 + 24))) (wS : (kSH, sk 2147483648, (8, 0, 0), sk 2147483652) ∈ g_c (topL (2147483648 + 24) (2147483648 + 24))) (wh : g_h (topL (2147483648 + 24) (2147483648 + 24)) = [])
    (s1 : ad kSCR 0 = some q) (s2 : lv_get 0 L = some (.ref q)) (s3 : h.1 q = some (kb, vs)) (s3' : am_ld 0 kb = true) (s5 : vs.length ≤ 3584) (s6 : i + 7 ≤ vs.length) (s7 : lv_get 3 L = some (.int X)) (s8 : i2n X = 2147483648 + i) (s9 : ∀ (p : Nat) (v : Value), vs[p]? = some v → ∃ x, v = .int x)
    (hk : ∀ (ad' : AD) (h' : AH) (L' : LV) (i' : Nat), i + 1 ≤ i' → HD σ ad' h' L' i' → h'.2.1 ≤ h.2.1 + 99 → h'.2.2 ≤ h.2.2 + 999 → Rt σ lawM (jump lawM 18) L' [] h' Q) : Rt σ lawM (jump lawM 1122) L [] h Q := by
  obtain ⟨N, T, d, hS⟩ := head_wgs hD
  have hT := hD.1.2.1
  refine two_hand (cm := false) (P := fun xs y h' => WgP ad (xs.getD 0 0) (xs.getD 1 0) (xs.getD 2 0) (xs.getD 3 0) y h') (R := fun h' => RLw ad h') rfl rfl ckw_24 law_E24 rfl rfl (by omega) (by omega) law_sX24 law_sM24 ml_X24.1 ml_X24.2 hD hcn tR n0 w1 wp wB wS wh s1 s2 s3 s3' s5 s6 s7 s8 s9 (fun ox xs hox hl => ?_) (fun om xs y ad1 h1 np ex ho hT1 hup hom hl hP => ?_) fun I4 G' h' L' i' b1 b2 b3 b4 bN b5 b6 => hk I4.2.2 h' L' i' b1 (hd_wg hD b2 b3 b4 bN) b5 b6
  · match xs, hl with
    | [a, b, c, e], _ => exact X_weigh hT hox hS
  · match xs, hl with
    | [a, b, c, e], _ => exact M_weigh hT1 hT.2.1 hup (fun c hc => by
        obtain ⟨q, hq⟩ := hT.2.2.2.1.2.1 c hc
        rw [hq]
        exact fun e => by cases e) hom hP
theorem call_H {σ nu : Nat → Nat} {ad : AD} {h : AH} {L : LV} {i q kb : Nat} {X : Int32} {vs : List Value} {Q : Option Value → AH → Prop} {k : Nat} (hX : HoX k) (hD : HD σ ad h L i) (hcn : ∀ M C, C ∈ cns M → C.1 < nC → CnOK σ C) (tR : RM ((ad, h), no2) (nu, fun _ => 0, ad) (topL (2147483648 + k) (2147483648 + k)) h)
    (n0 : nu 0 = 2147483648 + i) (w1 : 1 ≤ g_n (topL (2147483648 + k) (2147483648 + k))) (wp : g_p (topL (2147483648 + k) (2147483648 + k)) = npL) (wB : (kBL, sk 2147483648, (8, 0, 0), sk 2147483652) ∈ g_c (topL (2147483648 + k) (2147483648 + k))) (wS : (kSH, sk 2147483648, (8, 0, 0), sk 2147483652) ∈ g_c (topL (2147483648 + k) (2147483648 + k))) (wh : g_h (topL (2147483648 + k) (2147483648 + k)) = [])
    (s1 : ad kSCR 0 = some q) (s2 : lv_get 0 L = some (.ref q)) (s3 : h.1 q = some (kb, vs)) (s3' : am_ld 0 kb = true) (s5 : vs.length ≤ 3584) (s6 : i + 7 ≤ vs.length) (s7 : lv_get 3 L = some (.int X)) (s8 : i2n X = 2147483648 + i) (s9 : ∀ (p : Nat) (v : Value), vs[p]? = some v → ∃ x, v = .int x)
    (hk : ∀ (ad' : AD) (h' : AH) (L' : LV) (i' : Nat), i + 1 ≤ i' → HD σ ad' h' L' i' → h'.2.1 ≤ h.2.1 + 99 → h'.2.2 ≤ h.2.2 + 999 → Rt σ lawM (jump lawM 18) L' [] h' Q) : ∃ t, (k < 52 ∧ swTs[k]? = some t) ∧ Rt σ lawM (jump lawM t) L [] h Q := by
  unfold HoX at hX
  rcases hX with rfl | rfl | rfl | rfl
  · exact ⟨_, ⟨by omega, law_tX15⟩, call_E15 hD hcn tR n0 w1 wp wB wS wh s1 s2 s3 s3' s5 s6 s7 s8 s9 hk⟩
  · exact ⟨_, ⟨by omega, law_tX18⟩, call_E18 hD hcn tR n0 w1 wp wB wS wh s1 s2 s3 s3' s5 s6 s7 s8 s9 hk⟩
  · exact ⟨_, ⟨by omega, law_tX19⟩, call_E19 hD hcn tR n0 w1 wp wB wS wh s1 s2 s3 s3' s5 s6 s7 s8 s9 hk⟩
  · exact ⟨_, ⟨by omega, law_tX24⟩, call_E24 hD hcn tR n0 w1 wp wB wS wh s1 s2 s3 s3' s5 s6 s7 s8 s9 hk⟩
