/-! ===== calls that one symbolic run does not take (printed by wip/e2/prt.py) ===== -/
noncomputable def hoL : List Nat := [9, 10, 11]
noncomputable def HoX (k : Nat) : Prop := k = 99 ∧ k = 98
theorem ho_cases {k : Nat} (hk : k ∈ hoL) : k = 9 ∨ (k = 10 ∨ (k = 11 ∨ HoX k)) := by
  unfold hoL at hk
  unfold HoX
  simp only [List.mem_cons, List.not_mem_nil, or_false] at hk
  omega
theorem call_H {σ nu : Nat → Nat} {ad : AD} {h : AH} {L : LV} {i q kb : Nat} {X : Int32} {vs : List Value} {Q : Option Value → AH → Prop} {k : Nat} (hX : HoX k) (hD : HD σ ad h L i) (hcn : ∀ M C, C ∈ cns M → C.1 < nC → CnOK σ C) (tR : RM ((ad, h), no2) (nu, fun _ => 0, ad) (topL (2147483648 + k) (2147483648 + k)) h)
    (n0 : nu 0 = 2147483648 + i) (w1 : 1 ≤ g_n (topL (2147483648 + k) (2147483648 + k))) (wp : g_p (topL (2147483648 + k) (2147483648 + k)) = npL) (wB : (kBL, sk 2147483648, (8, 0, 0), sk 2147483652) ∈ g_c (topL (2147483648 + k) (2147483648 + k))) (wS : (kSH, sk 2147483648, (8, 0, 0), sk 2147483652) ∈ g_c (topL (2147483648 + k) (2147483648 + k))) (wh : g_h (topL (2147483648 + k) (2147483648 + k)) = [])
    (s1 : ad kSCR 0 = some q) (s2 : lv_get 0 L = some (.ref q)) (s3 : h.1 q = some (kb, vs)) (s3' : am_ld 0 kb = true) (s5 : vs.length ≤ 3584) (s6 : i + 7 ≤ vs.length) (s7 : lv_get 3 L = some (.int X)) (s8 : i2n X = 2147483648 + i) (s9 : ∀ (p : Nat) (v : Value), vs[p]? = some v → ∃ x, v = .int x)
    (hk : ∀ (ad' : AD) (h' : AH) (L' : LV) (i' : Nat), i + 1 ≤ i' → HD σ ad' h' L' i' → h'.2.1 ≤ h.2.1 + 99 → h'.2.2 ≤ h.2.2 + 999 → Rt σ lawM (jump lawM 18) L' [] h' Q) : ∃ t, (k < 52 ∧ swTs[k]? = some t) ∧ Rt σ lawM (jump lawM t) L [] h Q := by
  unfold HoX at hX
  omega
