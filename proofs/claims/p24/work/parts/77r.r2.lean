/-! ===== permits: the relation is kept ===== -/
theorem knc : useR2 = true → hcL.take 3 = [(0, 1538, 2147483648, 2147483672), (2, 2, 1, 0), (0, 1410, 1, 0)] := by decide +kernel
theorem cdm_24 : cdm 24 = 401 := by decide +kernel
section
variable {B : BS} {I : IN} {h : AH} {ad : AD} {σ : Nat → Nat} {K : List Nat} {u q i : Nat} {L : LV}
theorem hvs_drop : ∀ {j : Nat} {hc : List (Nat × Nat × Nat × Nat)} {ws : List Nat} {u : Nat}, HVs ad h u hc ws → ∃ u', HVs ad h u' (hc.drop j) (ws.drop j) := by
  intro j
  induction j with
  | zero => intro hc ws u hv; exact ⟨u, hv⟩
  | succ j ih =>
    intro hc ws u hv
    match hc, ws, hv with
    | [], [], _ => exact ⟨u, True.intro⟩
    | a :: r, w :: ws, ⟨_, _, h3⟩ => exact ih h3
/-- two places of one number -/
theorem hv_pair {a1 a2 lo hi : Nat} {r : List (Nat × Nat × Nat × Nat)} {ws : List Nat} (hl : lo ≤ hi) (hv : HVs ad h u ((0, a1, lo, hi) :: (0, a2, 1, 0) :: r) ws) : ∃ X, (At ad h (a1 / 128) 0 (a1 % 128) (.int X) ∧ At ad h (a2 / 128) 0 (a2 % 128) (.int X)) ∧ (lo ≤ i2n X ∧ i2n X ≤ hi) := by
  match ws, hv with
  | w0 :: w1 :: ws, ⟨p0, r0, p1, r1, _⟩ =>
    have e0 : lo ≤ w0 ∧ w0 ≤ hi := by
      unfold rngB at r0
      rw [Nat.ble_eq_true_of_le hl, cond_true] at r0
      obtain ⟨x, y⟩ := and2 r0
      exact ⟨blet x, blet y⟩
    have e1 : w1 = w0 := beqt r1
    rcases p0 with ⟨-, X, x1, x2⟩ | ⟨e, -⟩
    · rcases p1 with ⟨-, Y, y1, y2⟩ | ⟨e, -⟩
      · have eXY : Y = X := i2n_inj (by rw [x2, y2, e1])
        subst eXY
        exact ⟨Y, ⟨x1, y1⟩, by omega⟩
      · cases e
    · cases e
/-- a list's length, the number of its objects, and the model's -/
theorem hv_list {a1 a2 el hi : Nat} {r : List (Nat × Nat × Nat × Nat)} {ws : List Nat} (hl : hi ≤ 1000) (hv : HVs ad h u ((0, a1, 2147483648, 2147483648 + hi) :: (2, el, 1, 0) :: (0, a2, 1, 0) :: r) ws) : ∃ N, N ≤ hi ∧ ((At ad h (a1 / 128) 0 (a1 % 128) (.int (nI N)) ∧ At ad h (a2 / 128) 0 (a2 % 128) (.int (nI N))) ∧ ∀ k, ad el k ≠ none ↔ k < N) := by
  match ws, hv with
  | w0 :: w1 :: w2 :: ws, ⟨p0, r0, p1, r1, p2, r2, _⟩ =>
    have e0 : 2147483648 ≤ w0 ∧ w0 ≤ 2147483648 + hi := by
      unfold rngB at r0
      rw [show Nat.ble 2147483648 (2147483648 + hi) = true from Nat.ble_eq_true_of_le (Nat.le_add_right _ _), cond_true] at r0
      obtain ⟨x, y⟩ := and2 r0
      exact ⟨blet x, blet y⟩
    have e1 : w1 = w0 := beqt r1
    have e2 : w2 = w1 := beqt r2
    obtain ⟨N, eN⟩ : ∃ N, w0 = 2147483648 + N := ⟨w0 - 2147483648, by omega⟩
    rcases p0 with ⟨-, X, x1, x2⟩ | ⟨e, -⟩
    · rcases p1 with ⟨e, -⟩ | ⟨-, p1⟩
      · cases e
      · rcases p2 with ⟨-, Y, y1, y2⟩ | ⟨e, -⟩
        · have eX : X = nI N := r5nI (by rw [x2]; omega) (by omega)
          have eY : Y = nI N := r5nI (by rw [y2]; omega) (by omega)
          subst eX
          subst eY
          exact ⟨N, by omega, ⟨x1, y1⟩, fun k => (p1 k).trans (by rw [e1, eN]; omega)⟩
        · cases e
    · cases e
/-- the kerbs of both sides -/
theorem head_kl (hu : useR2 = true) (hH : HeadOK σ ad h L i) : ∃ N, N ≤ 24 ∧ ((At ad h 12 0 2 (.int (nI N)) ∧ At ad h 11 0 2 (.int (nI N))) ∧ ∀ k, ad 2 k ≠ none ↔ k < N) := by
  obtain ⟨-, -, -, -, -, -, u, ws, hv, -⟩ := hH
  have e : hcL = (0, 1538, 2147483648, 2147483648 + 24) :: (2, 2, 1, 0) :: (0, 1410, 1, 0) :: hcL.drop 3 := by
    rw [show hcL = hcL.take 3 ++ hcL.drop 3 from (List.take_append_drop 3 hcL).symm, knc hu]
    rfl
  rw [e] at hv
  exact hv_list (by omega) hv
theorem head_kn (hu : useR2 = true) (hH : HeadOK σ ad h L i) : KNm ad h := by
  obtain ⟨N, h1, h2, h3⟩ := head_kl hu hH
  exact ⟨N, h1, h2.2, h3⟩
theorem kn_eq {ad' : AD} {h' : AH} {N N' : Nat} (hN : N ≤ 24) (hN' : N' ≤ 24) (h1 : At ad' h' 11 0 2 (.int (nI N))) (h2 : At ad' h' 11 0 2 (.int (nI N'))) : N = N' := by
  obtain ⟨q, k, vs, a1, a2, a3⟩ := h1
  obtain ⟨q', k', vs', b1, b2, b3⟩ := h2
  rw [a1] at b1
  cases b1
  rw [a2] at b2
  cases b2
  rw [a3] at b3
  exact nI_inj (by omega) (by omega) (Value.int.inj (Option.some.inj b3))
/-- kept as long as nothing of it is written -/
theorem r2_sc (h2 : R2 B.1.1 B.1.2) (k1 : KNm B.1.1 B.1.2) (k2 : KNm I.2.2 h) (hk : k_dis r2K K = true) (hS : Sc B.1 I K u q h) : R2 I.2.2 h := by
  obtain ⟨⟨c0, ⟨c1, c2⟩, c3, c4⟩, c5, c6, c7, c8⟩ := r2_ck
  have hd := kdis_ok hk
  rw [c5] at hd
  obtain ⟨n, pk, pf, pt, ⟨p1, p2⟩, p3, p4⟩ := h2
  obtain ⟨N, n1, n2, n3⟩ := k1
  obtain ⟨N', m1, m2, m3⟩ := k2
  have e := kn_eq m1 n1 m2 (at_sc n2 (by omega) (by rw [kcode_o c0]; exact hd _ (by simp)) hS)
  subst e
  refine ⟨n, pk, pf, pt, ⟨p1, at_sc p2 (by omega) (by rw [kcode_o c0]; exact hd _ (by simp)) hS⟩, fun p hp => ?_, fun k hk d hd' => ?_⟩
  · obtain ⟨x1, x2, x3, k, x4, x5, x6⟩ := p3 p hp
    exact ⟨at_sc x1 (by omega) (by rw [kcode_r c2]; exact hd _ (by simp)) hS, at_sc x2 (by omega) (by rw [kcode_r c3]; exact hd _ (by simp)) hS, at_sc x3 (by omega) (by rw [kcode_r c4]; exact hd _ (by simp)) hS, k, x4, x5, (m3 k).mpr ((n3 k).mp x6)⟩
  · exact at_sc (p4 k ((n3 k).mpr ((m3 k).mp hk)) d hd') (by omega) (by rw [kcode_r c1]; exact hd _ (by simp)) hS
/-- a kerb more, its row empty -/
theorem r2_one (h2 : R2 B.1.1 B.1.2) {N N' : Nat} (n1 : N ≤ 24) (n3 : ∀ k, B.1.1 2 k ≠ none ↔ k < N) (m1 : N' ≤ 24) (m3 : ∀ k, I.2.2 2 k ≠ none ↔ k < N') (hN : N ≤ N') (hN' : N' ≤ N + 1) (hz : N' = N + 1 → ∀ d, d < 400 → At I.2.2 h 24 N d (.int 0)) (hk : k_dis [11 * 128 + 19, 24 * 128, 62 * 128, 63 * 128, 64 * 128] K = true) (hS : Sc B.1 I K u q h) : R2 I.2.2 h := by
  obtain ⟨⟨c0, ⟨c1, c2⟩, c3, c4⟩, -⟩ := r2_ck
  have hd := kdis_ok hk
  obtain ⟨n, pk, pf, pt, ⟨p1, p2⟩, p3, p4⟩ := h2
  refine ⟨n, pk, pf, pt, ⟨p1, at_sc p2 (by omega) (by rw [kcode_o c0]; exact hd _ (by simp)) hS⟩, fun p hp => ?_, fun k hk d hd' => ?_⟩
  · obtain ⟨x1, x2, x3, k, x4, x5, x6⟩ := p3 p hp
    exact ⟨at_sc x1 (by omega) (by rw [kcode_r c2]; exact hd _ (by simp)) hS, at_sc x2 (by omega) (by rw [kcode_r c3]; exact hd _ (by simp)) hS, at_sc x3 (by omega) (by rw [kcode_r c4]; exact hd _ (by simp)) hS, k, x4, x5, (m3 k).mpr (by have := (n3 k).mp x6; omega)⟩
  · have hkN := (m3 k).mp hk
    by_cases e : k < N
    · exact at_sc (p4 k ((n3 k).mpr e) d hd') (by omega) (by rw [kcode_r c1]; exact hd _ (by simp)) hS
    · have ek : k = N := by omega
      have := hz (by omega) d hd'
      rw [← ek] at this
      have hb : hpB pk pf pt (nI k) (nI d) n = false := hpb_no fun p hp hc => by
        obtain ⟨-, -, -, k', x4, x5, x6⟩ := p3 p hp
        have h1 := (n3 k').mp x6
        have h2 := nI_inj (by omega) (by omega) (x4.symm.trans hc.1)
        omega
      rw [hb]
      exact this
theorem k_dis_app {a b k : List Nat} (h : k_dis (a ++ b) k = true) : k_dis a k = true ∧ k_dis b k = true := by
  unfold k_dis at h
  rw [List.all_append] at h
  exact and2 h
/-- what the check of a call that makes a kerb says -/
theorem kb_r2 {I' : IN} {W G : SG} {nu : Nat → Nat} {h' : AH} {L' : LV} {i' : Nat} (hH : HeadOK σ ad h L i) (hW : RM ((ad, h), no2) (nu, fun _ => 0, ad) W h) (hg : Gr (nu, fun _ => 0, ad) W I' G) (hR : RM ((ad, h), no2) I' G h') (h2 : useR2 = true → R2 ad h) (hH' : HeadOK σ I'.2.2 h' L' i') (hb : kb_new W G = true) : (k_dis r5K (g_k G) = true ∧ k_dis stK (g_k G) = true) ∧ R2 I'.2.2 h' := by
  unfold kb_new at hb
  cases hu : useR2
  · rw [hu, cond_false] at hb; cases hb
  rw [hu, cond_true] at hb
  split at hb
  · cases hb
  rename_i n0 hn0
  split at hb
  · cases hb
  rename_i n1 hn1
  obtain ⟨b1, b2⟩ := and2 hb
  obtain ⟨b3, b4⟩ := and2 b1
  obtain ⟨b4, b5⟩ := and2 b4
  obtain ⟨b6, b7⟩ := and2 b2
  obtain ⟨N, n1', n2, n3⟩ := head_kn hu hH
  obtain ⟨N', m1, m2, m3⟩ := head_kn hu hH'
  have hSc := hR.2.2.2.2.2.2
  obtain ⟨d1, d2⟩ := k_dis_app b5
  obtain ⟨d2, d3⟩ := k_dis_app d2
  have e0 := sv_int' (find_ok (i := sk 2147483648) (j := sk 2147483650) (a := 0) (b := 2) hW rfl sk_val sk_val n2 hn0)
  have e1 := sv_int' (find_ok (i := sk 2147483648) (j := sk 2147483650) (a := 0) (b := 2) hR rfl sk_val sk_val m2 hn1)
  have v0 : sval I'.1 n0 = 2147483648 + N := by
    rw [sval_ag e0.2.1 hg.1]
    have := e0.2.2
    rw [nI_ok (by omega)] at this
    show sval nu n0 = _
    have t : sval nu n0 = N + 2147483648 := this.symm
    omega
  have v1 : sval I'.1 n1 = 2147483648 + N' := by
    have := e1.2.2
    rw [nI_ok (by omega)] at this
    omega
  have o0 : okn (g_n G) n0 := okn_up e0.2.1 hg.2.1
  split at b6
  case h_2 => cases b6
  rename_i w hw
  obtain ⟨w1, w2, w3⟩ := mm_suc_ok hR b3 o0 hw
  have ew := veq_ok b6
  subst ew
  have eN : N' = N + 1 := by omega
  refine ⟨⟨d1, d2⟩, r2_one (B := ((ad, h), no2)) (h2 hu) n1' n3 m1 m3 (by omega) (by omega) (fun _ d hd => ?_) d3 hSc⟩
  obtain ⟨c, hc, g⟩ := List.any_eq_true.mp b7
  obtain ⟨g1, g2⟩ := and2 g
  obtain ⟨g2, g3⟩ := and2 g2
  obtain ⟨g3, g4⟩ := and2 g3
  obtain ⟨c1, c2, c3, c4⟩ := c
  have g1' : c1 = 24 := beqt g1
  have g2' : c2 = n0 := veq_ok g2
  have g3' : c3 = (11, 0, 0) := veq_ok g3
  have g4' : c4 = sk 2147483648 := veq_ok g4
  clear g1 g2 g3 g4
  subst g1'
  subst g2'
  subst g3'
  subst g4'
  obtain ⟨-, -, -, z | ⟨z, -⟩ | ⟨z, -⟩ | ⟨-, -, -, z⟩⟩ := hR.2.2.2.2.2.1 _ hc
  · exact absurd z.1 (by show ¬ isI ((11, 0, 0) : SV) = true; decide)
  · exact absurd z (by show ¬ (11 : Nat) = 8; omega)
  · exact absurd z (by show ¬ (11 : Nat) = 9; omega)
  · have z : PX 11 I'.2.2 h' 24 (sval I'.1 c2) (sval I'.1 (sk 2147483648)) := z
    unfold PX at z
    rw [show Nat.beq 11 10 = false from rfl, cond_false, show Nat.beq 11 15 = false from rfl, cond_false, v0, Nat.add_sub_cancel_left] at z
    obtain ⟨x, x1, x2⟩ := z d (by rw [cdm_24]; omega)
    have ex : x = 0 := i2n_inj (by rw [x2, sk_val]; exact c_0.symm)
    rw [ex] at x1
    exact x1
end
