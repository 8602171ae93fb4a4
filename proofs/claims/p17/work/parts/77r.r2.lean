/-! ===== permits: the relation is kept ===== -/
theorem knc : useR2 = true → hcL.take 3 = [(0, 1538, 2147483648, 2147483672), (2, 2, 1, 0), (0, 1410, 1, 0)] := by decide +kernel
section
variable {B : BS} {I : IN} {h : AH} {ad : AD} {σ : Nat → Nat} {K : List Nat} {u q i : Nat} {L : LV}
theorem head_kn (hu : useR2 = true) (hH : HeadOK σ ad h L i) : KNm ad h := by
  obtain ⟨-, -, -, -, -, -, u, ws, hv, -⟩ := hH
  have hc := knc hu
  generalize hcL = l at hv hc
  match l, hc with
  | a :: b :: c :: r, hc =>
    have hc1 : [a, b, c] = [(0, 1538, 2147483648, 2147483672), (2, 2, 1, 0), (0, 1410, 1, 0)] := hc
    obtain ⟨ha, hc2⟩ := List.cons.inj hc1
    obtain ⟨hb, hc3⟩ := List.cons.inj hc2
    obtain ⟨hd, -⟩ := List.cons.inj hc3
    clear hc hc1 hc2 hc3
    subst ha
    subst hb
    subst hd
    match ws, hv with
    | w0 :: w1 :: w2 :: ws, ⟨_, r0, p1, r1, p2, r2, _⟩ =>
      have e0 : 2147483648 ≤ w0 ∧ w0 ≤ 2147483672 := by
        obtain ⟨x, y⟩ := and2 r0
        exact ⟨blet x, blet y⟩
      have e1 : w1 = w0 := beqt r1
      have e2 : w2 = w1 := beqt r2
      rcases p1 with ⟨e, -⟩ | ⟨-, p1⟩
      · cases e
      rcases p2 with ⟨-, X, p2, p3⟩ | ⟨e, -⟩
      · obtain ⟨N, eN⟩ : ∃ N, w0 = 2147483648 + N := ⟨w0 - 2147483648, by omega⟩
        have eX : X = nI N := r5nI (by rw [p3]; omega) (by omega)
        rw [eX] at p2
        exact ⟨N, by omega, p2, fun k => (p1 k).trans (by rw [e1, eN]; omega)⟩
      · cases e
theorem kn_eq {ad' : AD} {h' : AH} {N N' : Nat} (hN : N ≤ 24) (hN' : N' ≤ 24) (h1 : At ad' h' 11 0 2 (.int (nI N))) (h2 : At ad' h' 11 0 2 (.int (nI N'))) : N = N' := by
  obtain ⟨q, k, vs, a1, a2, a3⟩ := h1
  obtain ⟨q', k', vs', b1, b2, b3⟩ := h2
  rw [a1] at b1
  cases b1
  rw [a2] at b2
  cases b2
  rw [a3] at b3
  exact nI_inj (by omega) (by omega) (Value.int.inj (Option.some.inj b3))
/-- kept as long as nothing of it is written -/
theorem r2_sc (h2 : R2 B.1.1 B.1.2) (k1 : KNm B.1.1 B.1.2) (k2 : KNm I.2.2 h) (hk : k_dis r2K K = true) (hS : Sc B.1 I K u q h) : R2 I.2.2 h := by
  obtain ⟨⟨c0, ⟨c1, c2⟩, c3, c4⟩, c5, c6, c7, c8⟩ := r2_ck
  have hd := kdis_ok hk
  rw [c5] at hd
  obtain ⟨n, pk, pf, pt, ⟨p1, p2⟩, p3, p4⟩ := h2
  obtain ⟨N, n1, n2, n3⟩ := k1
  obtain ⟨N', m1, m2, m3⟩ := k2
  have e := kn_eq m1 n1 m2 (at_sc n2 (by omega) (by rw [kcode_o c0]; exact hd _ (by simp)) hS)
  subst e
  refine ⟨n, pk, pf, pt, ⟨p1, at_sc p2 (by omega) (by rw [kcode_o c0]; exact hd _ (by simp)) hS⟩, fun p hp => ?_, fun k hk d hd' => ?_⟩
  · obtain ⟨x1, x2, x3, k, x4, x5, x6⟩ := p3 p hp
    exact ⟨at_sc x1 (by omega) (by rw [kcode_r c2]; exact hd _ (by simp)) hS, at_sc x2 (by omega) (by rw [kcode_r c3]; exact hd _ (by simp)) hS, at_sc x3 (by omega) (by rw [kcode_r c4]; exact hd _ (by simp)) hS, k, x4, x5, (m3 k).mpr ((n3 k).mp x6)⟩
  · exact at_sc (p4 k ((n3 k).mpr ((m3 k).mp hk)) d hd') (by omega) (by rw [kcode_r c1]; exact hd _ (by simp)) hS
/-- a kerb more, its row empty -/
theorem r2_one (h2 : R2 B.1.1 B.1.2) {N N' : Nat} (n1 : N ≤ 24) (n3 : ∀ k, B.1.1 2 k ≠ none ↔ k < N) (m1 : N' ≤ 24) (m3 : ∀ k, I.2.2 2 k ≠ none ↔ k < N') (hN : N ≤ N') (hN' : N' ≤ N + 1) (hz : N' = N + 1 → ∀ d, d < 400 → At I.2.2 h 24 N d (.int 0)) (hk : k_dis [11 * 128 + 19, 24 * 128, 62 * 128, 63 * 128, 64 * 128] K = true) (hS : Sc B.1 I K u q h) : R2 I.2.2 h := by
  obtain ⟨⟨c0, ⟨c1, c2⟩, c3, c4⟩, -⟩ := r2_ck
  have hd := kdis_ok hk
  obtain ⟨n, pk, pf, pt, ⟨p1, p2⟩, p3, p4⟩ := h2
  refine ⟨n, pk, pf, pt, ⟨p1, at_sc p2 (by omega) (by rw [kcode_o c0]; exact hd _ (by simp)) hS⟩, fun p hp => ?_, fun k hk d hd' => ?_⟩
  · obtain ⟨x1, x2, x3, k, x4, x5, x6⟩ := p3 p hp
    exact ⟨at_sc x1 (by omega) (by rw [kcode_r c2]; exact hd _ (by simp)) hS, at_sc x2 (by omega) (by rw [kcode_r c3]; exact hd _ (by simp)) hS, at_sc x3 (by omega) (by rw [kcode_r c4]; exact hd _ (by simp)) hS, k, x4, x5, (m3 k).mpr (by have := (n3 k).mp x6; omega)⟩
  · have hkN := (m3 k).mp hk
    by_cases e : k < N
    · exact at_sc (p4 k ((n3 k).mpr e) d hd') (by omega) (by rw [kcode_r c1]; exact hd _ (by simp)) hS
    · have ek : k = N := by omega
      have := hz (by omega) d hd'
      rw [← ek] at this
      have hb : hpB pk pf pt (nI k) (nI d) n = false := hpb_no fun p hp hc => by
        obtain ⟨-, -, -, k', x4, x5, x6⟩ := p3 p hp
        have h1 := (n3 k').mp x6
        have h2 := nI_inj (by omega) (by omega) (x4.symm.trans hc.1)
        omega
      rw [hb]
      exact this
end
