section
/-! ===== weighings: the relation is kept ===== -/
theorem klc : (hcL.drop 6).take 3 = [(0, 1922, 2147483648, 2147483708), (2, 5, 1, 0), (0, 1441, 1, 0)] := by decide +kernel
theorem six_ck : cdk 6 = 6 ∧ cdm 6 = 0 := by decide +kernel
section
variable {σ : Nat → Nat} {ad : AD} {h h' : AH} {L L' : LV} {i i' e : Nat} {I : IN} {G : SG}
/-- the lets of both sides -/
theorem head_ll (hH : HeadOK σ ad h L i) : ∃ N, N ≤ 60 ∧ ((At ad h 15 0 2 (.int (nI N)) ∧ At ad h 11 0 33 (.int (nI N))) ∧ ∀ k, ad 5 k ≠ none ↔ k < N) := by
  obtain ⟨-, -, -, -, -, -, u, ws, hv, -⟩ := hH
  obtain ⟨u', hv'⟩ := hvs_drop (j := 6) hv
  have e : hcL.drop 6 = (0, 1922, 2147483648, 2147483648 + 60) :: (2, 5, 1, 0) :: (0, 1441, 1, 0) :: (hcL.drop 6).drop 3 := by
    rw [show hcL.drop 6 = (hcL.drop 6).take 3 ++ (hcL.drop 6).drop 3 from (List.take_append_drop 3 _).symm, klc]
    rfl
  rw [e] at hv'
  exact hv_list (by omega) hv'
theorem head_kL (hH : HeadOK σ ad h L i) : KLm ad h := by
  obtain ⟨N, h1, h2, h3⟩ := head_ll hH
  exact ⟨N, h1, h2.2, h3⟩
/-- a LOAD's LET is there -/
theorem load_let (hR : RM ((ad, h), no2) I G h') (h6 : I.2.2 6 e ≠ none) : I.2.2 5 e ≠ none := by
  obtain ⟨⟨-, -, t57⟩, -⟩ := wt_t
  obtain ⟨q, hq⟩ := ne_some h6
  exact hR.2.2.2.1.2.2.2.1.1 5 7 _ (by omega) w_codes.2.1.1.2 t57 (Or.inr rfl) e q hq
theorem rw_sc (hH : HeadOK σ ad h L i) (hW : RLw ad h) (hR : RM ((ad, h), no2) I G h') (hH' : HeadOK σ I.2.2 h' L' i') (hk : k_dis (wnK ++ wlK) (g_k G) = true) : RLw I.2.2 h' := by
  intro e h6
  obtain ⟨kw, kl⟩ := k_dis_app hk
  obtain ⟨N, n1, n2, n3⟩ := head_kL hH
  obtain ⟨N', m1, m2, m3⟩ := head_kL hH'
  have hSc := hR.2.2.2.2.2.2
  have hd := kdis_ok kl
  rw [w_codes.1.2] at hd
  have n2' := at_sc (B := ((ad, h), no2)) n2 (by omega) (by rw [kcode_o w_codes.2.1.2]; exact hd _ (by simp)) hSc
  have en : N = N' := nI_inj (by omega) (by omega) (at_int n2' m2)
  subst en
  have h5 := (n3 e).mpr ((m3 e).mp (load_let hR h6))
  obtain ⟨n, ws, ts, ds, hw⟩ := hW e (load_old (B := ((ad, h), no2)) hH.2.1.1 (fun _ _ e => e) hR kl h5 h6)
  exact ⟨n, ws, ts, ds, rwn_sc (B := ((ad, h), no2)) hw kw hSc⟩
theorem rw_up {ad' : AD} (hup : ∀ c i q, c < 1000 → ad c i = some q → ad' c i = some q) (hk : ∀ e, ad' 6 e ≠ none → ad 6 e ≠ none) (hW : RLw ad h) : RLw ad' h := by
  intro e h6
  obtain ⟨n, ws, ts, ds, w0, w1, w2, w3, w4⟩ := hW e (hk e h6)
  exact ⟨n, ws, ts, ds, w0, at_up hup (by omega) w1, fun j hj => ⟨⟨at_up hup (by omega) (w2 j hj).1.1, at_up hup (by omega) (w2 j hj).1.2⟩, (w2 j hj).2⟩, fun j hj => ⟨⟨at_up hup (by omega) (w3 j hj).1.1, at_up hup (by omega) (w3 j hj).1.2⟩, (w3 j hj).2⟩, fun j hj => ⟨⟨at_up hup (by omega) (w4 j hj).1.1, at_up hup (by omega) (w4 j hj).1.2⟩, (w4 j hj).2⟩⟩
/-- no LOAD is new -/
theorem no_load (hH : HeadOK σ ad h L i) (hR : RM ((ad, h), no2) I G h') (hH' : HeadOK σ I.2.2 h' L' i') (hk : k_dis wlK (g_k G) = true) : ∀ e, I.2.2 6 e ≠ none → ad 6 e ≠ none := by
  intro e h6
  obtain ⟨N, n1, n2, n3⟩ := head_kL hH
  obtain ⟨N', m1, m2, m3⟩ := head_kL hH'
  have hSc := hR.2.2.2.2.2.2
  have hd := kdis_ok hk
  rw [w_codes.1.2] at hd
  have n2' := at_sc (B := ((ad, h), no2)) n2 (by omega) (by rw [kcode_o w_codes.2.1.2]; exact hd _ (by simp)) hSc
  have en : N = N' := nI_inj (by omega) (by omega) (at_int n2' m2)
  subst en
  exact load_old (B := ((ad, h), no2)) hH.2.1.1 (fun _ _ e => e) hR hk ((n3 e).mpr ((m3 e).mp (load_let hR h6))) h6
end
end
