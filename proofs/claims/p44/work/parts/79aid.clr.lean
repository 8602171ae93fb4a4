section
section
variable {σ : Nat → Nat} {ad : AD} {h h' : AH} {L L' : LV} {i i' : Nat} {I : IN} {G : SG}
theorem kn_C' (hk : KNm (adC ad) h) : KNm ad h := by
  obtain ⟨N, h1, h2, h3⟩ := hk
  exact ⟨N, h1, (at_C' h2).2, fun k => by rw [← adC_ne (ad := ad) (show 2 ≠ 7 by omega)]; exact h3 k⟩
theorem kl_C' (hk : KLm (adC ad) h) : KLm ad h := by
  obtain ⟨N, h1, h2, h3⟩ := hk
  exact ⟨N, h1, (at_C' h2).2, fun k => by rw [← adC_ne (ad := ad) (show 5 ≠ 7 by omega)]; exact h3 k⟩
theorem rw_scC (hH : HeadOK σ ad h L i) (hW : RLw ad h) (hR : RM ((ad, h), no2) I G h') (hK : KLm I.2.2 h') (hk : k_dis (wnK ++ wlK) (g_k G) = true) : RLw I.2.2 h' := by
  intro e h6
  obtain ⟨kw, kl⟩ := k_dis_app hk
  obtain ⟨N, n1, n2, n3⟩ := head_kL hH
  obtain ⟨N', m1, m2, m3⟩ := hK
  have hSc := hR.2.2.2.2.2.2
  have hd := kdis_ok kl
  rw [w_codes.1.2] at hd
  have n2' := at_sc (B := ((ad, h), no2)) n2 (by omega) (by rw [kcode_o w_codes.2.1.2]; exact hd _ (by simp)) hSc
  have en : N = N' := nI_inj (by omega) (by omega) (at_int n2' m2)
  subst en
  have h5 := (n3 e).mpr ((m3 e).mp (load_let hR h6))
  obtain ⟨n, ws, ts, ds, hw⟩ := hW e (load_old (B := ((ad, h), no2)) hH.2.1.1 (fun _ _ e => e) hR kl h5 h6)
  exact ⟨n, ws, ts, ds, rwn_sc (B := ((ad, h), no2)) hw kw hSc⟩
/-- the head behind a call that clears the tasks -/
theorem hd_clr {I4 : IN} {G' : SG} (hD : HD σ ad h L i) (hC : HeadC σ I4.2.2 h' L' i') (hR : RM ((ad, h), no2) I4 G' h') (hk : k_dis rb0K (g_k G') = true) (hz : zx_pf G' = true) : HD σ (adC I4.2.2) h' L' i' := by
  have hH' := headC_ok hC
  unfold rb0K at hk
  obtain ⟨d, d4⟩ := k_dis_app hk
  obtain ⟨d, d3⟩ := k_dis_app d
  obtain ⟨d1, d2⟩ := k_dis_app d
  have hSc := hR.2.2.2.2.2.2
  refine ⟨hH', r5_C (r5_sc (B := ((ad, h), no2)) hD.2.1 d1 hSc), fun hu => r2_C (r2_sc (B := ((ad, h), no2)) (hD.2.2.1 hu) (head_kn hu hD.1) (kn_C' (head_kn hu hH')) d3 hSc), st_C (st_sc (B := ((ad, h), no2)) hD.2.2.2.1 d2 hSc), rw_C (rw_scC hD.1 hD.2.2.2.2.1 hR (kl_C' (head_kL hH')) d4), ?_⟩
  obtain ⟨a, b⟩ := zx_at hD.2.2.2.2.2.1 hR hz
  exact ⟨at_C (by omega) a, _, at_C (by omega) b, Or.inl rfl⟩
end
end
