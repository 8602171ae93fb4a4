section
/-! ===== the plan's relation at the next head ===== -/
section
variable {σ : Nat → Nat} {ad : AD} {h : AH} {L : LV} {i : Nat}
theorem zx_at {I : IN} {G : SG} {h' : AH} (h0 : At ad h 29 0 6 (.int (nI 0))) (hR : RM ((ad, h), no2) I G h') (hz : zx_pf G = true) : At I.2.2 h' 29 0 6 (.int (nI 0)) ∧ At I.2.2 h' 8 0 3 (.int (nI 0)) := by
  unfold zx_pf at hz
  obtain ⟨z1, z2⟩ := and2 hz
  have k29 := kc_row (p := 6) xr_cd.1.1.1
  refine ⟨at_sc (B := ((ad, h), no2)) h0 (by omega) (by rw [k29]; exact kdis_ok z1 _ (by simp)) hR.2.2.2.2.2.2, ?_⟩
  split at z2
  · rename_i v hv
    have e := veq_ok z2
    subst e
    obtain ⟨-, -, -, z | ⟨z, -⟩ | ⟨z, -⟩ | ⟨z, -⟩⟩ := hR.2.2.2.2.2.1 _ (c_find_ok hv)
    · obtain ⟨-, i', j', V, y1, y2, y3, y4⟩ := z
      dsimp only at y1 y2 y3 y4
      rw [sk_val] at y1 y2
      have e1 : i' = 0 := by omega
      have e2 : j' = 3 := by omega
      subst e1
      subst e2
      obtain ⟨X, rfl, hX⟩ := sv_int y4 rfl
      have eX : X = nI 0 := i2n_inj (by rw [hX.2.2, sk_val, nI_ok (by omega), Nat.zero_add])
      rw [eX] at y3
      exact y3
    · exact absurd z (by show ¬ (0 : Nat) = 8; omega)
    · exact absurd z (by show ¬ (0 : Nat) = 9; omega)
    · exact absurd z (by show ¬ 10 ≤ (0 : Nat); omega)
  · cases z2
theorem zx_xr {I : IN} {G : SG} {h' : AH} (h0 : At ad h 29 0 6 (.int (nI 0))) (hR : RM ((ad, h), no2) I G h') (hz : (zx_tk G || zx_pf G) = true) : XR I.2.2 h' := by
  rcases Bool.or_eq_true_iff.mp hz with z | z
  · unfold zx_tk at z
    obtain ⟨p, hp, hq⟩ := List.any_eq_true.mp z
    obtain ⟨e1, e2⟩ := and2 hq
    have e1 := beqt e1
    have e2 := beqt e2
    obtain ⟨-, -, -, y | ⟨y, -⟩ | ⟨y, -⟩ | ⟨-, -, -, y⟩⟩ := hR.2.2.2.2.2.1 _ hp
    · have := tag_I y.1
      omega
    · omega
    · omega
    · rw [e1, e2] at y
      exact px13.mp y
  · obtain ⟨a, b⟩ := zx_at h0 hR z
    exact ⟨a, _, b, Or.inl rfl⟩
theorem hd_zx {I4 : IN} {G' : SG} {h' : AH} {L' : LV} {i' : Nat} (hD : HD σ ad h L i) (hH' : HeadOK σ I4.2.2 h' L' i') (hR : RM ((ad, h), no2) I4 G' h') (hz : zx_new G' = true) : HD σ I4.2.2 h' L' i' := by
  unfold zx_new at hz
  obtain ⟨hk, hz⟩ := and2 hz
  unfold rb0K at hk
  obtain ⟨d, d4⟩ := k_dis_app hk
  obtain ⟨d, d3⟩ := k_dis_app d
  obtain ⟨d1, d2⟩ := k_dis_app d
  have hSc := hR.2.2.2.2.2.2
  exact ⟨hH', r5_sc (B := ((ad, h), no2)) hD.2.1 d1 hSc, fun hu => r2_sc (B := ((ad, h), no2)) (hD.2.2.1 hu) (head_kn hu hD.1) (head_kn hu hH') d3 hSc, st_sc (B := ((ad, h), no2)) hD.2.2.2.1 d2 hSc, rw_sc hD.1 hD.2.2.2.2.1 hR hH' d4, zx_xr hD.2.2.2.2.2.1 hR hz⟩
end
end
