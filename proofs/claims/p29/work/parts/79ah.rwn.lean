section
variable {σ : Nat → Nat} {ad : AD} {h h' : AH} {L L' : LV} {i i' e : Nat} {I : IN} {G : SG}
/-- a LOAD that is new has no weighing -/
theorem rw_nl (hW : RLw ad h) (hR : RM ((ad, h), no2) I G h') (hH' : HeadOK σ I.2.2 h' L' i') (hk : k_dis wnK (g_k G) = true) (hN : NL h h') : RLw I.2.2 h' := by
  intro e h6
  have hSc := hR.2.2.2.2.2.2
  obtain ⟨a, ha⟩ := ne_some h6
  rcases hSc.2.2.2.1 6 e a ha with hb | hb
  · obtain ⟨n, ws, ts, ds, hw⟩ := hW e (by
      rw [show ad 6 e = some a from hb]
      exact fun e => by cases e)
    exact ⟨n, ws, ts, ds, rwn_sc (B := ((ad, h), no2)) hw hk hSc⟩
  · obtain ⟨N', m1, m2, m3⟩ := head_kL hH'
    have he := (m3 e).mp (load_let hR h6)
    obtain ⟨-, k, vs, y1, y2, -⟩ := hR.2.2.2.1.1 6 e a (by omega) ha
    have ek : k = 6 := by
      rcases y2 with e | ⟨e, -⟩
      · rw [e, six_ck.1]
      · rw [six_ck.1] at e; cases e
    subst ek
    have hlt := hR.2.2.2.1.2.2.1 6 e a ha
    have h3 := (hN.2 a vs y1).2 hb hlt
    exact ⟨0, fun _ => 0, fun _ => 0, fun _ => 0, ⟨by omega, by omega⟩, ⟨a, 6, vs, ha, y1, h3⟩, fun j hj => absurd hj (Nat.not_lt_zero _), fun j hj => absurd hj (Nat.not_lt_zero _), fun j hj => absurd hj (Nat.not_lt_zero _)⟩
end
