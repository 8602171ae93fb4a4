section
/-! ===== plan, tour, miles by hand on both sides ===== -/
noncomputable def PlP (ad : AD) (h : AH) (R : Nat → (Nat → Nat) → (Nat → Nat → Nat) → Nat → Prop) : Prop := ∃ n T tk d sz rc, (PlY ad h n T tk d sz rc ∧ At ad h 11 0 58 (.int (nI rc))) ∧ R n (hwD n T tk d) (onD n T tk d sz) rc
/-- what plan, tour, miles leave alone -/
noncomputable def kkP : List Nat := (((r5K ++ stK) ++ r2K) ++ (wnK ++ wlK))
theorem xp_xm {c p : Nat} (h : XrP c p) : ¬ XM c p := fun e => by
  unfold XrP at h
  unfold XM at e
  omega
section
variable {σ : Nat → Nat} {ad ad1 : AD} {h h1 h2 h' : AH} {L L' : LV} {np n T ox m i i' t : Nat} {ex ho : Nat → Nat → Prop} {d : Nat → TPD} {tk : Nat → TKD} {sz : Nat → Int32} {a b c y : Int32} {pp : TKD}
theorem pd_up (hup : ∀ c i q, c < 1000 → ad c i = some q → ad1 c i = some q) (hD : PD ad h n T tk d sz) : PD ad1 h n T tk d sz := by
  have u : ∀ {c i p : Nat} {V : Value}, c < 1000 → At ad h c i p V → At ad1 h c i p V := fun {c i p V} hc ha => at_up hup hc ha
  obtain ⟨⟨⟨⟨n6, lp, l4⟩, ⟨a1, a2⟩, qp, a3, a4⟩, hK, hP⟩, hZ⟩ := hD
  refine ⟨⟨⟨⟨n6, ?_, ?_⟩, ⟨u (by omega) a1, u (by omega) a2⟩, qp, u (by omega) a3, hup 8 0 qp (by omega) a4⟩, fun t ht => ?_, fun t ht => ?_⟩, fun t ht => ⟨u (by omega) (hZ t ht).1, u (by omega) (hZ t ht).2⟩⟩
  · obtain ⟨ql, mc, ed, e2, e3, e4⟩ := lp
    refine ⟨ql, mc, ed, u (by omega) e2, e3, ?_⟩
    rcases e4 with e4 | ⟨bq, us, e5, e6, e7⟩
    · exact Or.inl e4
    · exact Or.inr ⟨bq, us, e5, e6, fun s hs => by
        obtain ⟨q, v1, v2⟩ := e7 s hs
        exact ⟨q, v1, hup 7 s q (by omega) v2⟩⟩
  · obtain ⟨ql, mc, ed, e2, e3, e4⟩ := l4
    refine ⟨ql, mc, ed, u (by omega) e2, e3, ?_⟩
    rcases e4 with e4 | ⟨bq, us, e5, e6, e7⟩
    · exact Or.inl e4
    · exact Or.inr ⟨bq, us, e5, e6, fun s hs => by
        obtain ⟨q, v1, v2⟩ := e7 s hs
        exact ⟨q, v1, hup 4 s q (by omega) v2⟩⟩
  · obtain ⟨⟨kj, qk, ⟨⟨j1, j2⟩, j3, j4⟩, ⟨⟨j5, j5'⟩, j6⟩, ⟨j7, j7'⟩, j8⟩, j9, j9'⟩ := hK t ht
    exact ⟨⟨kj, qk, ⟨⟨u (by omega) j1, hup 2 kj qk (by omega) j2⟩, u (by omega) j3, j4⟩, ⟨⟨u (by omega) j5, u (by omega) j5'⟩, j6⟩, ⟨u (by omega) j7, u (by omega) j7'⟩, j8⟩, u (by omega) j9, u (by omega) j9'⟩
  · obtain ⟨⟨⟨⟨j1, j1'⟩, j2⟩, ⟨j3, j3'⟩, j4⟩, ⟨j5, j5'⟩, ⟨j6, j6'⟩, j7, j7'⟩ := hP t ht
    exact ⟨⟨⟨⟨u (by omega) j1, u (by omega) j1'⟩, j2⟩, ⟨u (by omega) j3, u (by omega) j3'⟩, j4⟩, ⟨u (by omega) j5, u (by omega) j5'⟩, ⟨u (by omega) j6, u (by omega) j6'⟩, u (by omega) j7, u (by omega) j7'⟩
theorem xr_back (hup : ∀ c i q, c < 1000 → ad c i = some q → ad1 c i = some q) (hF : FrmM ad1 h1 h2) (hX : XR ad h1) : XR ad h2 := xr_mono0 (fun c i p V hp ha => at_dn hup (xp_code hp).1 (fun e => by
  obtain ⟨q, k, vs, z, -⟩ := ha
  rw [e] at z
  cases z) (hF.1 c i p V (xp_xm hp) (at_up hup (xp_code hp).1 ha))) hX
theorem XP_plan (hT : TS ad h npL (fun _ _ => False) ho) (hox : ad 10 0 = some ox) (hP : PlB ad h) : Rt σ 124 (codeOf 124) (am_args 0 [.ref ox, .int a]) [] h (fun v h' => ∃ y, v = some (.int y) ∧ PlP ad h' (fun n hw on rc => PnR n hw on rc a y)) := by
  obtain ⟨n, T, tk, d, sz, rc, hY, h58⟩ := plb_here hT hP
  exact rt_mono (X_plan hT hox hY.2) fun v h' ⟨y, e, f, r⟩ => ⟨y, e, n, T, tk, d, sz, rc, ⟨ply_end hY f, f.1.1 _ _ _ _ (fun z => by unfold XP at z; omega) h58⟩, r⟩
theorem XP_tour (hT : TS ad h npL (fun _ _ => False) ho) (hox : ad 10 0 = some ox) (hP : PlB ad h) : Rt σ 136 (codeOf 136) (am_args 0 [.ref ox, .int a, .int b, .int c]) [] h (fun v h' => ∃ y, v = some (.int y) ∧ PlP ad h' (fun n hw on rc => TrR n hw on rc a b c y)) := by
  obtain ⟨n, T, tk, d, sz, rc, hY, h58⟩ := plb_here hT hP
  exact rt_mono (X_tour hT hox hY.2) fun v h' ⟨y, e, f, r⟩ => ⟨y, e, n, T, tk, d, sz, rc, ⟨ply_end hY f, f.1.1 _ _ _ _ (fun z => by unfold XP at z; omega) h58⟩, r⟩
theorem XP_miles (hT : TS ad h npL (fun _ _ => False) ho) (hox : ad 10 0 = some ox) (hP : PlB ad h) : Rt σ 140 (codeOf 140) (am_args 0 [.ref ox, .int a, .int b]) [] h (fun v h' => ∃ y, v = some (.int y) ∧ PlP ad h' (fun n hw on rc => MiR n hw on rc a b y)) := by
  obtain ⟨n, T, tk, d, sz, rc, hY, h58⟩ := plb_here hT hP
  exact rt_mono (X_miles hT hox hY.2) fun v h' ⟨y, e, f, r⟩ => ⟨y, e, n, T, tk, d, sz, rc, ⟨ply_end hY f, f.1.1 _ _ _ _ (fun z => by unfold XP at z; omega) h58⟩, r⟩
theorem MP_plan (hT : TS ad1 h1 np ex ho) (hup : ∀ c i q, c < 1000 → ad c i = some q → ad1 c i = some q) (hm : ad 11 0 = some m) (hP : PlP ad h1 (fun n hw on rc => PnR n hw on rc a y)) : Rt σ 249 (codeOf 249) (am_args 0 [.ref m, .int a]) [] h1 (fun v h' => v = some (.int y) ∧ XR ad h') := by
  obtain ⟨n, T, tk, d, sz, rc, ⟨hY, h58⟩, hR⟩ := hP
  exact M_plan hT (hup 11 0 m (by omega) hm) (pd_up hup hY.2.1.1) (at_up hup (by omega) h58) hY.2.1.2.2.2 hR fun h2 hT2 hF2 => ⟨rfl, xr_back hup hF2 (ply_xr hY)⟩
theorem MP_tour (hT : TS ad1 h1 np ex ho) (hup : ∀ c i q, c < 1000 → ad c i = some q → ad1 c i = some q) (hm : ad 11 0 = some m) (hP : PlP ad h1 (fun n hw on rc => TrR n hw on rc a b c y)) : Rt σ 258 (codeOf 258) (am_args 0 [.ref m, .int a, .int b, .int c]) [] h1 (fun v h' => v = some (.int y) ∧ XR ad h') := by
  obtain ⟨n, T, tk, d, sz, rc, ⟨hY, h58⟩, hR⟩ := hP
  exact M_tour hT (hup 11 0 m (by omega) hm) (pd_up hup hY.2.1.1) (at_up hup (by omega) h58) hY.2.1.2.2.2 hR fun h2 hT2 hF2 => ⟨rfl, xr_back hup hF2 (ply_xr hY)⟩
theorem MP_miles (hT : TS ad1 h1 np ex ho) (hup : ∀ c i q, c < 1000 → ad c i = some q → ad1 c i = some q) (hm : ad 11 0 = some m) (hP : PlP ad h1 (fun n hw on rc => MiR n hw on rc a b y)) : Rt σ 260 (codeOf 260) (am_args 0 [.ref m, .int a, .int b]) [] h1 (fun v h' => v = some (.int y) ∧ XR ad h') := by
  obtain ⟨n, T, tk, d, sz, rc, ⟨hY, h58⟩, hR⟩ := hP
  exact M_miles hT (hup 11 0 m (by omega) hm) (pd_up hup hY.2.1.1) (at_up hup (by omega) h58) hY.2.1.2.2.2 hR fun h2 hT2 hF2 => ⟨rfl, xr_back hup hF2 (ply_xr hY)⟩
theorem hd_pl {I4 : IN} {G' : SG} (hD : HD σ ad h L i) (hH' : HeadOK σ I4.2.2 h' L' i') (hR : RM ((ad, h), no2) I4 G' h') (hk : k_dis kkP (g_k G') = true) (hX : XR ad h') : HD σ I4.2.2 h' L' i' := by
  obtain ⟨d, d4⟩ := k_dis_app hk
  obtain ⟨d, d3⟩ := k_dis_app d
  obtain ⟨d1, d2⟩ := k_dis_app d
  have hSc := hR.2.2.2.2.2.2
  exact ⟨hH', r5_sc (B := ((ad, h), no2)) hD.2.1 d1 hSc, fun hu => r2_sc (B := ((ad, h), no2)) (hD.2.2.1 hu) (head_kn hu hD.1) (head_kn hu hH') d3 hSc, st_sc (B := ((ad, h), no2)) hD.2.2.2.1 d2 hSc, rw_sc hD.1 hD.2.2.2.2.1 hR hH' d4, xr_up hSc.2.2.1 hX⟩
end
end
