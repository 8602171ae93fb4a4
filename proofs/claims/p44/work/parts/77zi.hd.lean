section
/-! ===== the planner at the head, and in between ===== -/
theorem zp_tg_57 : (tgc (5, 0, 2147483655) = 6 ∧ (cdm 5 = 0 ∧ 8 ≤ (cd 5).2.2.length)) ∧ (cdm 4 = 0 ∧ 7 ≤ (cd 4).2.2.length) := by decide +kernel
theorem zp_wgc : (hcL.drop 9).take 3 = [(0, 1794, 2147483648, 2147483654), (2, 4, 1, 0), (0, 1419, 1, 0)] ∧ (hcL.drop 14).take 2 = [(0, 1280, 2147483648, 2147484047), (0, 1408, 1, 0)] := by decide +kernel
section
variable {σ : Nat → Nat} {ad : AD} {h : AH} {L : LV} {np n N T ox m t i k kk e s o l el mx f qp : Nat} {ex ho : Nat → Nat → Prop} {d : Nat → TPD} {tk : Nat → TKD}
theorem zp_mp0 {c p k : Nat} : mplace (c, 0, 2147483648 + p) k = (c, k, p) := by
  show (c, k, 2147483648 + p - 2147483648) = _
  rw [Nat.add_sub_cancel_left]
theorem zp_mp1 {c k : Nat} : mplace (c, 1, 2147483648) k = (c, 0, k) := by
  show (c, 2147483648 - 2147483648, k) = _
  rw [Nat.sub_self]
theorem zp_at_m0 {c p k : Nat} {v : Value} (ha : AtM ad h (c, 0, 2147483648 + p) k v) : At ad h c k p v := by
  unfold AtM at ha
  rw [zp_mp0] at ha
  exact ha
theorem zp_at_m1 {c k : Nat} {v : Value} (ha : AtM ad h (c, 1, 2147483648) k v) : At ad h c 0 k v := by
  unfold AtM at ha
  rw [zp_mp1] at ha
  exact ha
theorem zp_en_int' {k g lo hi : Nat} {gv : Nat → Nat} {m : Nat × Nat × Nat} (hg : g ≤ 99) (hE : EnOK ad h k gv m (g, lo, hi)) : ∃ x, AtM ad h m k (.int x) ∧ (i2n x = gv g ∧ (lo ≤ i2n x ∧ i2n x ≤ hi)) := by
  obtain ⟨x, x1, x2, x3⟩ := en_int (Nat.ble_eq_true_of_le hg) hE
  refine ⟨x, x1, ?_, x3⟩
  rw [x2]
  show gv (g % 100) = gv g
  rw [Nat.mod_eq_of_lt (by omega)]
theorem zp_head_tt (hH : HeadOK σ ad h L i) : ∃ T, T ≤ 6 ∧ ((At ad h 14 0 2 (.int (nI T)) ∧ At ad h 11 0 11 (.int (nI T))) ∧ ∀ k, ad 4 k ≠ none ↔ k < T) := by
  obtain ⟨-, -, -, -, -, -, u, ws, hv, -⟩ := hH
  obtain ⟨u', hv'⟩ := hvs_drop (j := 9) hv
  have e : hcL.drop 9 = (0, 1794, 2147483648, 2147483648 + 6) :: (2, 4, 1, 0) :: (0, 1419, 1, 0) :: (hcL.drop 9).drop 3 := by
    rw [show hcL.drop 9 = (hcL.drop 9).take 3 ++ (hcL.drop 9).drop 3 from (List.take_append_drop 3 _).symm, zp_wgc.1]
    rfl
  rw [e] at hv'
  exact hv_list (by omega) hv'
theorem zp_cpl_at {t c p k lim : Nat} {ms : List (Nat × Nat × Nat)} {dd : List (List (Nat × Nat × Nat))} (hT : TS ad h npL (fun _ _ => False) ho) (h1 : (cp_at t).1 = lim + 1) (h2 : (cp_at t).2.1 = ms) (h3 : (cp_at t).2.2.1 = dd) (ht : t < npL) (hm : (c, 0, 2147483648 + p) ∈ ms) (hk : ad lim k ≠ none) {V : Value} (hV : At ad h c k p V) : ∃ d gv, d ∈ dd ∧ DC true ad h k gv ms d := by
  have hC := hT.2.2.2.2.2 t k ht (fun e => e)
  unfold CpAt at hC
  rw [h1, h2, h3] at hC
  exact (hC ⟨(c, 0, 2147483648 + p), V, hm, by unfold AtM; rw [zp_mp0]; exact hV⟩).1 (Or.inr (by rw [Nat.add_sub_cancel]; exact hk))
theorem zp_fld_any (hT : TS ad h np ex ho) {c p k : Nat} (hc : c < 1000) (hm : cdm c = 0) (hp : p < (cd c).2.2.length) (hk : ad c k ≠ none) : ∃ V, At ad h c k p V := by
  obtain ⟨q0, hq0⟩ := ne_some hk
  obtain ⟨-, k', vs, y1, -, y3, -⟩ := hT.1 c k q0 hc hq0
  have := y3.1 hm
  exact ⟨_, q0, k', vs, hq0, y1, List.getElem?_eq_getElem (by omega)⟩
/-- a coupling of one number of an object and one of a row -/
theorem zp_cpl_2 {t c p r k lo hi : Nat} (hT : TS ad h npL (fun _ _ => False) ho) (hcp : ((cp_at t).1 = c + 1 ∧ (cp_at t).2.1 = [(c, 0, 2147483648 + p), (r, 1, 2147483648)]) ∧ ((cp_at t).2.2.1 = [[(0, lo, hi), (0, lo, hi)]] ∧ t < npL)) (hc : c < 1000) (hm : cdm c = 0) (hp : p < (cd c).2.2.length) (hk : ad c k ≠ none) : ∃ X, (At ad h c k p (.int X) ∧ At ad h r 0 k (.int X)) ∧ (lo ≤ i2n X ∧ i2n X ≤ hi) := by
  obtain ⟨⟨a1, a2⟩, a3, a4⟩ := hcp
  obtain ⟨V, hV⟩ := zp_fld_any hT hc hm hp hk
  obtain ⟨dd, gv, e7, D7⟩ := zp_cpl_at (p := p) hT a1 a2 a3 a4 List.mem_cons_self hk hV
  have e7 := List.mem_singleton.mp e7
  subst e7
  obtain ⟨E1, D7⟩ := dc_1 D7
  obtain ⟨E2, -⟩ := dc_1 D7
  obtain ⟨X, x1, x2, x3⟩ := zp_en_int' (by omega) E1
  obtain ⟨X', y1, y2, -⟩ := zp_en_int' (by omega) E2
  have eX : X' = X := i2n_inj (y2.trans x2.symm)
  subst eX
  exact ⟨X', ⟨zp_at_m0 x1, zp_at_m1 y1⟩, x3⟩
theorem zp_sm_nI {X : Int32} {hi : Nat} (h1 : 2147483648 ≤ i2n X ∧ i2n X ≤ hi) (h2 : hi < 4294967296) : ∃ n, X = nI n ∧ n + 2147483648 ≤ hi := ⟨i2n X - 2147483648, r5nI (by omega) (by omega), by omega⟩
theorem zp_kerb_xy (hT : TS ad h npL (fun _ _ => False) ho) (hk : ad 2 kk ≠ none) : ∃ x y, PKb ad h kk x y := by
  obtain ⟨-, -, -, c2m, c2', c2l⟩ := fi_c
  obtain ⟨X, hX, hX'⟩ := zp_cpl_2 (p := 3) hT cpf_k1 (by omega) c2m (by omega) hk
  obtain ⟨Y, hY, hY'⟩ := zp_cpl_2 (p := 4) hT cpf_k2 (by omega) c2m (by omega) hk
  obtain ⟨n1, rfl, hn1⟩ := zp_sm_nI hX' (by omega)
  obtain ⟨n2, rfl, hn2⟩ := zp_sm_nI hY' (by omega)
  exact ⟨n1, n2, ⟨hX, by omega⟩, hY, by omega⟩
theorem zp_tip_p (hT : TS ad h npL (fun _ _ => False) ho) (hk : ad 4 t ≠ none) : ∃ p, PTp ad h t p := by
  obtain ⟨-, c4m, c4l⟩ := zp_tg_57
  obtain ⟨X, hX, hX'⟩ := zp_cpl_2 (p := 0) hT cpf_p1 (by omega) c4m (by omega) hk
  obtain ⟨Y, hY, hY'⟩ := zp_cpl_2 (p := 1) hT cpf_p2 (by omega) c4m (by omega) hk
  obtain ⟨U, hU, -⟩ := zp_cpl_2 (p := 2) hT cpf_p3 (by omega) c4m (by omega) hk
  obtain ⟨V, hV, -⟩ := zp_cpl_2 (p := 3) hT cpf_p4 (by omega) c4m (by omega) hk
  obtain ⟨W, hW, -⟩ := zp_cpl_2 (p := 4) hT cpf_p5 (by omega) c4m (by omega) hk
  obtain ⟨n1, rfl, hn1⟩ := zp_sm_nI hX' (by omega)
  obtain ⟨n2, rfl, hn2⟩ := zp_sm_nI hY' (by omega)
  exact ⟨((n1, n2), (U, (V, W))), ⟨⟨hX, (by show n1 < 100; omega)⟩, hY, (by show n2 < 100; omega)⟩, hU, hV, hW⟩
theorem zp_lsp_form (hT : TS ad h np ex ho) (hqp : ad 8 0 = some qp) (hX : At ad h 16 0 2 (.int (nI n))) (hN : n < 2147483648) : LsP ad h n := by
  obtain ⟨⟨-, c80, c8m, c8⟩, hl, -⟩ := bd_c.1
  obtain ⟨ql, a1, a2⟩ := fld_sgl hT (by omega) c8m c80 hqp
  obtain ⟨mc, ed, sz, M, u1, u2, u3⟩ := hT.2.2.2.2.1 16 7 1 6 hl ql a2
  have eX : sz = nI n := by
    obtain ⟨q', k', vs, w1, w2, w3⟩ := hX
    rw [a2] at w1
    cases w1
    rw [u1] at w2
    cases w2
    exact Value.int.inj (Option.some.inj w3)
  subst eX
  have eM : M = n := by
    rw [nI_ok hN] at u2
    omega
  subst eM
  refine ⟨ql, mc, ed, a1, u1, ?_⟩
  rcases u3 with ⟨q5, -, -, e⟩ | ⟨bq, us, -, w2, w3, -, -, w6⟩
  · exact Or.inl e
  · refine Or.inr ⟨bq, us, w2, w3, fun s hs => ?_⟩
    obtain ⟨u, v1, v2⟩ := w6 s hs
    rcases v2 with ⟨-, v3⟩ | ⟨e, -⟩
    · rcases v3 with ⟨e, -⟩ | ⟨-, q, v4, rfl⟩
      · omega
      · rw [Nat.add_sub_cancel_left] at v4
        exact ⟨q, v1, v4⟩
    · cases e
/-- the tasks of both sides -/
theorem zp_head_tk (hH : HeadOK σ ad h L i) : ∃ n, n ≤ 6 ∧ ((At ad h 16 0 2 (.int (nI n)) ∧ At ad h 11 0 54 (.int (nI n))) ∧ ∀ k, ad 7 k ≠ none ↔ k < n) := by
  obtain ⟨-, -, -, -, -, -, u, ws, hv, -⟩ := hH
  obtain ⟨u', hv'⟩ := hvs_drop (j := 20) hv
  have e : hcL.drop 20 = (0, 2050, 2147483648, 2147483648 + 6) :: (2, 7, 1, 0) :: (0, 1462, 1, 0) :: (hcL.drop 20).drop 3 := by
    rw [show hcL.drop 20 = (hcL.drop 20).take 3 ++ (hcL.drop 20).drop 3 from (List.take_append_drop 3 _).symm, bd_h]
    rfl
  rw [e] at hv'
  exact hv_list (by omega) hv'
theorem zp_task_p (hT : TS ad h npL (fun _ _ => False) ho) (hk : ad 7 t ≠ none) : ∃ p, PTk ad h t p := by
  obtain ⟨⟨a1, a2⟩, a3, a4⟩ := cpf_s1
  obtain ⟨⟨-, -, c7m, c7, c7l⟩, -, tg, -⟩ := bd_c
  obtain ⟨V, hV⟩ := zp_fld_any (p := 0) hT (by omega) c7m (by omega) hk
  obtain ⟨dd, gv, e7, D7⟩ := zp_cpl_at (lim := 7) (p := 0) hT a1 a2 a3 a4 List.mem_cons_self hk hV
  have e7 := List.mem_singleton.mp e7
  subst e7
  obtain ⟨F2, D7⟩ := dc_1 D7
  obtain ⟨F3, -⟩ := dc_1 D7
  obtain ⟨kj, qk, z1, z2, z3⟩ := en_ref rfl rfl F2
  replace z3 : 2147483648 + kj + 0 = gv 0 := z3
  rw [tg] at z2
  obtain ⟨xs, w1, w2, w3, w4⟩ := zp_en_int' (by omega) F3
  have exs : xs = nI kj := r5nI (by omega) (by omega)
  subst exs
  obtain ⟨x, y, hK⟩ := zp_kerb_xy hT (kk := kj) (by rw [z2]; exact fun e => by cases e)
  obtain ⟨X, hX, -⟩ := zp_cpl_2 (p := 2) hT cpf_s3 (by omega) c7m (by omega) hk
  exact ⟨((x, y), X), ⟨kj, qk, ⟨⟨zp_at_m0 (p := 0) z1, z2⟩, zp_at_m1 w1, by have := nI_ok (show kj < 2147483648 by omega); omega⟩, hK⟩, hX⟩
end
theorem cpf_s2 : ((cp_at ffS2).1 = 8 ∧ (cp_at ffS2).2.1 = [(7, 0, 2147483649), (88, 1, 2147483648)]) ∧ ((cp_at ffS2).2.2.1 = [[(0, 2147483649, 2147483660), (0, 2147483649, 2147483660)]] ∧ ffS2 < npL) := by decide +kernel
theorem rc_h : (hcL.drop 18).take 2 = [(0, 1025, 2147483649, 2147485648), (0, 1466, 1, 0)] := by decide +kernel
theorem pl_kc : ((kcode 11 54 = 1462 ∧ kcode 11 11 = 1419) ∧ kcode 11 58 = 1466) ∧ plK = xrK ++ [1462, 1419, 1466] := by decide +kernel
/-- what the head gives for a plan -/
noncomputable def PlB (ad : AD) (h : AH) : Prop := ((∃ n, n ≤ 6 ∧ ((At ad h 16 0 2 (.int (nI n)) ∧ At ad h 11 0 54 (.int (nI n))) ∧ ∀ k, k < n → ad 7 k ≠ none)) ∧ (∃ T, T ≤ 6 ∧ ((At ad h 14 0 2 (.int (nI T)) ∧ At ad h 11 0 11 (.int (nI T))) ∧ ∀ k, k < T → ad 4 k ≠ none))) ∧ ((∃ rc, (At ad h 8 0 1 (.int (nI rc)) ∧ At ad h 11 0 58 (.int (nI rc))) ∧ rc < 1000000) ∧ XR ad h)
noncomputable def PlY (ad : AD) (h : AH) (n T : Nat) (tk : Nat → TKD) (d : Nat → TPD) (sz : Nat → Int32) (rc : Nat) : Prop := (Nm n tk sz ∧ (At ad h 16 0 2 (.int (nI n)) ∧ At ad h 14 0 2 (.int (nI T)))) ∧ PlX ad h n T tk d sz rc
section
variable {σ : Nat → Nat} {ad ad1 : AD} {h h1 h2 h' : AH} {L : LV} {np n T ox m t i rc u q : Nat} {ex ho : Nat → Nat → Prop} {d : Nat → TPD} {tk : Nat → TKD} {sz : Nat → Int32} {B : BS} {I : IN} {K : List Nat} {G : SG} {c c' : Nat → Bool} {g g' : Nat → Nat}
theorem xr_sc (hx : XR B.1.1 B.1.2) (hk : k_dis xrK K = true) (hS : Sc B.1 I K u q h) : XR I.2.2 h := xr_mono0 (fun c i p V hp ha => at_sc ha (xp_code hp).1 (kdis_ok hk _ (xp_code hp).2) hS) hx
theorem xr_up (hup : ∀ c i q, c < 1000 → ad c i = some q → ad1 c i = some q) (hx : XR ad h) : XR ad1 h := xr_mono0 (fun c i p V hp ha => at_up hup (xp_code hp).1 ha) hx
theorem px13 {i v : Nat} : PX 13 ad h 8 i v ↔ XR ad h := by
  unfold PX
  rw [show Nat.beq 13 10 = false from rfl, cond_false, show Nat.beq 13 15 = false from rfl, cond_false, show Nat.beq 13 12 = false from rfl, cond_false, show Nat.beq 13 13 = true from rfl, cond_true]
theorem mnJ_cg2 : ∀ {n}, (∀ j, j < n → c j = c' j ∧ g j = g' j) → mnJ c g n = mnJ c' g' n := by
  intro n
  induction n with
  | zero => intro _; rfl
  | succ n ih =>
    intro hh
    rw [mnJ, mnJ, ih (fun j hj => hh j (by omega)), (hh n (by omega)).1, (hh n (by omega)).2]
theorem byD_cg {d' : Nat → TPD} {p : TKD} {x y : Nat} (hd : ∀ t, t < T → d' t = d t) : byD d' p x y T = byD d p x y T := by
  unfold byD
  exact mnJ_cg2 fun j hj => by
    rw [hd j hj]
    exact ⟨rfl, rfl⟩
/-- TASKS and TIPS of both sides, out of the couplings -/
theorem pl_form (hT : TS ad h npL (fun _ _ => False) ho) (hn6 : n ≤ 6) (hn : At ad h 16 0 2 (.int (nI n)) ∧ At ad h 11 0 54 (.int (nI n))) (hk : ∀ k, k < n → ad 7 k ≠ none) (hT6 : T ≤ 6) (hTn : At ad h 14 0 2 (.int (nI T)) ∧ At ad h 11 0 11 (.int (nI T))) (hk4 : ∀ k, k < T → ad 4 k ≠ none) : ∃ tk d sz, Nm n tk sz ∧ PD ad h n T tk d sz := by
  obtain ⟨-, ⟨-, l4⟩, ⟨-, c10⟩, -⟩ := wg_c
  obtain ⟨⟨t12, -⟩, -⟩ := bd_c.1
  obtain ⟨⟨-, -, c7m, c7, c7l⟩, -⟩ := bd_c
  obtain ⟨⟨⟨⟨c10', -⟩, -⟩, -⟩, -⟩ := pm_c
  obtain ⟨ox, hox⟩ := hT.2.2.2.1.2.1 10 pm_t.2.2.2
  obtain ⟨qp, q1, q2⟩ := fld_sgl hT (by omega) c10' t12 hox
  have hl4 := ls_form hT l4 c10 hox hTn.1 (by omega)
  have ht : ∀ t, ∃ p : TKD, (t < n → PTk ad h t p) ∧ (n ≤ t → p = ((0, 0), 0)) := fun t => by
    by_cases h1 : t < n
    · obtain ⟨p, hp⟩ := zp_task_p hT (hk t h1)
      exact ⟨p, fun _ => hp, fun f => absurd f (by omega)⟩
    · exact ⟨((0, 0), 0), fun f => absurd f h1, fun _ => rfl⟩
  have hs : ∀ t, ∃ s : Int32, (t < n → PTs ad h t s) ∧ (n ≤ t → s = 0) := fun t => by
    by_cases h1 : t < n
    · obtain ⟨s, hs, -⟩ := zp_cpl_2 (p := 1) hT cpf_s2 (by omega) c7m (by omega) (hk t h1)
      exact ⟨s, fun _ => hs, fun f => absurd f (by omega)⟩
    · exact ⟨0, fun f => absurd f h1, fun _ => rfl⟩
  have hd : ∀ t, ∃ p : TPD, t < T → PTp ad h t p := fun t => by
    by_cases h1 : t < T
    · obtain ⟨p, hp⟩ := zp_tip_p hT (hk4 t h1)
      exact ⟨p, fun _ => hp⟩
    · exact ⟨((0, 0), (0, (0, 0))), fun f => absurd f h1⟩
  obtain ⟨tk, htk⟩ := Classical.axiomOfChoice ht
  obtain ⟨sz, hsz⟩ := Classical.axiomOfChoice hs
  obtain ⟨d, hd⟩ := Classical.axiomOfChoice hd
  exact ⟨tk, d, sz, fun t h1 => ⟨(htk t).2 h1, (hsz t).2 h1⟩, ⟨⟨⟨⟨hn6, hT6⟩, zp_lsp_form hT q2 hn.1 (by omega), hl4⟩, ⟨hn.2, hTn.2⟩, qp, q1, q2⟩, fun t h1 => (htk t).1 h1, hd⟩, fun t h1 => (hsz t).1 h1⟩
/-- the plan kept is one of what is there -/
theorem plx_of (hN : Nm n tk sz) (hD : PD ad h n T tk d sz) (h1 : At ad h 16 0 2 (.int (nI n))) (h2 : At ad h 14 0 2 (.int (nI T))) (hrc : At ad h 8 0 1 (.int (nI rc))) (hrl : rc < 1000000) (hX : XR ad h) : PlX ad h n T tk d sz rc := by
  obtain ⟨a0, pf, a1, a2⟩ := hX
  have hn6 : n ≤ 6 := hD.1.1.1.1.1
  have hT6 : T ≤ 6 := hD.1.1.1.1.2
  refine ⟨⟨hD, a0, hrc, hrl⟩, pf, a1, ?_⟩
  rcases a2 with e | ⟨n', T', tk', d', sz', rc', nl, m, xx, ⟨⟨⟨⟨⟨b1, b2⟩, b3⟩, ⟨c1, c2⟩, c3, c4⟩, b4, b5⟩, b6⟩, hA⟩
  · exact Or.inl e
  · have en : n' = n := nI_inj (by omega) (by omega) (at_int b1 h1)
    subst en
    have eT : T' = T := nI_inj (by omega) (by omega) (at_int b2 h2)
    subst eT
    have er : rc' = rc := nI_inj (by omega) (by omega) (at_int b3 hrc)
    subst er
    have ht : ∀ t, tk' t = tk t ∧ sz' t = sz t := fun t => by
      by_cases h3 : t < n'
      · obtain ⟨⟨kk, ⟨k1, k2⟩, ⟨k3, k4⟩, k5, k6⟩, k7, k8⟩ := b4 t h3
        obtain ⟨⟨kj, qk, ⟨-, j3, j4⟩, ⟨⟨j5, -⟩, j6⟩, ⟨j7, -⟩, j8⟩, j9, -⟩ := hD.1.2.1 t h3
        obtain ⟨s1, -⟩ := hD.2 t h3
        have ek : kk = kj := nI_inj (by omega) (by omega) (at_int k1 j3)
        subst ek
        have e1 : (tk' t).1.1 = (tk t).1.1 := nI_inj (by omega) (by omega) (at_int k3 j5)
        have e2 : (tk' t).1.2 = (tk t).1.2 := nI_inj (by omega) (by omega) (at_int k4 j7)
        have e3 : (tk' t).2 = (tk t).2 := at_int k8 j9
        exact ⟨Prod.ext (Prod.ext e1 e2) e3, at_int k7 s1⟩
      · obtain ⟨g1, g2⟩ := c4 t (by omega)
        obtain ⟨g3, g4⟩ := hN t (by omega)
        exact ⟨g1.trans g3.symm, g2.trans g4.symm⟩
    have etk : tk' = tk := funext fun t => (ht t).1
    have esz : sz' = sz := funext fun t => (ht t).2
    subst etk
    subst esz
    have hd : ∀ t, t < T' → d' t = d t := fun t h3 => by
      obtain ⟨⟨⟨k1, k2⟩, k3, k3'⟩, k4, k5, k6⟩ := b5 t h3
      obtain ⟨⟨⟨⟨j1, -⟩, j2⟩, ⟨j3, -⟩, j4⟩, ⟨j5, -⟩, ⟨j6, -⟩, j7, -⟩ := hD.1.2.2 t h3
      have e1 : (d' t).1.1 = (d t).1.1 := nI_inj (by omega) (by omega) (at_int k1 j1)
      have e2 : (d' t).1.2 = (d t).1.2 := nI_inj (by omega) (by omega) (at_int k2 j3)
      exact Prod.ext (Prod.ext e1 e2) (Prod.ext (at_int k4 j5) (Prod.ext (at_int k5 j6) (at_int k6 j7)))
    have eh : hwD n' T' tk' d' = hwD n' T' tk' d := funext fun j => by
      unfold hwD
      rw [byD_cg hd]
    have eo : onD n' T' tk' d' sz' = onD n' T' tk' d sz' := funext fun j => funext fun k => by
      unfold onD
      rw [byD_cg hd, eh]
    rw [eh, eo] at hA
    exact Or.inr ⟨nl, m, xx, b6, hA⟩
theorem plb_here (hT : TS ad h npL (fun _ _ => False) ho) (hP : PlB ad h) : ∃ n T tk d sz rc, PlY ad h n T tk d sz rc ∧ At ad h 11 0 58 (.int (nI rc)) := by
  obtain ⟨⟨⟨n, n1, ⟨n2, n3⟩, n4⟩, T, t1, ⟨t2, t3⟩, t4⟩, ⟨rc, ⟨r1, r2⟩, r3⟩, hX⟩ := hP
  obtain ⟨tk, d, sz, hN, hD⟩ := pl_form hT n1 ⟨n2, n3⟩ n4 t1 ⟨t2, t3⟩ t4
  exact ⟨n, T, tk, d, sz, rc, ⟨⟨hN, n2, t2⟩, plx_of hN hD n2 t2 r1 r3 hX⟩, r2⟩
theorem plb_sc (hP : PlB B.1.1 B.1.2) (hk : k_dis plK K = true) (hS : Sc B.1 I K u q h) : PlB I.2.2 h := by
  obtain ⟨⟨⟨z1, z2⟩, z3⟩, z4⟩ := pl_kc
  have hd := kdis_ok hk
  rw [z4] at hk hd
  obtain ⟨hk, -⟩ := k_dis_app hk
  have hxk := kdis_ok hk
  obtain ⟨⟨⟨n, n1, ⟨n2, n3⟩, n4⟩, T, t1, ⟨t2, t3⟩, t4⟩, ⟨rc, ⟨r1, r2⟩, r3⟩, hX⟩ := hP
  have mv : ∀ {c i p : Nat} {V : Value}, XrP c p → At B.1.1 B.1.2 c i p V → At I.2.2 h c i p V := fun {c i p V} hp ha => at_sc ha (xp_code hp).1 (hxk _ (xp_code hp).2) hS
  have nn : ∀ {c k : Nat}, c < 1000 → B.1.1 c k ≠ none → I.2.2 c k ≠ none := fun {c k} hc hz e => by
    obtain ⟨q, hq⟩ := ne_some hz
    rw [hS.2.2.1 c k q hc hq] at e
    cases e
  exact ⟨⟨⟨n, n1, ⟨mv (by unfold XrP; omega) n2, at_sc n3 (by omega) (by rw [z1]; exact hd _ (by simp)) hS⟩, fun k hk => nn (by omega) (n4 k hk)⟩, T, t1, ⟨mv (by unfold XrP; omega) t2, at_sc t3 (by omega) (by rw [z2]; exact hd _ (by simp)) hS⟩, fun k hk => nn (by omega) (t4 k hk)⟩, ⟨rc, ⟨mv (by unfold XrP; omega) r1, at_sc r2 (by omega) (by rw [z3]; exact hd _ (by simp)) hS⟩, r3⟩, xr_sc hX hk hS⟩
/-- behind a plan its relation holds -/
theorem ply_xr (hY : PlY ad h n T tk d sz rc) : XR ad h := by
  obtain ⟨⟨hN, n2, t2⟩, ⟨hD, a0, hrc, hrl⟩, pf, a1, a2⟩ := hY
  refine ⟨a0, pf, a1, ?_⟩
  rcases a2 with e | ⟨nl, m, xx, b6, hA⟩
  · exact Or.inl e
  · refine Or.inr ⟨n, T, tk, d, sz, rc, nl, m, xx, ⟨⟨⟨⟨⟨n2, t2⟩, hrc⟩, ⟨hD.1.1.1.1.1, hD.1.1.1.1.2⟩, hrl, hN⟩, fun t ht => ?_, fun t ht => ?_⟩, b6⟩, hA⟩
    · obtain ⟨⟨kj, qk, ⟨-, j3, j4⟩, ⟨⟨j5, -⟩, j6⟩, ⟨j7, -⟩, j8⟩, j9, -⟩ := hD.1.2.1 t ht
      obtain ⟨s1, -⟩ := hD.2 t ht
      exact ⟨⟨kj, ⟨j3, j4⟩, ⟨j5, j7⟩, j6, j8⟩, s1, j9⟩
    · obtain ⟨⟨⟨⟨j1, -⟩, j2⟩, ⟨j3, -⟩, j4⟩, ⟨j5, -⟩, ⟨j6, -⟩, j7, -⟩ := hD.1.2.2 t ht
      exact ⟨⟨⟨j1, j3⟩, j2, j4⟩, j5, j6, j7⟩
theorem ply_end (hY : PlY ad h n T tk d sz rc) (hE : PlE ad h h' n T tk d sz rc) : PlY ad h' n T tk d sz rc := ⟨⟨hY.1.1, hE.1.1 _ _ _ _ (fun f => by unfold XP at f; omega) hY.1.2.1, hE.1.1 _ _ _ _ (fun f => by unfold XP at f; omega) hY.1.2.2⟩, hE.2⟩
theorem head_plb (hH : HeadOK σ ad h L i) (hX : XR ad h) : PlB ad h := by
  obtain ⟨n, n1, n2, n3⟩ := zp_head_tk hH
  obtain ⟨T, t1, t2, t3⟩ := zp_head_tt hH
  obtain ⟨-, -, -, -, -, -, u, ws, hv, -⟩ := hH
  obtain ⟨u', hv'⟩ := hvs_drop (j := 18) hv
  have e : hcL.drop 18 = (0, 1025, 2147483649, 2147485648) :: (0, 1466, 1, 0) :: (hcL.drop 18).drop 2 := by
    rw [show hcL.drop 18 = (hcL.drop 18).take 2 ++ (hcL.drop 18).drop 2 from (List.take_append_drop 2 _).symm, rc_h]
    rfl
  rw [e] at hv'
  obtain ⟨Y, ⟨y1, y2⟩, y3, y4⟩ := hv_pair (by omega) hv'
  obtain ⟨rc, er⟩ : ∃ rc, i2n Y = 2147483648 + rc := ⟨i2n Y - 2147483648, by omega⟩
  have eY : Y = nI rc := r5nI er (by omega)
  subst eY
  exact ⟨⟨⟨n, n1, n2, fun k hk => (n3 k).mpr hk⟩, T, t1, t2, fun k hk => (t3 k).mpr hk⟩, ⟨rc, ⟨y1, y2⟩, by omega⟩, hX⟩
/-- a plan in between -/
theorem plan_ok {as : List SV} {As : List Value} {es : List (Option SV × SG)} {Q : Option Value → AH → Prop} (hPB : PlB B.1.1 B.1.2) (hnp : npH = npL) (hcn : ∀ M C, C ∈ cns M → C.1 < nC → CnOK σ C) (hB : ∀ a i, ¬ B.2 a i) (hσ : ∀ i, i < 6 → B.1.1 (stc i) 0 = some (σ i)) (hR : RM B I G h) (hAs : LM I (g_h G).length (g_n G) as As) (hs : hp_plan as G = some es) (hE : Ends B I G es Q) : Rt σ 124 (codeOf 124) (am_args 0 As) [] h Q := by
  unfold hp_plan at hs
  split at hs
  · rename_i x n
    replace hs := bif_some hs
    obtain ⟨g, hs⟩ := hs
    obtain ⟨g, g'⟩ := and2 g
    obtain ⟨g1, g2⟩ := and2 g
    obtain ⟨g2, g3⟩ := and2 g2
    obtain ⟨g4, g5⟩ := and2 g'
    have g1 := veq_ok g1
    subst g1
    have hX : g_x (y_close G) = [] := by
      cases hx : g_x (y_close G) with
      | nil => rfl
      | cons => rw [hx] at g4; cases g4
    have hRc := y_close_ok hR
    split at hs
    · cases hs
    · rename_i es' hes
      have e := Option.some.inj hs
      subst e
      obtain ⟨Vx, r1, rfl, l1, q1⟩ := lm_cons hAs
      obtain ⟨Vn, r2', rfl, l2, q2⟩ := lm_cons q1
      have q3 := lm_nil q2
      subst q3
      obtain ⟨ox, rfl, hox⟩ := sgl_arg (q := 0) l1
      obtain ⟨nn, rfl, -⟩ := sv_int l2 g2
      have b3 : g_p G = npL := (beqt g5).trans hnp
      have hT : TS I.2.2 h npL (fun _ _ => False) B.2 := by
        have := hRc.2.2.2.1
        have ep : g_p (y_close G) = npL := b3
        rw [ep, hX] at this
        exact ts_ex this fun t k ⟨e, e1, _⟩ => by cases e1
      obtain ⟨n', T, tk, d, sz, rc, hY, -⟩ := plb_here hT (plb_sc hPB g3 hR.2.2.2.2.2.2)
      have huse := use_ok hcn hB hσ hRc (As := [.ref ox, .int nn]) hAs hes
      have hpl := X_plan (σ := σ) (nn := nn) hT hox hY.2
      refine rt_mono (rt_and huse hpl) fun v h' ⟨⟨q', z1, I', z2, z3, z4⟩, y, z5, z6, z7⟩ => ?_
      have gg : Gr I G I' q'.2 := gr_trans (gr_close (G := G)) z2
      refine hE (q'.1, y_put q'.2 8 (sk 2147483648) (13, 0, 0) (sk 2147483648)) (List.mem_map.mpr ⟨q', z1, rfl⟩) I' v h' gg ?_ z4
      refine rm_cell z3 ⟨sk_okn, fun e => (by cases e), by show 8 < 1000; omega, Or.inr (Or.inr (Or.inr ⟨by show 10 ≤ 13; omega, rfl, sk_okn, ?_⟩))⟩
      show PX 13 I'.2.2 h' 8 (sval I'.1 (sk 2147483648)) (sval I'.1 (sk 2147483648))
      rw [px13]
      exact xr_up (fun c i q hc => gg.2.2.2.2 c i q hc) (ply_xr (ply_end hY z6))
  · cases hs
end
end
