section
/-! ===== weighings: what the head says of LETS and TIPS ===== -/
theorem cpf_5 : ((cp_at ffT5).1 = 6 ∧ (cp_at ffT5).2.1 = [(5, 0, 2147483655), (6, 0, 2147483649), (6, 0, 2147483648), (6, 0, 2147483650), (74, 1, 2147483648), (75, 1, 2147483648), (76, 1, 2147483648), (6, 0, 2147483651), (77, 1, 2147483648)]) ∧ ((cp_at ffT5).2.2.1 = [[(300, 0, 0), (900, 0, 0), (900, 0, 0), (900, 0, 0), (1, 2147483647, 2147483647), (2, 2147483647, 2147483647), (3, 2147483647, 2147483647), (900, 0, 0), (4, 2147483648, 2147483648)], [(400, 0, 0), (1, 2147483648, 2147484047), (2, 2147483648, 2147483653), (3, 2147483648, 2147483848), (1, 2147483648, 2147484047), (2, 2147483648, 2147483653), (3, 2147483648, 2147483848), (4, 2147483648, 2147483652), (4, 2147483648, 2147483652)]] ∧ ffT5 < npL) := by decide +kernel
theorem cpf_6 : ((cp_at ffT6).1 = 5 ∧ (cp_at ffT6).2.1 = [(4, 0, 2147483654), (61, 1, 2147483648)]) ∧ ((cp_at ffT6).2.2.1 = [[(0, 2147483598, 2147483698), (0, 2147483598, 2147483698)]] ∧ ffT6 < npL) := by decide +kernel
theorem tg_57 : (tgc (5, 0, 2147483655) = 6 ∧ (cdm 5 = 0 ∧ 8 ≤ (cd 5).2.2.length)) ∧ (cdm 4 = 0 ∧ 7 ≤ (cd 4).2.2.length) := by decide +kernel
theorem wgc : (hcL.drop 9).take 3 = [(0, 1794, 2147483648, 2147483654), (2, 4, 1, 0), (0, 1419, 1, 0)] ∧ (hcL.drop 14).take 2 = [(0, 1280, 2147483648, 2147484047), (0, 1408, 1, 0)] := by decide +kernel
section
variable {σ : Nat → Nat} {ad : AD} {h : AH} {L : LV} {i e s : Nat} {ho : Nat → Nat → Prop}
theorem mp0 {c p k : Nat} : mplace (c, 0, 2147483648 + p) k = (c, k, p) := by
  show (c, k, 2147483648 + p - 2147483648) = _
  rw [Nat.add_sub_cancel_left]
theorem mp1 {c k : Nat} : mplace (c, 1, 2147483648) k = (c, 0, k) := by
  show (c, 2147483648 - 2147483648, k) = _
  rw [Nat.sub_self]
theorem at_m0 {c p k : Nat} {v : Value} (ha : AtM ad h (c, 0, 2147483648 + p) k v) : At ad h c k p v := by
  unfold AtM at ha
  rw [mp0] at ha
  exact ha
theorem at_m1 {c k : Nat} {v : Value} (ha : AtM ad h (c, 1, 2147483648) k v) : At ad h c 0 k v := by
  unfold AtM at ha
  rw [mp1] at ha
  exact ha
theorem en_own {k : Nat} {gv : Nat → Nat} {m d : Nat × Nat × Nat} (h4 : d.1 = 400) (hE : EnOK ad h k gv m d) : ∃ q, AtM ad h m k (.ref q) ∧ ad (tgc m) k = some q := by
  unfold EnOK at hE
  rw [h4, show Nat.ble 400 99 = false from rfl, cond_false, show Nat.ble 400 299 = false from rfl, cond_false, show Nat.beq 400 300 = false from rfl, cond_false, show Nat.beq 400 400 = true from rfl, cond_true] at hE
  exact hE
theorem en_int' {k g lo hi : Nat} {gv : Nat → Nat} {m : Nat × Nat × Nat} (hg : g ≤ 99) (hE : EnOK ad h k gv m (g, lo, hi)) : ∃ x, AtM ad h m k (.int x) ∧ (i2n x = gv g ∧ (lo ≤ i2n x ∧ i2n x ≤ hi)) := by
  obtain ⟨x, x1, x2, x3⟩ := en_int (Nat.ble_eq_true_of_le hg) hE
  refine ⟨x, x1, ?_, x3⟩
  rw [x2]
  show gv (g % 100) = gv g
  rw [Nat.mod_eq_of_lt (by omega)]
theorem let_form (hT : TS ad h npL (fun _ _ => False) ho) (hk : ad 5 e ≠ none) : (At ad h 5 e 7 .null ∧ At ad h 74 0 e (.int (Int32.ofInt (-1)))) ∨ ∃ q dl n, (At ad h 5 e 7 (.ref q) ∧ ad 6 e = some q) ∧ ((At ad h 6 e 1 (.int (nI dl)) ∧ At ad h 74 0 e (.int (nI dl))) ∧ ((dl < 400 ∧ n ≤ 4) ∧ (At ad h 6 e 3 (.int (nI n)) ∧ At ad h 77 0 e (.int (nI n))))) := by
  obtain ⟨⟨c1, c2⟩, c3, c4⟩ := cpf_5
  obtain ⟨⟨g1, g2, g3⟩, -⟩ := tg_57
  obtain ⟨q0, hq0⟩ := ne_some hk
  obtain ⟨V, hV⟩ : ∃ V, At ad h 5 e 7 V := by
    obtain ⟨-, k', vs, y1, -, y3, -⟩ := hT.1 5 e q0 (by omega) hq0
    have := y3.1 g2
    exact ⟨_, q0, k', vs, hq0, y1, List.getElem?_eq_getElem (by omega)⟩
  have hC := hT.2.2.2.2.2 ffT5 e c4 (fun e => e)
  unfold CpAt at hC
  rw [c1, c2, c3] at hC
  obtain ⟨d, gv, e1, e2⟩ := (hC ⟨(5, 0, 2147483655), V, List.mem_cons_self, by unfold AtM; rw [show mplace (5, 0, 2147483655) e = (5, e, 7) from mp0 (p := 7)]; exact hV⟩).1 (Or.inr hk)
  rcases List.mem_cons.mp e1 with rfl | e1
  · obtain ⟨E1, e2⟩ := dc_1 e2
    obtain ⟨-, e2⟩ := dc_1 e2
    obtain ⟨-, e2⟩ := dc_1 e2
    obtain ⟨-, e2⟩ := dc_1 e2
    obtain ⟨E5, -⟩ := dc_1 e2
    have x1 := at_m0 (p := 7) (en_null rfl rfl rfl E1)
    obtain ⟨x, y1, -, y2, y3⟩ := en_int' (by omega) E5
    have ex : x = Int32.ofInt (-1) := i2n_inj (by rw [cw_m1]; omega)
    rw [ex] at y1
    exact Or.inl ⟨x1, at_m1 y1⟩
  · have e1 := List.mem_singleton.mp e1
    subst e1
    obtain ⟨E1, e2⟩ := dc_1 e2
    obtain ⟨E2, e2⟩ := dc_1 e2
    obtain ⟨-, e2⟩ := dc_1 e2
    obtain ⟨-, e2⟩ := dc_1 e2
    obtain ⟨E5, e2⟩ := dc_1 e2
    obtain ⟨-, e2⟩ := dc_1 e2
    obtain ⟨-, e2⟩ := dc_1 e2
    obtain ⟨E8, e2⟩ := dc_1 e2
    obtain ⟨E9, -⟩ := dc_1 e2
    obtain ⟨q, x1, x2⟩ := en_own rfl E1
    rw [g1] at x2
    obtain ⟨d1, y1, y2, y3, y4⟩ := en_int' (by omega) E2
    obtain ⟨d2, z1, z2, -⟩ := en_int' (by omega) E5
    have ed : d2 = d1 := i2n_inj (z2.trans y2.symm)
    subst ed
    obtain ⟨n1, u1, u2, u3, u4⟩ := en_int' (by omega) E8
    obtain ⟨n2, v1, v2, -⟩ := en_int' (by omega) E9
    have en : n2 = n1 := i2n_inj (v2.trans u2.symm)
    subst en
    obtain ⟨dl, hdl⟩ : ∃ dl, i2n d2 = 2147483648 + dl := ⟨i2n d2 - 2147483648, by omega⟩
    obtain ⟨n, hn⟩ : ∃ n, i2n n2 = 2147483648 + n := ⟨i2n n2 - 2147483648, by omega⟩
    have ed := r5nI hdl (by omega)
    subst ed
    have en := r5nI hn (by omega)
    subst en
    exact Or.inr ⟨q, dl, n, ⟨at_m0 (p := 7) x1, x2⟩, ⟨at_m0 (p := 1) y1, at_m1 z1⟩, ⟨by omega, by omega⟩, at_m0 (p := 3) u1, at_m1 v1⟩
theorem tip_form (hT : TS ad h npL (fun _ _ => False) ho) (hk : ad 4 s ≠ none) : ∃ x, (At ad h 4 s 6 (.int x) ∧ At ad h 61 0 s (.int x)) ∧ (2147483598 ≤ i2n x ∧ i2n x ≤ 2147483698) := by
  obtain ⟨⟨c1, c2⟩, c3, c4⟩ := cpf_6
  obtain ⟨-, g2, g3⟩ := tg_57
  obtain ⟨q0, hq0⟩ := ne_some hk
  obtain ⟨V, hV⟩ : ∃ V, At ad h 4 s 6 V := by
    obtain ⟨-, k', vs, y1, -, y3, -⟩ := hT.1 4 s q0 (by omega) hq0
    have := y3.1 g2
    exact ⟨_, q0, k', vs, hq0, y1, List.getElem?_eq_getElem (by omega)⟩
  have hC := hT.2.2.2.2.2 ffT6 s c4 (fun e => e)
  unfold CpAt at hC
  rw [c1, c2, c3] at hC
  obtain ⟨d, gv, e1, e2⟩ := (hC ⟨(4, 0, 2147483654), V, List.mem_cons_self, by unfold AtM; rw [show mplace (4, 0, 2147483654) s = (4, s, 6) from mp0 (p := 6)]; exact hV⟩).1 (Or.inr hk)
  have e1 := List.mem_singleton.mp e1
  subst e1
  obtain ⟨E1, e2⟩ := dc_1 e2
  obtain ⟨E2, -⟩ := dc_1 e2
  obtain ⟨x, x1, x2, x3⟩ := en_int' (by omega) E1
  obtain ⟨y, y1, y2, -⟩ := en_int' (by omega) E2
  have exy : y = x := i2n_inj (y2.trans x2.symm)
  subst exy
  exact ⟨y, ⟨at_m0 (p := 6) x1, at_m1 y1⟩, x3⟩
theorem head_tt (hH : HeadOK σ ad h L i) : ∃ T, T ≤ 6 ∧ ((At ad h 14 0 2 (.int (nI T)) ∧ At ad h 11 0 11 (.int (nI T))) ∧ ∀ k, ad 4 k ≠ none ↔ k < T) := by
  obtain ⟨-, -, -, -, -, -, u, ws, hv, -⟩ := hH
  obtain ⟨u', hv'⟩ := hvs_drop (j := 9) hv
  have e : hcL.drop 9 = (0, 1794, 2147483648, 2147483648 + 6) :: (2, 4, 1, 0) :: (0, 1419, 1, 0) :: (hcL.drop 9).drop 3 := by
    rw [show hcL.drop 9 = (hcL.drop 9).take 3 ++ (hcL.drop 9).drop 3 from (List.take_append_drop 3 _).symm, wgc.1]
    rfl
  rw [e] at hv'
  exact hv_list (by omega) hv'
theorem head_day (hH : HeadOK σ ad h L i) : ∃ d, d < 400 ∧ (At ad h 10 0 0 (.int (nI d)) ∧ At ad h 11 0 0 (.int (nI d))) := by
  obtain ⟨-, -, -, -, -, -, u, ws, hv, -⟩ := hH
  obtain ⟨u', hv'⟩ := hvs_drop (j := 14) hv
  have e : hcL.drop 14 = (0, 1280, 2147483648, 2147484047) :: (0, 1408, 1, 0) :: (hcL.drop 14).drop 2 := by
    rw [show hcL.drop 14 = (hcL.drop 14).take 2 ++ (hcL.drop 14).drop 2 from (List.take_append_drop 2 _).symm, wgc.2]
    rfl
  rw [e] at hv'
  obtain ⟨Y, ⟨y1, y2⟩, y3, y4⟩ := hv_pair (by omega) hv'
  obtain ⟨d, ed⟩ : ∃ d, i2n Y = 2147483648 + d := ⟨i2n Y - 2147483648, by omega⟩
  have eY : Y = nI d := r5nI ed (by omega)
  subst eY
  exact ⟨d, by omega, y1, y2⟩
theorem head_wgs (hD : HD σ ad h L i) : ∃ N T d, WgS ad h N T d := by
  have hH := hD.1
  have hT := hH.2.1
  obtain ⟨N, n1, ⟨n2, n3⟩, n4⟩ := head_ll hH
  obtain ⟨T, t1, ⟨t2, t3⟩, t4⟩ := head_tt hH
  obtain ⟨d, d1, d2, d3⟩ := head_day hH
  obtain ⟨-, ⟨l5, l4⟩, ⟨c11, c10⟩, -⟩ := wg_c
  obtain ⟨ox, hox⟩ := hT.2.2.2.1.2.1 10 pm_t.2.2.2
  exact ⟨N, T, d, ⟨⟨⟨n1, t1⟩, d1⟩, ⟨ls_form hT l5 c11 hox n2 (by omega), ls_form hT l4 c10 hox t2 (by omega)⟩, ⟨d2, d3⟩, n3, t3⟩, n4, fun e he => let_form hT ((n4 e).mpr he), fun s hs => tip_form hT ((t4 s).mpr hs), hD.2.2.2.2⟩
end
end
