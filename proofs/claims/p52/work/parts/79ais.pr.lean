section
theorem cpf_7 : ((cp_at ffT7).1 = 6 ∧ (cp_at ffT7).2.1 = [(5, 0, 2147483651), (70, 1, 2147483648)]) ∧ ((cp_at ffT7).2.2.1 = [[(0, 2147483648, 2147483653), (0, 2147483648, 2147483653)]] ∧ ffT7 < npL) := by decide +kernel
theorem cpf_8 : ((cp_at ffT8).1 = 6 ∧ (cp_at ffT8).2.1 = [(5, 0, 2147483648), (5, 0, 2147483649), (68, 1, 2147483648)]) ∧ ((cp_at ffT8).2.2.1 = [[(600, 0, 0), (100, 2147483648, 2147483687), (0, 2147483648, 2147483687)]] ∧ ffT8 < npL) := by decide +kernel
theorem kn_c : (hcL.drop 16).take 2 = [(0, 1281, 0, 4294967295), (0, 1455, 1, 0)] := by decide +kernel
theorem tg_51 : tgc (5, 0, 2147483649) = 3 ∧ (cdm 3 = 0 ∧ 2 ≤ (cd 3).2.2.length) := by decide +kernel
theorem cpf_1' : ((cp_at ffT1).1 = 4 ∧ (cp_at ffT1).2.1 = [(3, 0, 2147483648), (3, 0, 2147483649), (53, 1, 2147483648)]) ∧ ((cp_at ffT1).2.2.1 = [[(600, 0, 0), (0, 2147483649, 2147483660), (0, 2147483649, 2147483660)]] ∧ ffT1 < npL) := by decide +kernel
section
variable {σ : Nat → Nat} {ad : AD} {h : AH} {np N ox m e i s : Nat} {ex ho : Nat → Nat → Prop} {kn day lo wk wh : Int32} {d : Nat → LD} {L : LV}
theorem cpl_at {t c p k lim : Nat} {ms : List (Nat × Nat × Nat)} {dd : List (List (Nat × Nat × Nat))} (hT : TS ad h npL (fun _ _ => False) ho) (h1 : (cp_at t).1 = lim + 1) (h2 : (cp_at t).2.1 = ms) (h3 : (cp_at t).2.2.1 = dd) (ht : t < npL) (hm : (c, 0, 2147483648 + p) ∈ ms) (hk : ad lim k ≠ none) {V : Value} (hV : At ad h c k p V) : ∃ d gv, d ∈ dd ∧ DC true ad h k gv ms d := by
  have hC := hT.2.2.2.2.2 t k ht (fun e => e)
  unfold CpAt at hC
  rw [h1, h2, h3] at hC
  exact (hC ⟨(c, 0, 2147483648 + p), V, hm, by unfold AtM; rw [mp0]; exact hV⟩).1 (Or.inr (by rw [Nat.add_sub_cancel]; exact hk))
theorem fld_any (hT : TS ad h np ex ho) {c p k : Nat} (hc : c < 1000) (hm : cdm c = 0) (hp : p < (cd c).2.2.length) (hk : ad c k ≠ none) : ∃ V, At ad h c k p V := by
  obtain ⟨q0, hq0⟩ := ne_some hk
  obtain ⟨-, k', vs, y1, -, y3, -⟩ := hT.1 c k q0 hc hq0
  have := y3.1 hm
  exact ⟨_, q0, k', vs, hq0, y1, List.getElem?_eq_getElem (by omega)⟩
/-- what the couplings say of a LET -/
theorem let_data (hT : TS ad h npL (fun _ _ => False) ho) (hk : ad 5 e ≠ none) (he : e < 60) (hW : RLw ad h) : ∃ dd : LD, PFs ad h e dd ∧ PFl ad h kn e dd := by
  obtain ⟨⟨a1, a2⟩, a3, a4⟩ := cpf_7
  obtain ⟨⟨b1, b2⟩, b3, b4⟩ := cpf_8
  obtain ⟨⟨s1, s2⟩, s3, s4⟩ := cpf_1'
  obtain ⟨⟨l1, l2⟩, l3, l4⟩ := cpf_5
  obtain ⟨⟨g1, g2, g3⟩, -⟩ := tg_57
  obtain ⟨u1, u2, u3⟩ := tg_51
  -- the trade
  obtain ⟨V3, hV3⟩ := fld_any (p := 3) hT (by omega) g2 (by omega) hk
  obtain ⟨d7, gv7, e7, D7⟩ := cpl_at (p := 3) hT a1 a2 a3 a4 List.mem_cons_self hk hV3
  have e7 := List.mem_singleton.mp e7
  subst e7
  obtain ⟨E1, D7⟩ := dc_1 D7
  obtain ⟨E2, -⟩ := dc_1 D7
  obtain ⟨tr, x1, x2, -⟩ := en_int' (by omega) E1
  obtain ⟨tr2, y1, y2, -⟩ := en_int' (by omega) E2
  have etr : tr2 = tr := i2n_inj (y2.trans x2.symm)
  subst etr
  -- the skip
  obtain ⟨V1, hV1⟩ := fld_any (p := 1) hT (by omega) g2 (by omega) hk
  obtain ⟨d8, gv8, e8, D8⟩ := cpl_at (p := 1) hT b1 b2 b3 b4 (List.mem_cons_of_mem _ List.mem_cons_self) hk hV1
  have e8 := List.mem_singleton.mp e8
  subst e8
  obtain ⟨-, D8⟩ := dc_1 D8
  obtain ⟨F2, D8⟩ := dc_1 D8
  obtain ⟨F3, -⟩ := dc_1 D8
  obtain ⟨sj, qs, z1, z2, z3⟩ := en_ref rfl rfl F2
  replace z3 : 2147483648 + sj + 0 = gv8 0 := z3
  rw [u1] at z2
  obtain ⟨xs, w1, w2, w3, w4⟩ := en_int' (by omega) F3
  have exs : xs = nI sj := r5nI (by omega) (by omega)
  subst exs
  -- its size
  obtain ⟨Vs, hVs⟩ := fld_any (p := 1) hT (by omega) u2 (by omega) (k := sj) (by rw [z2]; exact fun e => by cases e)
  obtain ⟨d1, gv1, e1, D1⟩ := cpl_at (p := 1) hT s1 s2 s3 s4 (List.mem_cons_of_mem _ List.mem_cons_self) (by rw [z2]; exact fun e => by cases e) hVs
  have e1 := List.mem_singleton.mp e1
  subst e1
  obtain ⟨-, D1⟩ := dc_1 D1
  obtain ⟨H2, D1⟩ := dc_1 D1
  obtain ⟨H3, -⟩ := dc_1 D1
  obtain ⟨sz, p1, p2, -⟩ := en_int' (by omega) H2
  obtain ⟨sz2, r1, r2, -⟩ := en_int' (by omega) H3
  have esz : sz2 = sz := i2n_inj (r2.trans p2.symm)
  subst esz
  have hS : ∀ (ld : Bool) (x1' x2' x3' x4' : Int32), PFs ad h e ((tr2, sz2), ld, x1', x2', x3', x4') := fun ld x1' x2' x3' x4' => ⟨⟨at_m0 (p := 3) x1, at_m1 y1⟩, sj, qs, ⟨at_m0 (p := 1) z1, z2⟩, ⟨at_m1 w1, by have := nI_ok (show sj < 2147483648 by omega); omega⟩, at_m0 (p := 1) p1, at_m1 r1⟩
  -- the load
  obtain ⟨V7, hV7⟩ := fld_any (p := 7) hT (by omega) g2 (by omega) hk
  obtain ⟨d5, gv, e5, e2⟩ := cpl_at (p := 7) hT l1 l2 l3 l4 List.mem_cons_self hk hV7
  rcases List.mem_cons.mp e5 with rfl | e5
  · obtain ⟨E1', e2⟩ := dc_1 e2
    obtain ⟨-, e2⟩ := dc_1 e2
    obtain ⟨-, e2⟩ := dc_1 e2
    obtain ⟨-, e2⟩ := dc_1 e2
    obtain ⟨E5, e2⟩ := dc_1 e2
    obtain ⟨-, e2⟩ := dc_1 e2
    obtain ⟨-, e2⟩ := dc_1 e2
    obtain ⟨-, e2⟩ := dc_1 e2
    obtain ⟨E9, -⟩ := dc_1 e2
    obtain ⟨x, v1, -, v2, v3⟩ := en_int' (by omega) E5
    have ex : x = Int32.ofInt (-1) := i2n_inj (by rw [cw_m1]; omega)
    subst ex
    obtain ⟨y, v4, -, v5, v6⟩ := en_int' (by omega) E9
    have ey : y = nI 0 := r5nI (by omega) (by omega)
    subst ey
    exact ⟨((tr2, sz2), false, 0, 0, 0, 0), hS _ _ _ _ _, Or.inl ⟨rfl, at_m0 (p := 7) (en_null rfl rfl rfl E1'), at_m1 v1, at_m1 v4⟩⟩
  · have e5 := List.mem_singleton.mp e5
    subst e5
    obtain ⟨E1', e2⟩ := dc_1 e2
    obtain ⟨E2', e2⟩ := dc_1 e2
    obtain ⟨E3, e2⟩ := dc_1 e2
    obtain ⟨E4, e2⟩ := dc_1 e2
    obtain ⟨E5, e2⟩ := dc_1 e2
    obtain ⟨E6, e2⟩ := dc_1 e2
    obtain ⟨E7, e2⟩ := dc_1 e2
    obtain ⟨E8, e2⟩ := dc_1 e2
    obtain ⟨E9, -⟩ := dc_1 e2
    obtain ⟨q, v1, v2⟩ := en_own rfl E1'
    rw [g1] at v2
    obtain ⟨dl, dl1, dl2, dl3⟩ := en_int' (by omega) E2'
    obtain ⟨dl', dm1, dm2, -⟩ := en_int' (by omega) E5
    have ed : dl' = dl := i2n_inj (dm2.trans dl2.symm)
    subst ed
    obtain ⟨lo, lo1, lo2, -⟩ := en_int' (by omega) E3
    obtain ⟨lo', lm1, lm2, -⟩ := en_int' (by omega) E6
    have el : lo' = lo := i2n_inj (lm2.trans lo2.symm)
    subst el
    obtain ⟨ht, ht1, ht2, ht3⟩ := en_int' (by omega) E4
    obtain ⟨ht', hm1, hm2, -⟩ := en_int' (by omega) E7
    have eh : ht' = ht := i2n_inj (hm2.trans ht2.symm)
    subst eh
    obtain ⟨n1, n11, n12, n13, n14⟩ := en_int' (by omega) E8
    obtain ⟨n2, n21, n22, -⟩ := en_int' (by omega) E9
    have en : n2 = n1 := i2n_inj (n22.trans n12.symm)
    subst en
    obtain ⟨n, ws, ts, ds, hR⟩ := hW e (by rw [v2]; exact fun e => by cases e)
    have hR1 := hR.1
    have en : n2 = nI n := at_int (at_m0 (p := 3) n11) hR.2.1
    subst en
    rcases kw_td (ws := ws) (ts := ts) (ds := ds) (kn := kn) (wh := 0) (e := e) n with ⟨k1, -⟩ | ⟨j, j1, k1, -⟩
    · exact ⟨((tr2, sz2), true, lo', dl', ht', 0), hS _ _ _ _ _, Or.inr ⟨rfl, q, n, ws, ts, ds, ⟨⟨at_m0 (p := 7) v1, v2⟩, ⟨at_m0 (p := 0) lo1, at_m1 lm1⟩, ⟨at_m0 (p := 1) dl1, at_m1 dm1⟩, at_m0 (p := 2) ht1, at_m1 hm1⟩, ⟨dl3, ht3⟩, ⟨hR, at_m1 n21⟩, Or.inl ⟨k1, rfl⟩⟩⟩
    · exact ⟨((tr2, sz2), true, lo', dl', ht', ws j), hS _ _ _ _ _, Or.inr ⟨rfl, q, n, ws, ts, ds, ⟨⟨at_m0 (p := 7) v1, v2⟩, ⟨at_m0 (p := 0) lo1, at_m1 lm1⟩, ⟨at_m0 (p := 1) dl1, at_m1 dm1⟩, at_m0 (p := 2) ht1, at_m1 hm1⟩, ⟨dl3, ht3⟩, ⟨hR, at_m1 n21⟩, Or.inr ⟨j, j1, k1, rfl⟩⟩⟩
theorem head_fth (hD : HD σ ad h L i) : ∃ N kn d, FtH ad h N kn d := by
  have hH := hD.1
  have hT := hH.2.1
  obtain ⟨N, n1, ⟨n2, n3⟩, n4⟩ := head_ll hH
  obtain ⟨-, ⟨l5, -⟩, ⟨c11, -⟩, -⟩ := wg_c
  obtain ⟨ox, hox⟩ := hT.2.2.2.1.2.1 10 pm_t.2.2.2
  obtain ⟨kn, k1, k2⟩ : ∃ kn, At ad h 10 0 1 (.int kn) ∧ At ad h 11 0 47 (.int kn) := by
    obtain ⟨-, -, -, -, -, -, u, ws, hv, -⟩ := hH
    obtain ⟨u', hv'⟩ := hvs_drop (j := 16) hv
    have e : hcL.drop 16 = (0, 1281, 0, 4294967295) :: (0, 1455, 1, 0) :: (hcL.drop 16).drop 2 := by
      rw [show hcL.drop 16 = (hcL.drop 16).take 2 ++ (hcL.drop 16).drop 2 from (List.take_append_drop 2 _).symm, kn_c]
      rfl
    rw [e] at hv'
    obtain ⟨Y, ⟨y1, y2⟩, -⟩ := hv_pair (by omega) hv'
    exact ⟨Y, y1, y2⟩
  have hx : ∀ e, ∃ dd : LD, e < N → e < 60 ∧ (PFs ad h e dd ∧ PFl ad h kn e dd) := fun e => by
    by_cases he : e < N
    · obtain ⟨dd, h1, h2⟩ := let_data (kn := kn) hT ((n4 e).mpr he) (by omega) hD.2.2.2.2.1
      exact ⟨dd, fun _ => ⟨by omega, h1, h2⟩⟩
    · exact ⟨((0, 0), false, 0, 0, 0, 0), fun h => absurd h he⟩
  obtain ⟨d, hd⟩ := Classical.axiomOfChoice hx
  exact ⟨N, kn, d, ⟨⟨n1, ls_form hT l5 c11 hox n2 (by omega)⟩, n3, k1, k2⟩, hd⟩
end
/-! the calls -/
noncomputable def PrC (σ : Nat → Nat) (h : AH) (mX mM ox m : Nat) (xs : List Int32) : Prop := ∃ X : Int32, Rt σ mX (codeOf mX) (am_args 0 (.ref ox :: xs.map .int)) [] h (fun v h' => v = some (.int X) ∧ h' = h) ∧ Rt σ mM (codeOf mM) (am_args 0 (.ref m :: xs.map .int)) [] h (fun v h' => v = some (.int X) ∧ h' = h)
section
variable {σ : Nat → Nat} {ad : AD} {h : AH} {np N ox m M pc : Nat} {ex ho : Nat → Nat → Prop} {kn day tr sz hh wh lo wk nn v : Int32} {d : Nat → LD} {tl : List (Nat × AI)} {L : LV} {S : List Value} {c : Int} {Q : Option Value → AH → Prop}
theorem isSize_x (h4 : am_w S ≤ 8) (hk : Rt σ M tl L (.int (txW v (Int32.ofInt 1) (Int32.ofInt 12)) :: S) h Q) : Rt σ M ((pc, (12, 21, c)) :: tl) L (.int v :: S) h Q := by
  obtain ⟨-, ⟨-, -, s21⟩, -⟩ := ft_sp
  obtain ⟨⟨-, -, m24⟩, -⟩ := ft_ml
  refine rl_calls (as := [.int v]) (r := S) s21 rfl rfl h4 ?_ ?_
  · unfold am_ok
    rw [decide_eq_true (show ([.int v] : List Value).length ≤ mL 24 from m24)]
    rfl
  · rw [code_24]
    exact rl_load rfl rfl (rl_const (rl_const (within_ok (by show 0 ≤ 8; omega) (rl_ret4 (txW_01 _ _ _) hk))))
theorem isLorry_x (h4 : am_w S ≤ 8) (hk : Rt σ M tl L (.int (txW v (Int32.ofInt 0) (Int32.ofInt 5)) :: S) h Q) : Rt σ M ((pc, (12, 52, c)) :: tl) L (.int v :: S) h Q := by
  obtain ⟨-, ⟨-, s52, -⟩, -⟩ := ft_sp
  obtain ⟨⟨-, ⟨-, m67⟩, -⟩, -⟩ := ft_ml
  refine rl_calls (as := [.int v]) (r := S) s52 rfl rfl h4 ?_ ?_
  · unfold am_ok
    rw [decide_eq_true (show ([.int v] : List Value).length ≤ mL 67 from m67)]
    rfl
  · rw [code_67]
    exact rl_load rfl rfl (rl_const (rl_const (within_ok (by show 0 ≤ 8; omega) (rl_ret4 (txW_01 _ _ _) hk))))
theorem w03 (hw : txW wh (Int32.ofInt 0) (Int32.ofInt 3) = 1) : wh = 0 ∨ (wh = Int32.ofInt 1 ∨ (wh = Int32.ofInt 2 ∨ wh = Int32.ofInt 3)) := by
  have c0 : i2n (Int32.ofInt 0) = 2147483648 := by decide +kernel
  have c1 : i2n (Int32.ofInt 1) = 2147483649 := by decide +kernel
  have c2 : i2n (Int32.ofInt 2) = 2147483650 := by decide +kernel
  have c3 : i2n (Int32.ofInt 3) = 2147483651 := by decide +kernel
  have h1 := txW_in hw
  rw [c0, c3] at h1
  rcases (show i2n wh = 2147483648 ∨ (i2n wh = 2147483649 ∨ (i2n wh = 2147483650 ∨ i2n wh = 2147483651)) by omega) with e | e | e | e
  · exact Or.inl (i2n_inj (e.trans c_0.symm))
  · exact Or.inr (Or.inl (i2n_inj (e.trans c1.symm)))
  · exact Or.inr (Or.inr (Or.inl (i2n_inj (e.trans c2.symm))))
  · exact Or.inr (Or.inr (Or.inr (i2n_inj (e.trans c3.symm))))
theorem six_ok' {q : Nat} {a b c e f : Int32} {M : Nat} (hm : 6 ≤ mL M) : am_ok [.ref q, .int a, .int b, .int c, .int e, .int f] M = true := by
  unfold am_ok
  rw [decide_eq_true (show ([.ref q, .int a, .int b, .int c, .int e, .int f] : List Value).length ≤ mL M from hm)]
  rfl
theorem pr_foretell (hT : TS ad h np ex ho) (hox : ad 10 0 = some ox) (hm : ad 11 0 = some m) (hF : FtH ad h N kn d) : PrC σ h 88 222 ox m [tr, sz, hh, wh] := by
  obtain ⟨⟨⟨⟨c10, c10'⟩, -⟩, -⟩, -⟩ := pm_c
  obtain ⟨⟨⟨c11, c11'⟩, -⟩, -⟩ := m_cls
  obtain ⟨⟨-, s64, -⟩, -⟩ := ft_sp
  obtain ⟨-, -, ⟨-, s159, -⟩, -⟩ := ft_sp
  obtain ⟨⟨⟨-, m89, -⟩, -⟩, ⟨-, m223, -⟩, -⟩ := ft_ml
  obtain ⟨vx, x1, -⟩ := at_kind hT.1 (by omega) (by omega) hF.1.2.2.1 hox
  rw [c10'] at x1
  obtain ⟨vm, xm, -⟩ := at_kind hT.1 (by omega) (by omega) hF.1.2.1 hm
  rw [c11'] at xm
  have mok : am_ok [.ref ox, .int tr, .int sz, .int hh, .int wh, .null] 89 = true := by
    unfold am_ok
    rw [decide_eq_true (show ([.ref ox, .int tr, .int sz, .int hh, .int wh, .null] : List Value).length ≤ mL 89 from m89)]
    rfl
  have badX : ∀ L : LV, Rt σ 88 (jump 88 37) L [] h (fun v h' => v = some (.int (Int32.ofInt (-2))) ∧ h' = h) := fun L => by
    rw [j88_37]
    exact rl_const (rl_ret1 ⟨rfl, rfl⟩)
  have badM : ∀ L : LV, Rt σ 222 (jump 222 40) L [] h (fun v h' => v = some (.int (Int32.ofInt (-2))) ∧ h' = h) := fun L => by
    rw [j222_40]
    exact rl_const (rl_ret1 ⟨rfl, rfl⟩)
  have i0 : ∀ {x a b : Int32}, txW x a b = 0 → icond 0 (txW x a b) 0 = some true := fun {x a b} h => by
    show some (decide (txW x a b = 0)) = some true
    rw [decide_eq_true h]
  have i1 : ∀ {x a b : Int32}, txW x a b = 1 → icond 0 (txW x a b) 0 = some false := fun {x a b} h => by rw [h]; rfl
  have j0 : ∀ {x a b : Int32}, txW x a b = 0 → icond 1 (txW x a b) 0 = some false := fun {x a b} h => by rw [h]; rfl
  have j1 : ∀ {x a b : Int32}, txW x a b = 1 → icond 1 (txW x a b) 0 = some true := fun {x a b} h => by rw [h]; rfl
  unfold PrC
  rw [head_88, head_222]
  rcases txW_01 tr (Int32.ofInt 0) (Int32.ofInt 5) with a1 | a1
  · exact ⟨_, rl_load rfl rfl (rl_const (rl_const (within_ok (by show 0 ≤ 8; omega) (rl_ifT (i0 a1) (badX _))))), rl_load rfl rfl (rl_const (rl_const (min_ok (by show 0 ≤ 8; omega) (rl_ifT (i0 a1) (badM _)))))⟩
  rcases txW_01 sz (Int32.ofInt 1) (Int32.ofInt 12) with a2 | a2
  · exact ⟨_, rl_load rfl rfl (rl_const (rl_const (within_ok (by show 0 ≤ 8; omega) (rl_ifF (i1 a1) (rl_load rfl rfl (isSize_x (by show 0 ≤ 8; omega) (rl_ifT (i0 a2) (badX _)))))))), rl_load rfl rfl (rl_const (rl_const (min_ok (by show 0 ≤ 8; omega) (rl_ifF (i1 a1) (rl_load rfl rfl (rl_const (rl_const (min_ok (by show 0 ≤ 8; omega) (rl_ifT (i0 a2) (badM _))))))))))⟩
  rcases txW_01 hh (Int32.ofInt 1) (Int32.ofInt 200) with a3 | a3
  · exact ⟨_, rl_load rfl rfl (rl_const (rl_const (within_ok (by show 0 ≤ 8; omega) (rl_ifF (i1 a1) (rl_load rfl rfl (isSize_x (by show 0 ≤ 8; omega) (rl_ifF (i1 a2) (rl_load rfl rfl (rl_const (rl_const (within_ok (by show 0 ≤ 8; omega) (rl_ifT (i0 a3) (badX _))))))))))))), rl_load rfl rfl (rl_const (rl_const (min_ok (by show 0 ≤ 8; omega) (rl_ifF (i1 a1) (rl_load rfl rfl (rl_const (rl_const (min_ok (by show 0 ≤ 8; omega) (rl_ifF (i1 a2) (rl_load rfl rfl (rl_const (rl_const (min_ok (by show 0 ≤ 8; omega) (rl_ifT (i0 a3) (badM _)))))))))))))))⟩
  rcases txW_01 wh (Int32.ofInt 0) (Int32.ofInt 3) with a4 | a4
  · exact ⟨_, rl_load rfl rfl (rl_const (rl_const (within_ok (by show 0 ≤ 8; omega) (rl_ifF (i1 a1) (rl_load rfl rfl (isSize_x (by show 0 ≤ 8; omega) (rl_ifF (i1 a2) (rl_load rfl rfl (rl_const (rl_const (within_ok (by show 0 ≤ 8; omega) (rl_ifF (i1 a3) (rl_load rfl rfl (rl_const (rl_const (within_ok (by show 0 ≤ 8; omega) (rl_ifF (j0 a4) (badX _)))))))))))))))))), rl_load rfl rfl (rl_const (rl_const (min_ok (by show 0 ≤ 8; omega) (rl_ifF (i1 a1) (rl_load rfl rfl (rl_const (rl_const (min_ok (by show 0 ≤ 8; omega) (rl_ifF (i1 a2) (rl_load rfl rfl (rl_const (rl_const (min_ok (by show 0 ≤ 8; omega) (rl_ifF (i1 a3) (rl_load rfl rfl (rl_const (rl_const (min_ok (by show 0 ≤ 8; omega) (rl_ifF (j0 a4) (badM _))))))))))))))))))))⟩
  have hhr : 2147483648 ≤ i2n hh ∧ i2n hh ≤ 2147483848 := by
    have c1 : i2n (Int32.ofInt 1) = 2147483649 := by decide +kernel
    have c2 : i2n (Int32.ofInt 200) = 2147483848 := by decide +kernel
    have := txW_in a3
    omega
  refine ⟨fR (fS d none tr sz hh N) sz hh wh, rl_load rfl rfl (rl_const (rl_const (within_ok (by show 0 ≤ 8; omega) (rl_ifF (i1 a1) (rl_load rfl rfl (isSize_x (by show 0 ≤ 8; omega) (rl_ifF (i1 a2) (rl_load rfl rfl (rl_const (rl_const (within_ok (by show 0 ≤ 8; omega) (rl_ifF (i1 a3) (rl_load rfl rfl (rl_const (rl_const (within_ok (by show 0 ≤ 8; omega) (rl_ifT (j1 a4) ?_))))))))))))))))), rl_load rfl rfl (rl_const (rl_const (min_ok (by show 0 ≤ 8; omega) (rl_ifF (i1 a1) (rl_load rfl rfl (rl_const (rl_const (min_ok (by show 0 ≤ 8; omega) (rl_ifF (i1 a2) (rl_load rfl rfl (rl_const (rl_const (min_ok (by show 0 ≤ 8; omega) (rl_ifF (i1 a3) (rl_load rfl rfl (rl_const (rl_const (min_ok (by show 0 ≤ 8; omega) (rl_ifT (j1 a4) ?_)))))))))))))))))))⟩
  · show Rt σ 88 (jump 88 40) _ _ _ _
    rw [j88_40]
    exact rl_load rfl rfl (rl_load rfl rfl (rl_load rfl rfl (rl_load rfl rfl (rl_load rfl rfl (rl_null (rl_callv (as := [.int tr, .int sz, .int hh, .int wh, .null]) (r := []) s64 rfl rfl x1 (by show 0 ≤ 8; omega) mok (X_foretold hT hox hF (Or.inl ⟨rfl, rfl⟩) (rl_ret1 ⟨rfl, rfl⟩))))))))
  · show Rt σ 222 (jump 222 43) _ _ _ _
    rw [j222_43]
    exact rl_load rfl rfl (rl_load rfl rfl (rl_load rfl rfl (rl_load rfl rfl (rl_const (rl_load rfl rfl (rl_callv (as := [.int tr, .int sz, .int hh, .int (Int32.ofInt (-1)), .int wh]) (r := []) s159 rfl rfl xm (by show 0 ≤ 8; omega) (six_ok' m223) (M_foretold hT hm hF hhr (w03 a4) (Or.inl ⟨rfl, rfl⟩) (rl_ret1 ⟨rfl, rfl⟩))))))))
theorem spec_65 : spec 65 = (1, 3, [(10, 91)]) := by decide +kernel
theorem spec_160 : spec 160 = (1, 3, [(11, 225)]) := by decide +kernel
theorem ml_lo : 4 ≤ mL 91 ∧ 4 ≤ mL 225 := by decide +kernel
theorem pr_lost (hT : TS ad h np ex ho) (hox : ad 10 0 = some ox) (hm : ad 11 0 = some m) (hF : FtH ad h N kn d) (hd1 : At ad h 10 0 0 (.int day)) (hd2 : At ad h 11 0 0 (.int day)) : PrC σ h 90 224 ox m [lo, wk, wh] := by
  obtain ⟨⟨⟨⟨c10, c10'⟩, -⟩, -⟩, -⟩ := pm_c
  obtain ⟨⟨⟨c11, c11'⟩, -⟩, -⟩ := m_cls
  obtain ⟨m91, m225⟩ := ml_lo
  obtain ⟨vx, x1, -⟩ := at_kind hT.1 (by omega) (by omega) hF.1.2.2.1 hox
  rw [c10'] at x1
  obtain ⟨vm, xm, -⟩ := at_kind hT.1 (by omega) (by omega) hF.1.2.1 hm
  rw [c11'] at xm
  have badX : ∀ L : LV, Rt σ 90 (jump 90 26) L [] h (fun v h' => v = some (.int (Int32.ofInt (-2147483648))) ∧ h' = h) := fun L => by
    rw [j90_26]
    exact rl_const (rl_ret1 ⟨rfl, rfl⟩)
  have badM : ∀ L : LV, Rt σ 224 (jump 224 38) L [] h (fun v h' => v = some (.int (Int32.ofInt (-2147483648))) ∧ h' = h) := fun L => by
    rw [j224_38]
    refine rl_const ?_
    rw [j224_41]
    exact rl_ret1 ⟨rfl, rfl⟩
  have i0 : ∀ {x a b : Int32}, txW x a b = 0 → icond 0 (txW x a b) 0 = some true := fun {x a b} h => by
    show some (decide (txW x a b = 0)) = some true
    rw [decide_eq_true h]
  have i1 : ∀ {x a b : Int32}, txW x a b = 1 → icond 0 (txW x a b) 0 = some false := fun {x a b} h => by rw [h]; rfl
  have j0 : ∀ {x a b : Int32}, txW x a b = 0 → icond 1 (txW x a b) 0 = some false := fun {x a b} h => by rw [h]; rfl
  have j1 : ∀ {x a b : Int32}, txW x a b = 1 → icond 1 (txW x a b) 0 = some true := fun {x a b} h => by rw [h]; rfl
  unfold PrC
  rw [head_90, head_224]
  rcases txW_01 lo (Int32.ofInt 0) (Int32.ofInt 5) with a1 | a1
  · exact ⟨_, rl_load rfl rfl (isLorry_x (by show 0 ≤ 8; omega) (rl_ifT (i0 a1) (badX _))), rl_load rfl rfl (rl_const (rl_const (min_ok (by show 0 ≤ 8; omega) (rl_ifT (i0 a1) (badM _)))))⟩
  rcases txW_01 wk (Int32.ofInt 0) (Int32.ofInt 57) with a2 | a2
  · exact ⟨_, rl_load rfl rfl (isLorry_x (by show 0 ≤ 8; omega) (rl_ifF (i1 a1) (rl_load rfl rfl (rl_const (rl_const (within_ok (by show 0 ≤ 8; omega) (rl_ifT (i0 a2) (badX _)))))))), rl_load rfl rfl (rl_const (rl_const (min_ok (by show 0 ≤ 8; omega) (rl_ifF (i1 a1) (rl_load rfl rfl (rl_const (rl_const (min_ok (by show 0 ≤ 8; omega) (rl_ifT (i0 a2) (badM _))))))))))⟩
  rcases txW_01 wh (Int32.ofInt 0) (Int32.ofInt 2) with a3 | a3
  · exact ⟨_, rl_load rfl rfl (isLorry_x (by show 0 ≤ 8; omega) (rl_ifF (i1 a1) (rl_load rfl rfl (rl_const (rl_const (within_ok (by show 0 ≤ 8; omega) (rl_ifF (i1 a2) (rl_load rfl rfl (rl_const (rl_const (within_ok (by show 0 ≤ 8; omega) (rl_ifF (j0 a3) (badX _))))))))))))), rl_load rfl rfl (rl_const (rl_const (min_ok (by show 0 ≤ 8; omega) (rl_ifF (i1 a1) (rl_load rfl rfl (rl_const (rl_const (min_ok (by show 0 ≤ 8; omega) (rl_ifF (i1 a2) (rl_load rfl rfl (rl_const (rl_const (min_ok (by show 0 ≤ 8; omega) (rl_ifT (i0 a3) (badM _)))))))))))))))⟩
  refine ⟨lR (lS d N day lo wk N) wh, rl_load rfl rfl (isLorry_x (by show 0 ≤ 8; omega) (rl_ifF (i1 a1) (rl_load rfl rfl (rl_const (rl_const (within_ok (by show 0 ≤ 8; omega) (rl_ifF (i1 a2) (rl_load rfl rfl (rl_const (rl_const (within_ok (by show 0 ≤ 8; omega) (rl_ifT (j1 a3) ?_)))))))))))), rl_load rfl rfl (rl_const (rl_const (min_ok (by show 0 ≤ 8; omega) (rl_ifF (i1 a1) (rl_load rfl rfl (rl_const (rl_const (min_ok (by show 0 ≤ 8; omega) (rl_ifF (i1 a2) (rl_load rfl rfl (rl_const (rl_const (min_ok (by show 0 ≤ 8; omega) (rl_ifF (i1 a3) (rl_load rfl rfl (rl_load rfl rfl (rl_load rfl rfl (rl_load rfl rfl (rl_callv (as := [.int lo, .int wk, .int wh]) (r := []) spec_160 rfl rfl xm (by show 0 ≤ 8; omega) (four_ok' m225) (M_lostOf hT hm hF hd2 (rl_goto ?_)))))))))))))))))))))⟩
  · show Rt σ 90 (jump 90 30) _ _ _ _
    rw [j90_30]
    exact rl_load rfl rfl (rl_load rfl rfl (rl_load rfl rfl (rl_load rfl rfl (rl_callv (as := [.int lo, .int wk, .int wh]) (r := []) spec_65 rfl rfl x1 (by show 0 ≤ 8; omega) (four_ok' m91) (X_lostBy hT hox hF hd1 (rl_ret1 ⟨rfl, rfl⟩))))))
  · show Rt σ 224 (jump 224 41) _ _ _ _
    rw [j224_41]
    exact rl_ret1 ⟨rfl, rfl⟩
/-- weeks, one behind another -/
noncomputable def thF (d : Nat → LD) (N : Nat) (day lo : Int32) (r w : Nat) : Int32 := match r with
  | 0 => 1
  | r + 1 => if lR (lS d N day lo (nI w) N) (Int32.ofInt 2) = 0 ∨ lR (lS d N day lo (nI w) N) (Int32.ofInt 0) * Int32.ofInt 10 ≤ lR (lS d N day lo (nI w) N) (Int32.ofInt 1) then 0 else thF d N day lo r (w + 1)
theorem pr_thieving (hT : TS ad h np ex ho) (hox : ad 10 0 = some ox) (hm : ad 11 0 = some m) (hF : FtH ad h N kn d) (hd1 : At ad h 10 0 0 (.int day)) (hd2 : At ad h 11 0 0 (.int day)) : PrC σ h 93 227 ox m [lo, wk, nn] := by
  obtain ⟨⟨⟨⟨c10, c10'⟩, -⟩, -⟩, -⟩ := pm_c
  obtain ⟨⟨⟨c11, c11'⟩, -⟩, -⟩ := m_cls
  obtain ⟨m91, m225⟩ := ml_lo
  obtain ⟨vx, x1, -⟩ := at_kind hT.1 (by omega) (by omega) hF.1.2.2.1 hox
  rw [c10'] at x1
  obtain ⟨vm, xm, -⟩ := at_kind hT.1 (by omega) (by omega) hF.1.2.1 hm
  rw [c11'] at xm
  have badX : ∀ L : LV, Rt σ 93 (jump 93 37) L [] h (fun v h' => v = some (.int (Int32.ofInt (-2))) ∧ h' = h) := fun L => by
    rw [j93_37]
    exact rl_const (rl_ret1 ⟨rfl, rfl⟩)
  have badM : ∀ L : LV, Rt σ 227 (jump 227 39) L [] h (fun v h' => v = some (.int (Int32.ofInt (-2))) ∧ h' = h) := fun L => by
    rw [j227_39]
    exact rl_const (rl_ret1 ⟨rfl, rfl⟩)
  have i0 : ∀ {x a b : Int32}, txW x a b = 0 → icond 0 (txW x a b) 0 = some true := fun {x a b} h => by
    show some (decide (txW x a b = 0)) = some true
    rw [decide_eq_true h]
  have i1 : ∀ {x a b : Int32}, txW x a b = 1 → icond 0 (txW x a b) 0 = some false := fun {x a b} h => by rw [h]; rfl
  unfold PrC
  rw [head_93, head_227]
  rcases txW_01 lo (Int32.ofInt 0) (Int32.ofInt 5) with a1 | a1
  · exact ⟨_, rl_load rfl rfl (isLorry_x (by show 0 ≤ 8; omega) (rl_ifT (i0 a1) (badX _))), rl_load rfl rfl (rl_const (rl_const (min_ok (by show 0 ≤ 8; omega) (rl_ifT (i0 a1) (badM _)))))⟩
  rcases txW_01 wk (Int32.ofInt 0) (Int32.ofInt 57) with a2 | a2
  · exact ⟨_, rl_load rfl rfl (isLorry_x (by show 0 ≤ 8; omega) (rl_ifF (i1 a1) (rl_load rfl rfl (rl_const (rl_const (within_ok (by show 0 ≤ 8; omega) (rl_ifT (i0 a2) (badX _)))))))), rl_load rfl rfl (rl_const (rl_const (min_ok (by show 0 ≤ 8; omega) (rl_ifF (i1 a1) (rl_load rfl rfl (rl_const (rl_const (min_ok (by show 0 ≤ 8; omega) (rl_ifT (i0 a2) (badM _))))))))))⟩
  rcases txW_01 nn (Int32.ofInt 2) (Int32.ofInt 20) with a3 | a3
  · exact ⟨_, rl_load rfl rfl (isLorry_x (by show 0 ≤ 8; omega) (rl_ifF (i1 a1) (rl_load rfl rfl (rl_const (rl_const (within_ok (by show 0 ≤ 8; omega) (rl_ifF (i1 a2) (rl_load rfl rfl (rl_const (rl_const (within_ok (by show 0 ≤ 8; omega) (rl_ifT (i0 a3) (badX _))))))))))))), rl_load rfl rfl (rl_const (rl_const (min_ok (by show 0 ≤ 8; omega) (rl_ifF (i1 a1) (rl_load rfl rfl (rl_const (rl_const (min_ok (by show 0 ≤ 8; omega) (rl_ifF (i1 a2) (rl_load rfl rfl (rl_const (rl_const (min_ok (by show 0 ≤ 8; omega) (rl_ifT (i0 a3) (badM _)))))))))))))))⟩
  by_cases a4 : wk + nn - Int32.ofInt 1 ≤ Int32.ofInt 57
  case neg =>
    exact ⟨_, rl_load rfl rfl (isLorry_x (by show 0 ≤ 8; omega) (rl_ifF (i1 a1) (rl_load rfl rfl (rl_const (rl_const (within_ok (by show 0 ≤ 8; omega) (rl_ifF (i1 a2) (rl_load rfl rfl (rl_const (rl_const (within_ok (by show 0 ≤ 8; omega) (rl_ifF (i1 a3) (rl_load rfl rfl (rl_load rfl rfl (rl_bin rfl (rl_const (rl_bin rfl (rl_const (rl_icmpF (by show some (decide (wk + nn - Int32.ofInt 1 ≤ Int32.ofInt 57)) = some false; rw [decide_eq_false a4]) (badX _)))))))))))))))))))), rl_load rfl rfl (rl_const (rl_const (min_ok (by show 0 ≤ 8; omega) (rl_ifF (i1 a1) (rl_load rfl rfl (rl_const (rl_const (min_ok (by show 0 ≤ 8; omega) (rl_ifF (i1 a2) (rl_load rfl rfl (rl_const (rl_const (min_ok (by show 0 ≤ 8; omega) (rl_ifF (i1 a3) (rl_load rfl rfl (rl_load rfl rfl (rl_bin rfl (rl_const (rl_bin rfl (rl_const (rl_icmpF (by show some (decide (wk + nn - Int32.ofInt 1 ≤ Int32.ofInt 57)) = some false; rw [decide_eq_false a4]) (badM _))))))))))))))))))))))⟩
  -- weeks and their number as small numbers
  have c0 : i2n (Int32.ofInt 0) = 2147483648 := by decide +kernel
  have c1 : i2n (Int32.ofInt 1) = 2147483649 := by decide +kernel
  have c2 : i2n (Int32.ofInt 2) = 2147483650 := by decide +kernel
  have c20 : i2n (Int32.ofInt 20) = 2147483668 := by decide +kernel
  have c57 : i2n (Int32.ofInt 57) = 2147483705 := by decide +kernel
  have r2 := txW_in a2
  have r3 := txW_in a3
  rw [c0, c57] at r2
  rw [c2, c20] at r3
  obtain ⟨w0, hw0⟩ : ∃ w0, i2n wk = 2147483648 + w0 := ⟨i2n wk - 2147483648, by omega⟩
  obtain ⟨n0, hn0⟩ : ∃ n0, i2n nn = 2147483648 + n0 := ⟨i2n nn - 2147483648, by omega⟩
  have ewk := r5nI hw0 (by omega)
  have enn := r5nI hn0 (by omega)
  subst ewk
  subst enn
  have loopX : ∀ (r w : Nat) (L : LV), w + r = w0 + n0 → lv_get 0 L = some (.ref ox) → lv_get 1 L = some (.int lo) → lv_get 2 L = some (.int (nI w0)) → lv_get 3 L = some (.int (nI n0)) → lv_get 4 L = some (.int (nI w)) → Rt σ 93 (jump 93 43) L [] h (fun v h' => v = some (.int (thF d N day lo r w)) ∧ h' = h) := by
    intro r
    induction r with
    | zero =>
      intro w L hw l0 l1 l2 l3 l4
      rw [j93_43]
      refine rl_load l4 rfl (rl_load l2 rfl (rl_load l3 rfl (rl_bin (z := nI (w0 + n0)) (by show some _ = _; rw [nI_plus (by omega)]) (rl_icmpT ?_ ?_))))
      · show some (decide (nI (w0 + n0) ≤ nI w)) = some true
        rw [decide_eq_true ((tx_le (by omega) (by omega)).mpr (by omega))]
      · show Rt σ 93 (jump 93 92) _ _ _ _
        rw [j93_92]
        exact rl_const (rl_ret1 ⟨rfl, rfl⟩)
    | succ r ih =>
      intro w L hw l0 l1 l2 l3 l4
      have no : (lR (lS d N day lo (nI w) N) (Int32.ofInt 2) = 0 ∨ lR (lS d N day lo (nI w) N) (Int32.ofInt 0) * Int32.ofInt 10 ≤ lR (lS d N day lo (nI w) N) (Int32.ofInt 1)) → Rt σ 93 (jump 93 84) L [] h (fun v h' => v = some (.int (thF d N day lo (r + 1) w)) ∧ h' = h) := fun hc => by
        rw [j93_84, thF, if_pos hc]
        exact rl_const (rl_ret1 ⟨rfl, rfl⟩)
      rw [j93_43]
      refine rl_load l4 rfl (rl_load l2 rfl (rl_load l3 rfl (rl_bin (z := nI (w0 + n0)) (by show some _ = _; rw [nI_plus (by omega)]) (rl_icmpF ?_ (rl_load l0 rfl (rl_load l1 rfl (rl_load l4 rfl (rl_const (rl_callv (as := [.int lo, .int (nI w), .int (Int32.ofInt 2)]) (r := []) spec_65 rfl rfl x1 (by show 0 ≤ 8; omega) (four_ok' m91) (X_lostBy hT hox hF hd1 ?_))))))))))
      · show some (decide (nI (w0 + n0) ≤ nI w)) = some false
        rw [decide_eq_false (by rw [tx_le (by omega) (by omega)]; omega)]
      by_cases z0 : lR (lS d N day lo (nI w) N) (Int32.ofInt 2) = 0
      · exact rl_ifT (by show some (decide (lR (lS d N day lo (nI w) N) (Int32.ofInt 2) = 0)) = some true; rw [decide_eq_true z0]) (no (Or.inl z0))
      refine rl_ifF (by show some (decide (lR (lS d N day lo (nI w) N) (Int32.ofInt 2) = 0)) = some false; rw [decide_eq_false z0]) (rl_load l0 rfl (rl_load l1 rfl (rl_load l4 rfl (rl_const (rl_callv (as := [.int lo, .int (nI w), .int (Int32.ofInt 0)]) (r := []) spec_65 rfl rfl x1 (by show 0 ≤ 8; omega) (four_ok' m91) (X_lostBy hT hox hF hd1 (rl_const (rl_bin rfl (rl_load l0 rfl (rl_load l1 rfl (rl_load l4 rfl (rl_const (rl_callv (as := [.int lo, .int (nI w), .int (Int32.ofInt 1)]) (r := [.int (lR (lS d N day lo (nI w) N) (Int32.ofInt 0) * Int32.ofInt 10)]) spec_65 rfl rfl x1 (by show 1 ≤ 8; omega) (four_ok' m91) (X_lostBy hT hox hF hd1 ?_))))))))))))))
      by_cases z1 : lR (lS d N day lo (nI w) N) (Int32.ofInt 0) * Int32.ofInt 10 ≤ lR (lS d N day lo (nI w) N) (Int32.ofInt 1)
      · exact rl_icmpF (by show some (decide (lR (lS d N day lo (nI w) N) (Int32.ofInt 1) < lR (lS d N day lo (nI w) N) (Int32.ofInt 0) * Int32.ofInt 10)) = some false; rw [decide_eq_false (Int32.not_lt.mpr z1)]) (no (Or.inr z1))
      · refine rl_icmpT (by show some (decide (lR (lS d N day lo (nI w) N) (Int32.ofInt 1) < lR (lS d N day lo (nI w) N) (Int32.ofInt 0) * Int32.ofInt 10)) = some true; rw [decide_eq_true (Int32.not_le.mp z1)]) ?_
        show Rt σ 93 (jump 93 86) _ _ _ _
        rw [j93_86, thF, if_neg (fun h => h.elim z0 z1)]
        refine rl_iinc l4 (rl_goto ?_)
        rw [nI_suc (by omega)]
        exact ih (w + 1) _ (by omega) (get_put rfl rfl (by omega) l0) (get_put rfl rfl (by omega) l1) (get_put rfl rfl (by omega) l2) (get_put rfl rfl (by omega) l3) rfl
  have loopM : ∀ (r w : Nat) (L : LV), w + r = w0 + n0 → lv_get 0 L = some (.ref m) → lv_get 1 L = some (.int lo) → lv_get 2 L = some (.int (nI w0)) → lv_get 3 L = some (.int (nI n0)) → lv_get 4 L = some (.int (nI w)) → Rt σ 227 (jump 227 45) L [] h (fun v h' => v = some (.int (thF d N day lo r w)) ∧ h' = h) := by
    intro r
    induction r with
    | zero =>
      intro w L hw l0 l1 l2 l3 l4
      rw [j227_45]
      refine rl_load l4 rfl (rl_load l2 rfl (rl_load l3 rfl (rl_bin (z := nI (w0 + n0)) (by show some _ = _; rw [nI_plus (by omega)]) (rl_icmpT ?_ ?_))))
      · show some (decide (nI (w0 + n0) ≤ nI w)) = some true
        rw [decide_eq_true ((tx_le (by omega) (by omega)).mpr (by omega))]
      · show Rt σ 227 (jump 227 94) _ _ _ _
        rw [j227_94]
        exact rl_const (rl_ret1 ⟨rfl, rfl⟩)
    | succ r ih =>
      intro w L hw l0 l1 l2 l3 l4
      have no : (lR (lS d N day lo (nI w) N) (Int32.ofInt 2) = 0 ∨ lR (lS d N day lo (nI w) N) (Int32.ofInt 0) * Int32.ofInt 10 ≤ lR (lS d N day lo (nI w) N) (Int32.ofInt 1)) → Rt σ 227 (jump 227 86) L [] h (fun v h' => v = some (.int (thF d N day lo (r + 1) w)) ∧ h' = h) := fun hc => by
        rw [j227_86, thF, if_pos hc]
        exact rl_const (rl_ret1 ⟨rfl, rfl⟩)
      rw [j227_45]
      refine rl_load l4 rfl (rl_load l2 rfl (rl_load l3 rfl (rl_bin (z := nI (w0 + n0)) (by show some _ = _; rw [nI_plus (by omega)]) (rl_icmpF ?_ (rl_load l0 rfl (rl_load l1 rfl (rl_load l4 rfl (rl_const (rl_callv (as := [.int lo, .int (nI w), .int (Int32.ofInt 2)]) (r := []) spec_160 rfl rfl xm (by show 0 ≤ 8; omega) (four_ok' m225) (M_lostOf hT hm hF hd2 ?_))))))))))
      · show some (decide (nI (w0 + n0) ≤ nI w)) = some false
        rw [decide_eq_false (by rw [tx_le (by omega) (by omega)]; omega)]
      by_cases z0 : lR (lS d N day lo (nI w) N) (Int32.ofInt 2) = 0
      · exact rl_ifT (by show some (decide (lR (lS d N day lo (nI w) N) (Int32.ofInt 2) = 0)) = some true; rw [decide_eq_true z0]) (no (Or.inl z0))
      refine rl_ifF (by show some (decide (lR (lS d N day lo (nI w) N) (Int32.ofInt 2) = 0)) = some false; rw [decide_eq_false z0]) (rl_const (rl_load l0 rfl (rl_load l1 rfl (rl_load l4 rfl (rl_const (rl_callv (as := [.int lo, .int (nI w), .int (Int32.ofInt 0)]) (r := [.int (Int32.ofInt 10)]) spec_160 rfl rfl xm (by show 1 ≤ 8; omega) (four_ok' m225) (M_lostOf hT hm hF hd2 (rl_bin (z := lR (lS d N day lo (nI w) N) (Int32.ofInt 0) * Int32.ofInt 10) (by show some _ = _; rw [Int32.mul_comm]) (rl_load l0 rfl (rl_load l1 rfl (rl_load l4 rfl (rl_const (rl_callv (as := [.int lo, .int (nI w), .int (Int32.ofInt 1)]) (r := [.int (lR (lS d N day lo (nI w) N) (Int32.ofInt 0) * Int32.ofInt 10)]) spec_160 rfl rfl xm (by show 1 ≤ 8; omega) (four_ok' m225) (M_lostOf hT hm hF hd2 ?_))))))))))))))
      by_cases z1 : lR (lS d N day lo (nI w) N) (Int32.ofInt 0) * Int32.ofInt 10 ≤ lR (lS d N day lo (nI w) N) (Int32.ofInt 1)
      · exact rl_icmpF (by show some (decide (lR (lS d N day lo (nI w) N) (Int32.ofInt 1) < lR (lS d N day lo (nI w) N) (Int32.ofInt 0) * Int32.ofInt 10)) = some false; rw [decide_eq_false (Int32.not_lt.mpr z1)]) (no (Or.inr z1))
      · refine rl_icmpT (by show some (decide (lR (lS d N day lo (nI w) N) (Int32.ofInt 1) < lR (lS d N day lo (nI w) N) (Int32.ofInt 0) * Int32.ofInt 10)) = some true; rw [decide_eq_true (Int32.not_le.mp z1)]) ?_
        show Rt σ 227 (jump 227 88) _ _ _ _
        rw [j227_88, thF, if_neg (fun h => h.elim z0 z1)]
        refine rl_iinc l4 (rl_goto ?_)
        rw [nI_suc (by omega)]
        exact ih (w + 1) _ (by omega) (get_put rfl rfl (by omega) l0) (get_put rfl rfl (by omega) l1) (get_put rfl rfl (by omega) l2) (get_put rfl rfl (by omega) l3) rfl
  refine ⟨thF d N day lo n0 w0, rl_load rfl rfl (isLorry_x (by show 0 ≤ 8; omega) (rl_ifF (i1 a1) (rl_load rfl rfl (rl_const (rl_const (within_ok (by show 0 ≤ 8; omega) (rl_ifF (i1 a2) (rl_load rfl rfl (rl_const (rl_const (within_ok (by show 0 ≤ 8; omega) (rl_ifF (i1 a3) (rl_load rfl rfl (rl_load rfl rfl (rl_bin rfl (rl_const (rl_bin rfl (rl_const (rl_icmpT (by show some (decide (nI w0 + nI n0 - Int32.ofInt 1 ≤ Int32.ofInt 57)) = some true; rw [decide_eq_true a4]) ?_))))))))))))))))))), rl_load rfl rfl (rl_const (rl_const (min_ok (by show 0 ≤ 8; omega) (rl_ifF (i1 a1) (rl_load rfl rfl (rl_const (rl_const (min_ok (by show 0 ≤ 8; omega) (rl_ifF (i1 a2) (rl_load rfl rfl (rl_const (rl_const (min_ok (by show 0 ≤ 8; omega) (rl_ifF (i1 a3) (rl_load rfl rfl (rl_load rfl rfl (rl_bin rfl (rl_const (rl_bin rfl (rl_const (rl_icmpT (by show some (decide (nI w0 + nI n0 - Int32.ofInt 1 ≤ Int32.ofInt 57)) = some true; rw [decide_eq_true a4]) ?_)))))))))))))))))))))⟩
  · show Rt σ 93 (jump 93 40) _ _ _ _
    rw [j93_40]
    refine rl_load rfl rfl (rl_store rfl ?_)
    exact loopX n0 w0 _ (by omega) rfl rfl rfl rfl rfl
  · show Rt σ 227 (jump 227 42) _ _ _ _
    rw [j227_42]
    refine rl_load rfl rfl (rl_store rfl ?_)
    exact loopM n0 w0 _ (by omega) rfl rfl rfl rfl rfl
end
end
