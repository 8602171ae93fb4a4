/-! ===== class and model have the same skips and lets ===== -/
theorem cpf_1 : useR2 = true → ((cp_at ffT1).1 = 4 ∧ (cp_at ffT1).2.1 = [(3, 0, 2147483648), (3, 0, 2147483649), (ffSz, 1, 2147483648)]) ∧ ((cp_at ffT1).2.2.1 = [[(600, 0, 0), (0, 2147483649, 2147483660), (0, 2147483649, 2147483660)]] ∧ ffT1 < npL) := by decide +kernel
theorem cpf_2 : useR2 = true → ((cp_at ffT2).1 = 4 ∧ (cp_at ffT2).2.1 = [(3, 0, 2147483650), (ffSl, 1, 2147483648)]) ∧ ((cp_at ffT2).2.2.1 = [[(300, 0, 0), (1, 2147483648, 2147483648)], [(200, 2147483649, 2147483708), (0, 2147483649, 2147483708)]] ∧ ffT2 < npL) := by decide +kernel
theorem cpf_3 : useR2 = true → ((cp_at ffT3).1 = 6 ∧ (cp_at ffT3).2.1 = [(5, 0, 2147483650), (ffLk, 1, 2147483648)]) ∧ ((cp_at ffT3).2.2.1 = [[(100, 2147483648, 2147483671), (0, 2147483648, 2147483671)]] ∧ ffT3 < npL) := by decide +kernel
theorem cpf_4 : useR2 = true → ((cp_at ffT4).1 = 3 ∧ (cp_at ffT4).2.1 = [(2, 0, 2147483653), (ffKf, 1, 2147483648)]) ∧ ((cp_at ffT4).2.2.1 = [[(0, 2147483652, 2147483708), (0, 2147483652, 2147483708)]] ∧ ffT4 < npL) := by decide +kernel
theorem tg_ck : (tgc (3, 0, 2147483650) = 5 ∧ tgc (5, 0, 2147483650) = 2) ∧ ((13, 3, 1, 40) ∈ lstt ∧ (((arrI ffSl 40 = true ∧ arrI ffSz 40 = true) ∧ (arrI ffLk 60 = true ∧ arrI ffKf 24 = true)) ∧ (((sgl ffSl = true ∧ sgl ffSz = true) ∧ (sgl ffLk = true ∧ sgl ffKf = true)) ∧ ((ct_at 13 2 = some (0, 2147483648, 2147483688) ∧ (cdm 3 = 0 ∧ cdm 5 = 0)) ∧ ((cdm 2 = 0 ∧ ct_at 10 9 = some (7, 13, 0)) ∧ (sgl 13 = true ∧ (cdk 13 = 12 ∧ cdm 13 = 0))))))) := by decide +kernel
section
variable {ad : AD} {h : AH} {np k n c m : Nat} {ho : Nat → Nat → Prop}
theorem row_at {l : List Int32} {q p : Nat} (hq : ad c 0 = some q) (hr : h.1 q = some (20, l.map .int)) (hp : p < l.length) : At ad h c 0 p (.int (l.getD p 0)) := by
  refine ⟨q, 20, _, hq, hr, ?_⟩
  rw [List.getElem?_map, List.getElem?_eq_getElem hp, List.getD_eq_getElem?_getD, List.getElem?_eq_getElem hp]
  rfl
theorem at_int {i p : Nat} {x y : Int32} (h1 : At ad h c i p (.int x)) (h2 : At ad h c i p (.int y)) : x = y := Value.int.inj (at_fun h1 h2)
theorem dc_1 {k : Nat} {gv : Nat → Nat} {m d : Nat × Nat × Nat} {ms ds : List (Nat × Nat × Nat)} (hD : DC true ad h k gv (m :: ms) (d :: ds)) : EnOK ad h k gv m d ∧ DC true ad h k gv ms ds := ⟨hD.1 rfl, hD.2⟩
theorem en_int {k : Nat} {gv : Nat → Nat} {m d : Nat × Nat × Nat} (h9 : Nat.ble d.1 99 = true) (hE : EnOK ad h k gv m d) : ∃ x, AtM ad h m k (.int x) ∧ (i2n x = gv (d.1 % 100) ∧ (d.2.1 ≤ i2n x ∧ i2n x ≤ d.2.2)) := by
  unfold EnOK at hE
  rw [h9, cond_true] at hE
  exact hE
theorem en_ref {k : Nat} {gv : Nat → Nat} {m d : Nat × Nat × Nat} (h9 : Nat.ble d.1 99 = false) (h2 : Nat.ble d.1 299 = true) (hE : EnOK ad h k gv m d) : ∃ j q, AtM ad h m k (.ref q) ∧ (ad (tgc m) j = some q ∧ 2147483648 + j + en_off d = gv (d.1 % 100)) := by
  unfold EnOK at hE
  rw [h9, cond_false, h2, cond_true] at hE
  obtain ⟨j, q, x1, x2, x3, -⟩ := hE
  exact ⟨j, q, x1, x2, x3⟩
theorem en_null {k : Nat} {gv : Nat → Nat} {m d : Nat × Nat × Nat} (h9 : Nat.ble d.1 99 = false) (h2 : Nat.ble d.1 299 = false) (h3 : Nat.beq d.1 300 = true) (hE : EnOK ad h k gv m d) : AtM ad h m k .null := by
  unfold EnOK at hE
  rw [h9, cond_false, h2, cond_false, h3, cond_true] at hE
  exact hE
/-- free feet of a kerb: what both sides' loops go over -/
theorem fc_form (hu : useR2 = true) (hT : TS ad h npL (fun _ _ => False) ho) (hk : ad 2 k ≠ none) {X : Int32} (hX : At ad h 13 0 2 (.int X)) (hY : At ad h 11 0 ffS (.int X)) : ∃ n sl sz lk f, FcE ad h k n sl sz lk f ∧ FfE ad h k n sl sz lk f := by
  obtain ⟨⟨c1, c1'⟩, c1'', t1'⟩ := cpf_1 hu
  obtain ⟨⟨c2, c2'⟩, c2'', t2'⟩ := cpf_2 hu
  obtain ⟨⟨c3, c3'⟩, c3'', t3'⟩ := cpf_3 hu
  obtain ⟨⟨c4, c4'⟩, c4'', t4'⟩ := cpf_4 hu
  obtain ⟨⟨g1, g2⟩, g3, ⟨⟨a1, a2⟩, a3, a4⟩, ⟨⟨s1, s2⟩, s3, s4⟩, ⟨g4, g5, g6⟩, ⟨g7, g8⟩, g9, g10, g11⟩ := tg_ck
  obtain ⟨⟨d1, d2⟩, -, ⟨⟨d3, d3'⟩, ⟨d4, d4'⟩, d5, d5'⟩, d6, d6'⟩ := md_ck
  obtain ⟨t1, t2, t3, t4, t5, t6⟩ := hT
  obtain ⟨q1, hq1⟩ := t4.2.1 _ s1
  obtain ⟨q2, hq2⟩ := t4.2.1 _ s2
  obtain ⟨q3, hq3⟩ := t4.2.1 _ s3
  obtain ⟨q4, hq4⟩ := t4.2.1 _ s4
  obtain ⟨l1, r1, r1'⟩ := row_of t1 a1 hq1 d4 (by omega)
  obtain ⟨l2, r2, r2'⟩ := row_of t1 a2 hq2 d5 (by omega)
  obtain ⟨l3, r3, r3'⟩ := row_of t1 a3 hq3 d6 (by omega)
  obtain ⟨l4, r4, r4'⟩ := row_of t1 a4 hq4 d3 (by omega)
  -- the list of skips
  obtain ⟨ql, hql⟩ := t4.2.1 _ g9
  obtain ⟨mc, ed, sz, N, u1, u2, u3⟩ := t5 13 3 1 40 g3 ql hql
  have eX : sz = X := by
    obtain ⟨q', k', vs, w1, w2, w3⟩ := hX
    rw [hql] at w1
    cases w1
    rw [u1] at w2
    cases w2
    exact Value.int.inj (Option.some.inj w3)
  have hN : N ≤ 40 := by
    obtain ⟨-, k', vs, y1, -, -, y4⟩ := t1 13 0 ql (by omega) hql
    rw [u1] at y1
    cases y1
    obtain ⟨ty, w1, w2⟩ := y4 2 _ rfl
    rw [g4] at w1
    cases w1
    rcases w2 with ⟨-, x, e, w3, w4⟩ | ⟨e, -⟩ | ⟨e, -⟩ | ⟨e, -⟩ | ⟨e, -⟩ | ⟨e, -⟩ | ⟨e, -⟩ | ⟨e, -⟩ | e
    case inl =>
      cases e
      dsimp only at w4
      omega
    all_goals cases e
  have eN : X = nI N := by rw [← eX]; exact r5nI u2 (by omega)
  have hel : ∀ s, s < N → ∃ bq us q, ed = .ref bq ∧ (h.1 bq = some (24, us) ∧ (us[s]? = some (.ref q) ∧ ad 3 s = some q)) := fun s hs => by
    rcases u3 with ⟨q5, -, -, e⟩ | ⟨bq, us, w1, w2, w3, w4, w5, w6⟩
    · omega
    · obtain ⟨u, v1, v2⟩ := w6 s hs
      rcases v2 with ⟨-, v3⟩ | ⟨e, -⟩
      · rcases v3 with ⟨e, -⟩ | ⟨-, q, v4, rfl⟩
        · omega
        · rw [Nat.add_sub_cancel_left] at v4
          exact ⟨bq, us, q, w2, w3, v1, v4⟩
      · cases e
  have fld : ∀ (c i p : Nat), c < 1000 → cdm c = 0 → p < (cd c).2.2.length → ad c i ≠ none → ∃ V, At ad h c i p V := fun c i p hc hm hp hn => by
    cases e : ad c i
    · exact absurd e hn
    · rename_i q
      obtain ⟨-, k', vs, y1, -, y3, -⟩ := t1 c i q hc e
      have := y3.1 hm
      exact ⟨_, q, k', vs, e, y1, List.getElem?_eq_getElem (by omega)⟩
  have none' : ∀ {c i q : Nat}, ad c i = some q → ad c i ≠ none := fun e e2 => by rw [e] at e2; cases e2
  have mp0 : ∀ (c p k : Nat), mplace (c, 0, 2147483648 + p) k = (c, k, p) := fun c p k => by
    show (c, k, 2147483648 + p - 2147483648) = _
    rw [Nat.add_sub_cancel_left]
  have mp1 : ∀ (c k : Nat), mplace (c, 1, 2147483648) k = (c, 0, k) := fun c k => by
    show (c, 2147483648 - 2147483648, k) = _
    rw [Nat.sub_self]
  have lens : 3 ≤ (cd 3).2.2.length ∧ (3 ≤ (cd 5).2.2.length ∧ 6 ≤ (cd 2).2.2.length) := by decide +kernel
  -- a let's kerb
  have hlet : ∀ j, ad 5 j ≠ none → ∃ q kk, At ad h 5 j 2 (.ref q) ∧ (ad 2 kk = some q ∧ (At ad h ffLk 0 j (.int (nI kk)) ∧ kk < 1048576)) := fun j hj => by
    obtain ⟨V, hV⟩ := fld 5 j 2 (by omega) g6 (by omega) hj
    have hC := t6 ffT3 j t3' (fun e => e)
    unfold CpAt at hC
    rw [c3, c3', c3''] at hC
    obtain ⟨d, gv, e1, e2⟩ := (hC ⟨(5, 0, 2147483650), V, List.mem_cons_self, by unfold AtM; rw [show mplace (5, 0, 2147483650) j = (5, j, 2) from mp0 5 2 j]; exact hV⟩).1 (Or.inr hj)
    have e1 := List.mem_singleton.mp e1
    subst e1
    obtain ⟨E1, e2⟩ := dc_1 e2
    obtain ⟨E2, -⟩ := dc_1 e2
    obtain ⟨kk, q, x1, x2, x3⟩ := en_ref rfl rfl E1
    have x3 : 2147483648 + kk + 0 = gv 0 := x3
    obtain ⟨x, y1, y2, -⟩ := en_int rfl E2
    rw [g2] at x2
    unfold AtM at x1 y1
    rw [show mplace (5, 0, 2147483650) j = (5, j, 2) from mp0 5 2 j] at x1
    rw [mp1] at y1
    have hkk := (t1 2 kk q (by omega) x2).1
    have y2 : i2n x = gv 0 := y2
    rw [r5nI (x := x) (j := kk) (by omega) (by omega)] at y1
    exact ⟨q, kk, x1, x2, y1, hkk⟩
  -- a skip
  have hskip : ∀ s, ad 3 s ≠ none → ∃ x y, At ad h 3 s 1 (.int x) ∧ (At ad h ffSz 0 s (.int x) ∧ (At ad h ffSl 0 s (.int y) ∧ ((y = nI 0 ∧ At ad h 3 s 2 .null) ∨ ∃ j q, y = nI (j + 1) ∧ (j < 1048576 ∧ (At ad h 3 s 2 (.ref q) ∧ ad 5 j = some q))))) := fun s hs => by
    obtain ⟨V, hV⟩ := fld 3 s 1 (by omega) g5 (by omega) hs
    have hC := t6 ffT1 s t1' (fun e => e)
    unfold CpAt at hC
    rw [c1, c1', c1''] at hC
    obtain ⟨d, gv, e1, e2⟩ := (hC ⟨(3, 0, 2147483649), V, List.mem_cons_of_mem _ List.mem_cons_self, by unfold AtM; rw [show mplace (3, 0, 2147483649) s = (3, s, 1) from mp0 3 1 s]; exact hV⟩).1 (Or.inr hs)
    have e1 := List.mem_singleton.mp e1
    subst e1
    obtain ⟨-, e2⟩ := dc_1 e2
    obtain ⟨E1, e2⟩ := dc_1 e2
    obtain ⟨E2, -⟩ := dc_1 e2
    obtain ⟨x, x1, x2, -⟩ := en_int rfl E1
    obtain ⟨x', x1', x2', -⟩ := en_int rfl E2
    have exx : x' = x := i2n_inj (x2'.trans x2.symm)
    subst exx
    unfold AtM at x1 x1'
    rw [show mplace (3, 0, 2147483649) s = (3, s, 1) from mp0 3 1 s] at x1
    rw [mp1] at x1'
    have hC := t6 ffT2 s t2' (fun e => e)
    unfold CpAt at hC
    rw [c2, c2', c2''] at hC
    obtain ⟨V2, hV2⟩ := fld 3 s 2 (by omega) g5 (by omega) hs
    obtain ⟨d, gv, e1, e2⟩ := (hC ⟨(3, 0, 2147483650), V2, List.mem_cons_self, by unfold AtM; rw [show mplace (3, 0, 2147483650) s = (3, s, 2) from mp0 3 2 s]; exact hV2⟩).1 (Or.inr hs)
    rcases List.mem_cons.mp e1 with rfl | e1
    · obtain ⟨E1, e2⟩ := dc_1 e2
      obtain ⟨E2, -⟩ := dc_1 e2
      replace E1 := en_null rfl rfl rfl E1
      obtain ⟨y, y1, y2, y3, y4⟩ := en_int rfl E2
      unfold AtM at E1 y1
      rw [show mplace (3, 0, 2147483650) s = (3, s, 2) from mp0 3 2 s] at E1
      rw [mp1] at y1
      dsimp only at y3 y4
      exact ⟨_, y, x1, x1', y1, Or.inl ⟨r5nI (by omega) (by omega), E1⟩⟩
    · have e1 := List.mem_singleton.mp e1
      subst e1
      obtain ⟨E1, e2⟩ := dc_1 e2
      obtain ⟨E2, -⟩ := dc_1 e2
      obtain ⟨j, q, z1, z2, z3⟩ := en_ref rfl rfl E1
      have z3 : 2147483648 + j + 1 = gv 0 := z3
      obtain ⟨y, y1, y2, -⟩ := en_int rfl E2
      rw [g1] at z2
      unfold AtM at z1 y1
      rw [show mplace (3, 0, 2147483650) s = (3, s, 2) from mp0 3 2 s] at z1
      rw [mp1] at y1
      have hj := (t1 5 j q (by omega) z2).1
      have y2 : i2n y = gv 0 := y2
      exact ⟨_, y, x1, x1', y1, Or.inr ⟨j, q, r5nI (by omega) (by omega), hj, z1, z2⟩⟩
  -- the kerb's feet
  obtain ⟨f, hf1, hf2⟩ : ∃ f, At ad h 2 k 5 (.int f) ∧ At ad h ffKf 0 k (.int f) := by
    obtain ⟨V, hV⟩ := fld 2 k 5 (by omega) g7 (by omega) hk
    have hC := t6 ffT4 k t4' (fun e => e)
    unfold CpAt at hC
    rw [c4, c4', c4''] at hC
    obtain ⟨d, gv, e1, e2⟩ := (hC ⟨(2, 0, 2147483653), V, List.mem_cons_self, by unfold AtM; rw [show mplace (2, 0, 2147483653) k = (2, k, 5) from mp0 2 5 k]; exact hV⟩).1 (Or.inr hk)
    have e1 := List.mem_singleton.mp e1
    subst e1
    obtain ⟨E1, e2⟩ := dc_1 e2
    obtain ⟨E2, -⟩ := dc_1 e2
    obtain ⟨x, x1, x2, -⟩ := en_int rfl E1
    obtain ⟨x', x1', x2', -⟩ := en_int rfl E2
    have exx : x' = x := i2n_inj (x2'.trans x2.symm)
    subst exx
    unfold AtM at x1 x1'
    rw [show mplace (2, 0, 2147483653) k = (2, k, 5) from mp0 2 5 k] at x1
    rw [mp1] at x1'
    exact ⟨_, x1, x1'⟩
  have hskipE : ∀ s, s < N → ad 3 s ≠ none := fun s hs => by
    obtain ⟨bq, us, q, -, -, -, e⟩ := hel s hs
    exact none' e
  have ls : ∀ s y, At ad h ffSl 0 s (.int y) → l1.getD s 0 = y := fun s y hy => by
    rw [List.getD_eq_getElem?_getD, at_row hy hq1 r1]; rfl
  have lz : ∀ s y, At ad h ffSz 0 s (.int y) → l2.getD s 0 = y := fun s y hy => by
    rw [List.getD_eq_getElem?_getD, at_row hy hq2 r2]; rfl
  have ll : ∀ s y, At ad h ffLk 0 s (.int y) → l3.getD s 0 = y := fun s y hy => by
    rw [List.getD_eq_getElem?_getD, at_row hy hq3 r3]; rfl
  have lt0 : ∀ j, j < 1048576 → 0 < nI (j + 1) := fun j hj => (tx_lt (a := 0) (by omega) (by omega)).mpr (by omega)
  refine ⟨N, fun s => l1.getD s 0, fun s => l2.getD s 0, fun s => l3.getD s 0, f, ⟨⟨hN, hf1⟩, ⟨ql, mc, ed, ?_, by rw [u1, eX, eN], ?_⟩, fun s hs => ?_⟩, ⟨⟨hN, by rw [← eN]; exact hY, hf2⟩, fun s hs => ?_, fun l hl => row_at hq3 r3 (by omega)⟩⟩
  · obtain ⟨ox, hox⟩ := t4.2.1 10 (by decide +kernel)
    obtain ⟨V, hV⟩ := fld 10 0 9 (by omega) (by decide +kernel) (by decide +kernel) (none' hox)
    obtain ⟨q', k', vs, w1, w2, w3⟩ := hV
    obtain ⟨-, k2, vs2, y1, -, -, y4⟩ := t1 10 0 q' (by omega) w1
    rw [w2] at y1
    cases y1
    obtain ⟨ty, z1, z2⟩ := y4 9 V w3
    rw [g8] at z1
    cases z1
    obtain ⟨q9, e1, e2⟩ := tv_sgl z2 rfl
    have e2 : ad 13 0 = some q9 := e2
    rw [hql] at e2
    cases e2
    exact ⟨q', _, vs, w1, w2, by rw [w3, e1]⟩
  · by_cases e0 : N = 0
    · exact Or.inl e0
    · rcases u3 with ⟨q5, -, -, e⟩ | ⟨bq, us, w1, w2, w3, -⟩
      · exact absurd e e0
      · refine Or.inr ⟨bq, us, w2, w3, fun s hs => ?_⟩
        obtain ⟨bq', us', q, e1, e2, e3, e4⟩ := hel s hs
        rw [w2] at e1
        cases e1
        rw [w3] at e2
        cases e2
        exact ⟨q, e3, e4⟩
  · obtain ⟨x, y, x1, x2, x3, x4⟩ := hskip s (hskipE s hs)
    dsimp only
    refine ⟨by rw [lz s x x2]; exact x1, ?_⟩
    rw [ls s y x3]
    rcases x4 with ⟨rfl, x5⟩ | ⟨j, q, rfl, x5, x6, x7⟩
    · refine Or.inl ⟨fun e => ?_, x5⟩
      have := (tx_lt (a := 0) (b := 0) (by omega) (by omega)).mp e
      omega
    · obtain ⟨q2, kk, z1, z2, z3, z4⟩ := hlet j (none' x7)
      refine Or.inr ⟨lt0 j x5, q, j, x6, x7, nI_tN (by omega), q2, kk, z1, z2, ll j _ z3, by omega⟩
  · obtain ⟨x, y, x1, x2, x3, x4⟩ := hskip s (hskipE s hs)
    dsimp only
    rw [ls s y x3, lz s x x2]
    refine ⟨x3, x2, ?_⟩
    obtain ⟨q', k', vs, w1, w2, w3⟩ := x3
    obtain ⟨-, k2, vs2, y1, -, -, y4⟩ := t1 ffSl 0 q' d4' w1
    rw [w2] at y1
    cases y1
    obtain ⟨ty, z1, z2⟩ := y4 s _ w3
    have hct : ct_at ffSl s = some (0, 2147483648, 2147483708) := by
      have : (cd ffSl).2.2.head? = some (0, 2147483648, 2147483708) ∧ Nat.beq (cdm ffSl) 0 = false := by decide +kernel
      unfold ct_at
      rw [this.2, cond_false]
      exact this.1
    rw [hct] at z1
    cases z1
    rcases z2 with ⟨-, x', e, w3', w4'⟩ | ⟨e, -⟩ | ⟨e, -⟩ | ⟨e, -⟩ | ⟨e, -⟩ | ⟨e, -⟩ | ⟨e, -⟩ | ⟨e, -⟩ | e
    case inl =>
      cases e
      dsimp only at w3' w4'
      exact ⟨i2n y - 2147483648, by omega, r5nI (by omega) (by omega)⟩
    all_goals cases e
end
