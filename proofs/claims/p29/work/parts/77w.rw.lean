section
/-! ===== weighings: the relation of class and model, and calls answered by it ===== -/
noncomputable def WRw (ad : AD) (h : AH) (c1 c2 e n lo hi : Nat) (x : Nat → Int32) : Prop := ∀ j, j < n → (At ad h c1 e j (.int (x j)) ∧ At ad h c2 0 (4 * e + j) (.int (x j))) ∧ (lo ≤ i2n (x j) ∧ i2n (x j) ≤ hi)
noncomputable def RWn (ad : AD) (h : AH) (e n : Nat) (ws ts ds : Nat → Int32) : Prop := (e < 60 ∧ n ≤ 4) ∧ (At ad h 6 e 3 (.int (nI n)) ∧ (WRw ad h 25 79 e n 2147483649 2147486698 ws ∧ (WRw ad h 26 78 e n 2147483648 2147483653 ts ∧ WRw ad h 27 80 e n 2147483648 2147484047 ds)))
noncomputable def RWe (ad : AD) (h : AH) (e : Nat) : Prop := ∃ n ws ts ds, RWn ad h e n ws ts ds
noncomputable def RLw (ad : AD) (h : AH) : Prop := ∀ e, ad 6 e ≠ none → RWe ad h e
/-- the lets of both sides -/
noncomputable def KLm (ad : AD) (h : AH) : Prop := ∃ N, N ≤ 60 ∧ (At ad h 11 0 33 (.int (nI N)) ∧ ∀ k, ad 5 k ≠ none ↔ k < N)
theorem w_codes : (wnK = [6 * 128 + 3, 25 * 128, 26 * 128, 27 * 128, 78 * 128, 79 * 128, 80 * 128] ∧ wlK = [5 * 128 + 7, 11 * 128 + 33]) ∧ (((cdm 6 = 0 ∧ cdm 5 = 0) ∧ cdm 11 = 0) ∧ (((1 ≤ cdm 25 ∧ 1 ≤ cdm 26) ∧ 1 ≤ cdm 27) ∧ ((1 ≤ cdm 78 ∧ 1 ≤ cdm 79) ∧ 1 ≤ cdm 80))) := by decide +kernel
theorem cw_m1 : i2n (Int32.ofInt (-1)) = 2147483647 := by decide +kernel
theorem cw_m3 : i2n (Int32.ofInt (-3)) = 2147483645 := by decide +kernel
theorem kw_congr {ds ds' : Nat → Int32} {kn : Int32} {e : Nat} : ∀ {n : Nat}, (∀ j, j < n → ds' j = ds j) → kwF ds' kn e n = kwF ds kn e n := by
  intro n
  induction n with
  | zero => intro _; rfl
  | succ n ih =>
    intro h
    rw [kwF, kwF, ih (fun j hj => h j (by omega)), h n (by omega)]
theorem tv_own5 {ad : AD} {ty : TY} {i p : Nat} {v : Value} (h1 : TV ad ty i p v) (h0 : ty.1 = 5) : v = .null ∨ ∃ q, v = .ref q ∧ ad ty.2.1 i = some q := by
  rcases h1 with ⟨e, -⟩ | ⟨e, -⟩ | ⟨e, -⟩ | ⟨e, -⟩ | ⟨e, -⟩ | ⟨-, e⟩ | ⟨e, -⟩ | ⟨e, -⟩ | e
  · rw [h0] at e; cases e
  · rw [h0] at e; cases e
  · rw [h0] at e; cases e
  · rw [h0] at e; cases e
  · rw [h0] at e; cases e
  · rcases e with e | ⟨e, -⟩ | ⟨-, q, e, rfl⟩
    · exact Or.inl e
    · omega
    · rw [Nat.add_sub_cancel_left] at e
      exact Or.inr ⟨q, rfl, e⟩
  all_goals (rw [h0] at e; cases e)
section
variable {B : BS} {I I' : IN} {n m e : Nat} {G G' : SG} {h h' : AH} {σ : Nat → Nat} {Q : Option Value → AH → Prop} {as : List SV} {As : List Value} {es : List (Option SV × SG)} {K : List Nat} {u q : Nat} {ws ts ds : Nat → Int32} {kn wh : Int32}
theorem rwn_sc (hw : RWn B.1.1 B.1.2 e n ws ts ds) (hk : k_dis wnK K = true) (hS : Sc B.1 I K u q h) : RWn I.2.2 h e n ws ts ds := by
  obtain ⟨⟨c0, -⟩, ⟨⟨c6, -⟩, -⟩, ⟨⟨c25, c26⟩, c27⟩, ⟨c78, c79⟩, c80⟩ := w_codes
  obtain ⟨h0, h2, h3, h4, h5⟩ := hw
  have hd := kdis_ok hk
  rw [c0] at hd
  refine ⟨h0, at_sc h2 (by omega) (by rw [kcode_o c6]; exact hd _ (by simp)) hS, fun j hj => ⟨⟨?_, ?_⟩, (h3 j hj).2⟩, fun j hj => ⟨⟨?_, ?_⟩, (h4 j hj).2⟩, fun j hj => ⟨⟨?_, ?_⟩, (h5 j hj).2⟩⟩
  · exact at_sc (h3 j hj).1.1 (by omega) (by rw [kcode_r c25]; exact hd _ (by simp)) hS
  · exact at_sc (h3 j hj).1.2 (by omega) (by rw [kcode_r c79]; exact hd _ (by simp)) hS
  · exact at_sc (h4 j hj).1.1 (by omega) (by rw [kcode_r c26]; exact hd _ (by simp)) hS
  · exact at_sc (h4 j hj).1.2 (by omega) (by rw [kcode_r c78]; exact hd _ (by simp)) hS
  · exact at_sc (h5 j hj).1.1 (by omega) (by rw [kcode_r c27]; exact hd _ (by simp)) hS
  · exact at_sc (h5 j hj).1.2 (by omega) (by rw [kcode_r c80]; exact hd _ (by simp)) hS
/-- a LOAD that is there was there -/
theorem load_old (hTB : T1 B.1.1 B.1.2) (hB : ∀ a i, ¬ B.2 a i) (hR : RM B I G h) (hk : k_dis wlK (g_k G) = true) (h5 : B.1.1 5 e ≠ none) (h6 : I.2.2 6 e ≠ none) : B.1.1 6 e ≠ none := by
  obtain ⟨⟨-, c0⟩, ⟨⟨-, c5⟩, -⟩, -⟩ := w_codes
  obtain ⟨⟨-, -, t57⟩, -⟩ := wt_t
  have hd := kdis_ok hk
  rw [c0] at hd
  obtain ⟨q5, e5⟩ : ∃ q, B.1.1 5 e = some q := by
    cases e : B.1.1 5 e
    · exact absurd e h5
    · exact ⟨_, rfl⟩
  have hSc := hR.2.2.2.2.2.2
  have hI5 : I.2.2 5 e = some q5 := hSc.2.2.1 5 e q5 (by omega) e5
  obtain ⟨V, hV, -⟩ := fld hR.2.2.2.1 (by omega) c5 t57 hI5
  have hsl := hSc.2.1 5 e q5 7 (by omega) e5 (by rw [kcode_o c5]; exact hd _ (by simp))
  obtain ⟨-, k, vs, y1, -, -, y4⟩ := hTB 5 e q5 (by omega) e5
  obtain ⟨a, k', vs', a1, a2, a3⟩ := hV
  have hV : At I.2.2 h 5 e 7 V := ⟨a, k', vs', a1, a2, a3⟩
  rw [hI5] at a1
  cases a1
  unfold sl at hsl
  rw [a2, y1] at hsl
  dsimp only at hsl
  rw [a3] at hsl
  obtain ⟨ty, z1, z2⟩ := y4 7 V hsl.symm
  rw [t57] at z1
  cases z1
  rcases tv_own5 z2 rfl with rfl | ⟨q6, rfl, z3⟩
  · rcases hR.2.2.2.1.2.2.2.1.2.2 5 7 _ (by omega) t57 rfl e hV with z | z
    · exact absurd z h6
    · exact absurd z (hB _ _)
  · intro z
    rw [z] at z3
    cases z3
theorem ne_some {c : Nat} {ad : AD} (hn : ad c e ≠ none) : ∃ q, ad c e = some q := by
  cases h : ad c e
  · exact absurd h hn
  · exact ⟨_, rfl⟩
theorem w_old_ok {x : SV} (hTB : T1 B.1.1 B.1.2) (hKL : KLm B.1.1 B.1.2) (hRW : RLw B.1.1 B.1.2) (hB : ∀ a i, ¬ B.2 a i) (hR : RM B I G h) (hw : w_old x G = true) (ix : isI x = true) (ox : okn (g_n G) x) (hx : sval I.1 x = 2147483648 + e) (h6 : I.2.2 6 e ≠ none) : ∃ n ws ts ds, RWn I.2.2 h e n ws ts ds ∧ At I.2.2 h 77 0 e (.int (nI n)) := by
  obtain ⟨⟨-, c0⟩, ⟨-, c11⟩, -⟩ := w_codes
  obtain ⟨-, ⟨⟨a77, k77⟩, -⟩, -⟩ := wt_c
  obtain ⟨-, -, ⟨s77, -⟩, -⟩ := wt_t
  unfold w_old at hw
  obtain ⟨k, hw⟩ := and2 hw
  split at hw
  case h_2 => cases hw
  rename_i N n n2 hN hn hn2
  obtain ⟨iN, hw⟩ := and2 hw
  obtain ⟨leN, hw⟩ := and2 hw
  obtain ⟨i_n, vn⟩ := and2 hw
  have vn := veq_ok vn
  subst vn
  obtain ⟨kw, kl⟩ := k_dis_app k
  obtain ⟨N0, N1, N2, N3⟩ := hKL
  have hSc := hR.2.2.2.2.2.2
  have hd := kdis_ok kl
  rw [c0] at hd
  have N2' := at_sc N2 (by omega) (by rw [kcode_o c11]; exact hd _ (by simp)) hSc
  have hN' := sv_int' (find_ok (i := sk 2147483648) (j := sk 2147483681) (a := 0) (b := 33) hR rfl sk_val sk_val N2' hN)
  have le := y_le_ok hR.1 ox hN'.2.1 leN
  have eN := hN'.2.2
  rw [nI_ok (by omega)] at eN
  obtain ⟨n0, ws, ts, ds, hw⟩ := hRW e (load_old hTB hB hR kl ((N3 e).mpr (by omega)) h6)
  have hw' := rwn_sc hw kw hSc
  refine ⟨n0, ws, ts, ds, hw', ?_⟩
  obtain ⟨q77, hq77⟩ := hR.2.2.2.1.2.2.2.1.2.1 77 s77
  obtain ⟨x77, h77⟩ := rowI_at (p := e) hR.2.2.2.1.1 a77 hq77 k77 (by omega) hw.1.1
  have e1 := sv_int' (find_ok (i := sk 2147483648) (j := x) (a := 0) (b := e) hR ix sk_val hx h77 hn)
  have e2 := sv_int' (find_ok (i := x) (j := sk 2147483651) (a := e) (b := 3) hR rfl hx sk_val hw'.2.1 hn2)
  have e3 : x77 = nI n0 := i2n_inj (e1.2.2.trans e2.2.2.symm)
  rw [← e3]
  exact h77
/-- what a cell with tag 12 says -/
theorem px12 {i v : Nat} {ad : AD} : PX 12 ad h 6 i v ↔ PXK ad h i v := by
  unfold PX
  rw [show Nat.beq 12 10 = false from rfl, cond_false, show Nat.beq 12 15 = false from rfl, cond_false, show Nat.beq 12 12 = true from rfl, cond_true]
/-- the model's side of a LET's weighings -/
noncomputable def WM (ad : AD) (h : AH) (e n : Nat) (kn : Int32) (ds : Nat → Int32) : Prop := (e < 60 ∧ n ≤ 4) ∧ ((At ad h 77 0 e (.int (nI n)) ∧ At ad h 11 0 47 (.int kn)) ∧ ∀ j, j < n → At ad h 80 0 (4 * e + j) (.int (ds j)))
theorem cell12 {x k : SV} (hw : WM I.2.2 h e n kn ds) (ox : okn (g_n G) x) (hx : sval I.1 x = 2147483648 + e) (hk : IV I.1 (g_n G) k (kwF ds kn e n)) : CellOK2 I (g_h G).length (g_n G) h (6, x, (12, 0, 0), k) := by
  obtain ⟨⟨w1, w2⟩, ⟨w3, w4⟩, w5⟩ := hw
  refine ⟨ox, fun h => Bool.noConfusion h, by show 6 < 1000; omega, Or.inr (Or.inr (Or.inr ⟨by show 10 ≤ 12; omega, hk.1, hk.2.1, ?_⟩))⟩
  show PX 12 I.2.2 h 6 (sval I.1 x) (sval I.1 k)
  rw [px12, hx]
  refine ⟨n, kn, ds, ⟨by omega, by omega, w2⟩, ⟨by rw [Nat.add_sub_cancel_left]; exact w3, w4⟩, fun j hj => ?_, ?_⟩
  · rw [Nat.add_sub_cancel_left]
    exact w5 j hj
  · rw [Nat.add_sub_cancel_left]
    exact hk.2.2
theorem w_put_ok {k : SV} {a : Nat} (ik : isI k = true) : ∀ {l : List (Nat × Nat × Nat)} {I : IN} {G : SG}, RM B I G h → okn (g_n G) k → sval I.1 k = 2147483648 + a → (∀ q, q ∈ l → q.1 < 1000 ∧ ∃ X, At I.2.2 h q.1 0 a (.int X) ∧ (q.2.1 ≤ i2n X ∧ i2n X ≤ q.2.2)) → ∃ nu', RM B (nu', I.2) (w_put k l G) h ∧ Gr I G (nu', I.2) (w_put k l G) := by
  intro l
  induction l with
  | nil => intro I G hR _ _ _; exact ⟨I.1, hR, gr_refl _ _⟩
  | cons q r ih =>
    intro I G hR ok hk hl
    obtain ⟨q1, X, q2, q3, q4⟩ := hl q List.mem_cons_self
    have kf := nk_fresh (G := G) (lo := q.2.1) (hi := q.2.2) (w := i2n X) hR.1 q3 q4
    have rF := rm_nk hR kf
    have ok' := okn_nk ok kf
    have hk' : sval (nset I.1 (g_n G) (i2n X)) k = 2147483648 + a := (sval_ag ok kf.2.1).trans hk
    have rC : RM B (nset I.1 (g_n G) (i2n X), I.2) (y_put (y_fresh G q.2.1 q.2.2) q.1 (sk 2147483648) k (1, g_n G, 0)) h := rm_cell rF (cell_mk (I := (nset I.1 (g_n G) (i2n X), I.2)) q1 sk_okn ok' ik sk_val hk' q2 (sv_of_int ⟨rfl, fun _ => Nat.lt_succ_self _, (nset_at _ _ _).symm⟩))
    obtain ⟨nu', s1, s2⟩ := ih (I := (nset I.1 (g_n G) (i2n X), I.2)) rC ok' hk' (fun q hq => hl q (List.mem_cons_of_mem _ hq))
    exact ⟨nu', s1, gr_trans (gr_nh (nh_put (nh_nk kf))) s2⟩
/-- the known weighing's place, once it is split -/
theorem w_split_ok {x : SV} (hR : RM B I G h) (ox : okn (g_n G) x) (hx : sval I.1 x = 2147483648 + e) (hw : RWn I.2.2 h e n ws ts ds) (h77 : At I.2.2 h 77 0 e (.int (nI n))) (h47 : At I.2.2 h 11 0 47 (.int kn)) : ∃ p, p ∈ w_split x G ∧ ∃ nu', RM B (nu', I.2) p.2 h ∧ (Gr I G (nu', I.2) p.2 ∧ IV nu' (g_n p.2) p.1 (kwF ds kn e n)) := by
  have hM : WM I.2.2 h e n kn ds := ⟨hw.1, ⟨h77, h47⟩, fun j hj => (hw.2.2.2.2 j hj).1.2⟩
  rcases kw_td (ws := ws) (ts := ts) (ds := ds) (kn := kn) (wh := 0) (e := e) n with ⟨k1, -⟩ | ⟨j, j1, k1, -⟩
  · have hI : IV I.1 (g_n G) (sk 2147483647) (kwF ds kn e n) := sk_IV (by rw [k1]; exact cw_m1)
    exact ⟨_, List.mem_cons_self, I.1, rm_cell hR (cell12 hM ox hx hI), gr_refl _ _, hI⟩
  · have he := hw.1
    have e0 : i2n (nI (4 * e + j)) = 2147483648 + (4 * e + j) := by rw [nI_ok (by omega)]; omega
    have kf := nk_fresh (G := G) (lo := 2147483648) (hi := 2147483887) (w := i2n (nI (4 * e + j))) hR.1 (by omega) (by omega)
    have rF := rm_nk hR kf
    have hn : IV (nset I.1 (g_n G) (i2n (nI (4 * e + j)))) (g_n (y_fresh G 2147483648 2147483887)) (1, g_n G, 0) (nI (4 * e + j)) := ⟨rfl, fun _ => Nat.lt_succ_self _, (nset_at _ _ _).symm⟩
    obtain ⟨nu', s1, s2⟩ := w_put_ok (k := (1, g_n G, 0)) (a := 4 * e + j) rfl (l := w3L) rF hn.2.1 (hn.2.2.symm.trans e0) (fun q hq => by
      unfold w3L at hq
      rcases List.mem_cons.mp hq with rfl | hq
      · exact ⟨by show 79 < 1000; omega, _, (hw.2.2.1 j j1).1.2, (hw.2.2.1 j j1).2⟩
      · rcases List.mem_cons.mp hq with rfl | hq
        · exact ⟨by show 78 < 1000; omega, _, (hw.2.2.2.1 j j1).1.2, (hw.2.2.2.1 j j1).2⟩
        · rw [List.mem_singleton.mp hq]
          exact ⟨by show 80 < 1000; omega, _, (hw.2.2.2.2 j j1).1.2, (hw.2.2.2.2 j j1).2⟩)
    have g2 := gr_trans (gr_nk kf) s2
    have hn' : IV nu' (g_n (w_put (1, g_n G, 0) w3L (y_fresh G 2147483648 2147483887))) (1, g_n G, 0) (nI (4 * e + j)) := iv_gr (I := (nset I.1 (g_n G) (i2n (nI (4 * e + j))), I.2)) (I' := (nu', I.2)) hn s2
    rw [← k1] at hn'
    exact ⟨_, List.mem_cons_of_mem _ List.mem_cons_self, nu', rm_cell s1 (cell12 (I := (nu', I.2)) hM (okn_up ox g2.2.1) (by rw [sval_ag ox g2.1]; exact hx) hn'), g2, hn'⟩
theorem what_ok {what : SV} (hR : RM B I G h) (hw : IV I.1 (g_n G) what wh) : ∃ p, p ∈ hp_what what G ∧ (p.1 = (if wh = 0 then 79 else if wh = Int32.ofInt 1 then 78 else 80) ∧ NK I.1 G I.1 p.2) := by
  have c1 : i2n (Int32.ofInt 1) = 2147483649 := by decide +kernel
  obtain ⟨p, p1, p2, p3⟩ := y_eq_ok (x := what) (y := sk 2147483648) true false hR.1 hw.2.1 sk_okn
  rw [sk_val, ← hw.2.2] at p2
  unfold hp_what
  by_cases e0 : wh = 0
  · rw [if_pos (by rw [e0]; exact c_0)] at p2
    refine ⟨(79, p.2), List.mem_flatMap.mpr ⟨p, p1, by rw [p2, cond_true]; exact List.mem_cons_self⟩, by rw [if_pos e0], p3⟩
  · rw [if_neg (fun e => e0 (i2n_inj (e.trans c_0.symm)))] at p2
    have r2 := rm_nk' hR p3
    have hw2 := iv_nk hw p3
    obtain ⟨s, s1, s2, s3⟩ := y_eq_ok (x := what) (y := sk 2147483649) true false r2.1 hw2.2.1 sk_okn
    rw [sk_val, ← hw2.2.2] at s2
    refine ⟨(bif s.1 then 78 else 80, s.2), List.mem_flatMap.mpr ⟨p, p1, by rw [p2, cond_false]; exact List.mem_map.mpr ⟨s, s1, rfl⟩⟩, ?_, nk_trans p3 s3⟩
    rw [if_neg e0]
    show (bif s.1 then 78 else 80) = _
    by_cases e1 : wh = Int32.ofInt 1
    · rw [if_pos (by rw [e1]; exact c1)] at s2
      rw [s2, if_pos e1]
      rfl
    · rw [if_neg (fun e => e1 (i2n_inj (e.trans c1.symm)))] at s2
      rw [s2, if_neg e1]
      rfl
theorem toldL_mem {k : SV} : ∀ {l : List (Nat × SG)} {o : List (Option SV × SG)}, hp_toldL as k l = some o → ∀ p, p ∈ l → ∃ x es, y_find p.2 p.1 (sk 2147483648) k = some x ∧ (hp_use 84 as p.2 = some es ∧ ∀ q, q ∈ es → (some x, q.2) ∈ o) := by
  intro l
  induction l with
  | nil => intro o _ p hp; cases hp
  | cons y r ih =>
    intro o ho p hp
    rw [hp_toldL] at ho
    split at ho
    · cases ho
    · rename_i x hx
      split at ho
      · cases ho
      · rename_i es hes
        split at ho
        · cases ho
        · rename_i o' ho'
          cases ho
          rcases List.mem_cons.mp hp with rfl | hp
          · exact ⟨x, es, hx, hes, fun q hq => List.mem_append_left _ (List.mem_map.mpr ⟨q, hq, rfl⟩)⟩
          · obtain ⟨x', es', h1, h2, h3⟩ := ih ho' p hp
            exact ⟨x', es', h1, h2, fun q hq => List.mem_append_right _ (h3 q hq)⟩
theorem toldS_mem {what : SV} : ∀ {l : List (SV × SG)} {o : List (Option SV × SG)}, hp_toldS as what l = some o → ∀ p, p ∈ l → ∃ o1, hp_told1 as what p = some o1 ∧ ∀ q, q ∈ o1 → q ∈ o := by
  intro l
  induction l with
  | nil => intro o _ p hp; cases hp
  | cons y r ih =>
    intro o ho p hp
    rw [hp_toldS] at ho
    split at ho
    · cases ho
    · rename_i o1 h1
      split at ho
      · cases ho
      · rename_i o' ho'
        cases ho
        rcases List.mem_cons.mp hp with rfl | hp
        · exact ⟨o1, h1, fun q hq => List.mem_append_left _ hq⟩
        · obtain ⟨o2, h2, h3⟩ := ih ho' p hp
          exact ⟨o2, h2, fun q hq => List.mem_append_right _ (h3 q hq)⟩
/-- the class's answer, by the known weighing's place -/
theorem told1_ok {l what kb k : SV} {q : Nat} (hcn : ∀ M C, C ∈ cns M → C.1 < nC → CnOK σ C) (hB : ∀ a i, ¬ B.2 a i) (hσ : ∀ i, i < 6 → B.1.1 (stc i) 0 = some (σ i)) (hR : RM B I G h) (hAs : LM I (g_h G).length (g_n G) [l, what, kb] [.ref q, .int wh, .int kn]) (hwh : IV I.1 (g_n G) what wh) (hq : I.2.2 6 e = some q) (hw : RWn I.2.2 h e n ws ts ds) (hk : IV I.1 (g_n G) k (kwF ds kn e n)) (hs : hp_told1 [l, what, kb] what (k, G) = some es) (hE : Ends B I G es Q) : Rt σ 84 (codeOf 84) (am_args 0 [.ref q, .int wh, .int kn]) [] h Q := by
  have run := X_told (σ := σ) (wh := wh) (kn := kn) (Q := fun v h' => v = some (.int (tdF ws ts ds kn wh n)) ∧ h' = h) hR.2.2.2.1 hq hw.1.2 hw.2.1 (fun j hj => (hw.2.2.1 j hj).1.1) (fun j hj => (hw.2.2.2.1 j hj).1.1) (fun j hj => (hw.2.2.2.2 j hj).1.1) ⟨rfl, rfl⟩
  have kt := kw_td (ws := ws) (ts := ts) (ds := ds) (kn := kn) (wh := wh) (e := e) n
  have he := hw.1
  unfold hp_told1 at hs
  cases hv : veq k (sk 2147483647)
  · rw [hv, cond_false] at hs
    replace hs := bif_some hs
    obtain ⟨b1, hs⟩ := hs
    obtain ⟨-, b2⟩ := and2 b1
    have b2 := blet b2
    have b3 := (itv_ok hR.1.1 k).1
    dsimp only at b2
    rw [← hk.2.2] at b3
    rcases kt with ⟨k1, -⟩ | ⟨j, j1, k1, k2⟩
    · rw [k1, cw_m1] at b3
      omega
    · obtain ⟨p, p1, p2, p3⟩ := what_ok hR hwh
      obtain ⟨x, es', x1, x2, x3⟩ := toldL_mem hs p p1
      have r2 := rm_nk' hR p3
      have gg := gr_nk (I := I) (nu' := I.1) p3
      have e0 : i2n (nI (4 * e + j)) = 2147483648 + (4 * e + j) := by rw [nI_ok (by omega)]; omega
      have hkv : sval I.1 k = 2147483648 + (4 * e + j) := by rw [← hk.2.2, k1]; exact e0
      have hat : At I.2.2 h p.1 0 (4 * e + j) (.int (wsel ws ts ds wh j)) := by
        rw [p2]
        unfold wsel
        by_cases w0 : wh = 0
        · rw [if_pos w0, if_pos w0]
          exact (hw.2.2.1 j j1).1.2
        · rw [if_neg w0, if_neg w0]
          by_cases w1 : wh = Int32.ofInt 1
          · rw [if_pos w1, if_pos w1]
            exact (hw.2.2.2.1 j j1).1.2
          · rw [if_neg w1, if_neg w1]
            exact (hw.2.2.2.2 j j1).1.2
      have hxv := find_ok (i := sk 2147483648) (j := k) (a := 0) (b := 4 * e + j) r2 hk.1 sk_val hkv hat x1
      have hu := use_ok hcn hB hσ r2 (lm_gr gg hAs) x2
      refine rt_mono (rt_and hu run) fun w h' ⟨⟨q', y1, I', y2, y3, y4⟩, y5, y6⟩ => ?_
      subst y5
      exact hE (some x, q'.2) (x3 q' y1) I' _ h' (gr_trans gg y2) y3 (by rw [k2]; exact sv_gr y2 hxv)
  · rw [hv, cond_true] at hs
    have hv := veq_ok hv
    subst hv
    split at hs
    · cases hs
    rename_i es' hes
    have e1 := Option.some.inj hs
    subst e1
    have k1 : tdF ws ts ds kn wh n = Int32.ofInt (-3) := by
      rcases kt with ⟨-, k1⟩ | ⟨j, j1, k1, -⟩
      · exact k1
      · have := hk.2.2
        rw [k1, nI_ok (by omega), sk_val] at this
        omega
    have hu := use_ok hcn hB hσ hR hAs hes
    refine rt_mono (rt_and hu run) fun w h' ⟨⟨q', y1, I', y2, y3, y4⟩, y5, y6⟩ => ?_
    subst y5
    exact hE (some (sk 2147483645), q'.2) (List.mem_map.mpr ⟨q', y1, rfl⟩) I' _ h' y2 y3 (by rw [k1]; exact sv_of_int (sk_IV cw_m3))
theorem told_ok (hTB : T1 B.1.1 B.1.2) (hKL : KLm B.1.1 B.1.2) (hRW : RLw B.1.1 B.1.2) (hcn : ∀ M C, C ∈ cns M → C.1 < nC → CnOK σ C) (hB : ∀ a i, ¬ B.2 a i) (hσ : ∀ i, i < 6 → B.1.1 (stc i) 0 = some (σ i)) (hR : RM B I G h) (hAs : LM I (g_h G).length (g_n G) as As) (hs : hp_told as G = some es) (hE : Ends B I G es Q) : Rt σ 84 (codeOf 84) (am_args 0 As) [] h Q := by
  obtain ⟨-, ⟨-, t47, -⟩, -⟩ := wt_t
  obtain ⟨⟨c10, c11⟩, -, s11⟩ := m_cls.1
  unfold hp_told at hs
  split at hs
  case h_2 => cases hs
  rename_i l what kb
  replace hs := bif_some hs
  obtain ⟨g, hs⟩ := hs
  obtain ⟨g1, g2⟩ := and2 g
  obtain ⟨g1, g1'⟩ := and2 g1
  obtain ⟨g2, g3⟩ := and2 g2
  obtain ⟨g2, g2'⟩ := and2 g2
  have g1' := beqt g1'
  have hAs0 := hAs
  obtain ⟨Vl, r1, rfl, l1, q1⟩ := lm_cons hAs
  obtain ⟨Vw, r2, rfl, l2, q2⟩ := lm_cons q1
  obtain ⟨Vk, r3, rfl, l3, q3⟩ := lm_cons q2
  have q4 := lm_nil q3
  subst q4
  obtain ⟨wh, rfl, hwh⟩ := sv_int l2 g2
  obtain ⟨kx, rfl, hkx⟩ := sv_int l3 g2'
  obtain ⟨n1, n2⟩ := and2 g1
  have n2 := blet n2
  obtain ⟨o1, o2, o3⟩ := sv_typ l1 n1
  have bv := itv_ok hR.1.1 (y_idx l)
  rcases o3 with ⟨o4, -⟩ | ⟨o4, q, o5, rfl⟩
  · omega
  rw [g1'] at o5
  obtain ⟨e, he⟩ : ∃ e, sval I.1 (y_idx l) = 2147483648 + e := ⟨sval I.1 (y_idx l) - 2147483648, by omega⟩
  rw [he, Nat.add_sub_cancel_left] at o5
  obtain ⟨n, ws, ts, ds, hw, h77⟩ := w_old_ok hTB hKL hRW hB hR g3 (idx_I _) o1 he (by rw [o5]; exact fun e => by cases e)
  split at hs
  · cases hs
  rename_i r hr
  obtain ⟨mq, hmq⟩ := hR.2.2.2.1.2.2.2.1.2.1 11 s11
  obtain ⟨kn, h47⟩ := int_at hR.2.2.2.1 (by omega) c10 t47 hmq
  obtain ⟨nu1, i1, R1, G1⟩ := rdI (a := 0) (b := 47) hR (by omega) sk_okn sk_okn rfl rfl sk_val sk_val h47 hr
  replace hs := bif_some hs
  obtain ⟨v1, hs⟩ := hs
  obtain ⟨-, v1⟩ := and2 v1
  have v1 := veq_ok v1
  have ekn : kx = kn := by
    have := iv_gr (I' := (nu1, I.2)) hkx G1
    exact i2n_inj (by rw [this.2.2, i1.2.2, v1])
  subst ekn
  have hwh1 := iv_gr (I' := (nu1, I.2)) hwh G1
  have he1 : sval nu1 (y_idx l) = 2147483648 + e := (sval_ag o1 G1.1).trans he
  have o1' := okn_up o1 G1.2.1
  split at hs
  · rename_i v hv
    obtain ⟨o, h1, h2⟩ := toldS_mem hs (v, r.2) List.mem_cons_self
    obtain ⟨-, -, -, z | ⟨z, -⟩ | ⟨z, -⟩ | ⟨-, z1, z2, z3⟩⟩ := R1.2.2.2.2.2.1 _ (c_find_ok hv)
    · exact absurd z.1 (by show ¬ isI ((12, 0, 0) : SV) = true; decide)
    · exact absurd z (by show ¬ (12 : Nat) = 8; omega)
    · exact absurd z (by show ¬ (12 : Nat) = 9; omega)
    replace z3 : PX 12 I.2.2 h 6 (sval nu1 (y_idx l)) (sval nu1 v) := z3
    rw [px12, he1] at z3
    obtain ⟨n', kn', ds', ⟨-, -, w2⟩, ⟨w3, w4⟩, w5, w6⟩ := z3
    rw [Nat.add_sub_cancel_left] at w3 w6
    have en : n' = n := nI_inj (by omega) (by have := hw.1; omega) (at_int w3 h77)
    subst en
    have ek : kn' = kx := at_int w4 h47
    subst ek
    have hk : IV nu1 (g_n r.2) v (kwF ds kn' e n') := ⟨z1, z2, by
      rw [← w6]
      congr 1
      refine (kw_congr fun j hj => ?_).symm
      have := w5 j hj
      rw [Nat.add_sub_cancel_left] at this
      exact at_int this (hw.2.2.2.2 j hj).1.2⟩
    exact told1_ok (I := (nu1, I.2)) hcn hB hσ R1 (lm_gr G1 hAs0) hwh1 o5 hw hk h1 fun q hq I' v' h' a1 a2 a3 => hE q (h2 q hq) I' v' h' (gr_trans G1 a1) a2 a3
  · obtain ⟨p, p1, nu2, R2', G2, i2⟩ := w_split_ok (I := (nu1, I.2)) R1 o1' he1 hw h77 h47
    obtain ⟨o, h1, h2⟩ := toldS_mem hs p p1
    have gg := gr_trans G1 G2
    exact told1_ok (I := (nu2, I.2)) (k := p.1) hcn hB hσ R2' (lm_gr gg hAs0) (iv_gr (I := (nu1, I.2)) (I' := (nu2, I.2)) hwh1 G2) o5 hw i2 h1 fun q hq I' v' h' a1 a2 a3 => hE q (h2 q hq) I' v' h' (gr_trans gg a1) a2 a3
theorem wofU_mem : ∀ {l : List (SV × SG)} {o : List (Option SV × SG)}, hp_wofU as l = some o → ∀ p, p ∈ l → ∃ es, hp_use 218 as p.2 = some es ∧ ∀ q, q ∈ es → (some p.1, q.2) ∈ o := by
  intro l
  induction l with
  | nil => intro o _ p hp; cases hp
  | cons y r ih =>
    intro o ho p hp
    rw [hp_wofU] at ho
    split at ho
    · cases ho
    · rename_i es hes
      split at ho
      · cases ho
      · rename_i o' ho'
        cases ho
        rcases List.mem_cons.mp hp with rfl | hp
        · exact ⟨es, hes, fun q hq => List.mem_append_left _ (List.mem_map.mpr ⟨q, hq, rfl⟩)⟩
        · obtain ⟨es', h1, h2⟩ := ih ho' p hp
          exact ⟨es', h1, fun q hq => List.mem_append_right _ (h2 q hq)⟩
theorem wofS_mem {e : SV} : ∀ {l : List (SV × SG)} {o : List (Option SV × SG)}, hp_wofS as e l = some o → ∀ p, p ∈ l → ∃ o1, hp_wof1 as e p = some o1 ∧ ∀ q, q ∈ o1 → q ∈ o := by
  intro l
  induction l with
  | nil => intro o _ p hp; cases hp
  | cons y r ih =>
    intro o ho p hp
    rw [hp_wofS] at ho
    split at ho
    · cases ho
    · rename_i o1 h1
      split at ho
      · cases ho
      · rename_i o' ho'
        cases ho
        rcases List.mem_cons.mp hp with rfl | hp
        · exact ⟨o1, h1, fun q hq => List.mem_append_left _ hq⟩
        · obtain ⟨o2, h2, h3⟩ := ih ho' p hp
          exact ⟨o2, h2, fun q hq => List.mem_append_right _ (h3 q hq)⟩
theorem wofU_ok {l : List (SV × SG)} {p : SV × SG} {mq : Nat} (hcn : ∀ M C, C ∈ cns M → C.1 < nC → CnOK σ C) (hB : ∀ a i, ¬ B.2 a i) (hσ : ∀ i, i < 6 → B.1.1 (stc i) 0 = some (σ i)) (hR : RM B I p.2 h) (hAs : LM I (g_h p.2).length (g_n p.2) as [.ref mq, .int (nI e)]) (hm : I.2.2 11 0 = some mq) (hw : WM I.2.2 h e n kn ds) (hk : IV I.1 (g_n p.2) p.1 (kwF ds kn e n)) (hs : hp_wofU as l = some es) (hp : p ∈ l) (hE : Ends B I p.2 es Q) : Rt σ 218 (codeOf 218) (am_args 0 [.ref mq, .int (nI e)]) [] h Q := by
  obtain ⟨⟨w1, w2⟩, ⟨w3, w4⟩, w5⟩ := hw
  obtain ⟨es', u1, u2⟩ := wofU_mem hs p hp
  have run := M_wof (σ := σ) (Q := fun v h' => v = some (.int (kwF ds kn e n)) ∧ h' = h) hR.2.2.2.1 hm w1 w2 w3 w4 w5 ⟨rfl, rfl⟩
  have hu := use_ok hcn hB hσ hR hAs u1
  refine rt_mono (rt_and hu run) fun w h' ⟨⟨q', y1, I', y2, y3, y4⟩, y5, y6⟩ => ?_
  subst y5
  exact hE (some p.1, q'.2) (u2 q' y1) I' _ h' y2 y3 (sv_gr y2 (sv_of_int hk))
theorem wof_ok (hTB : T1 B.1.1 B.1.2) (hKL : KLm B.1.1 B.1.2) (hRW : RLw B.1.1 B.1.2) (hcn : ∀ M C, C ∈ cns M → C.1 < nC → CnOK σ C) (hB : ∀ a i, ¬ B.2 a i) (hσ : ∀ i, i < 6 → B.1.1 (stc i) 0 = some (σ i)) (hR : RM B I G h) (hAs : LM I (g_h G).length (g_n G) as As) (hs : hp_wof as G = some es) (hE : Ends B I G es Q) : Rt σ 218 (codeOf 218) (am_args 0 As) [] h Q := by
  obtain ⟨-, ⟨-, t47, -⟩, ⟨s77, -⟩, -⟩ := wt_t
  obtain ⟨⟨-, -, t57⟩, -⟩ := wt_t
  obtain ⟨-, ⟨⟨a77, k77⟩, -⟩, -⟩ := wt_c
  obtain ⟨⟨c10, c11⟩, -, s11⟩ := m_cls.1
  unfold hp_wof at hs
  split at hs
  case h_2 => cases hs
  rename_i mm x
  replace hs := bif_some hs
  obtain ⟨g, hs⟩ := hs
  obtain ⟨g1, g⟩ := and2 g
  obtain ⟨g2, g3⟩ := and2 g
  have g1 := veq_ok g1
  subst g1
  have hAs0 := hAs
  obtain ⟨Vm, r1, rfl, l1, q1⟩ := lm_cons hAs
  obtain ⟨Vx, r2, rfl, l2, q2⟩ := lm_cons q1
  have q3 := lm_nil q2
  subst q3
  obtain ⟨mq, rfl, hmq⟩ := sgl_arg (q := 0) l1
  obtain ⟨xx, rfl, hxx⟩ := sv_int l2 g2
  obtain ⟨f1, f2⟩ := fit_ok hR.1 hxx g3
  obtain ⟨e, he⟩ : ∃ e, i2n xx = 2147483648 + e := ⟨i2n xx - 2147483648, by omega⟩
  have exx : xx = nI e := r5nI he (by omega)
  subst exx
  have he60 : e < 60 := by omega
  have hsx : sval I.1 x = 2147483648 + e := hxx.2.2.symm.trans he
  obtain ⟨kn, h47⟩ := int_at hR.2.2.2.1 (by omega) c10 t47 hmq
  split at hs
  · rename_i v hv
    replace hs := bif_some hs
    obtain ⟨iv, hs⟩ := hs
    obtain ⟨-, -, -, z | ⟨z, -⟩ | ⟨z, -⟩ | ⟨-, z1, z2, z3⟩⟩ := hR.2.2.2.2.2.1 _ (c_find_ok hv)
    · exact absurd z.1 (by show ¬ isI ((12, 0, 0) : SV) = true; decide)
    · exact absurd z (by show ¬ (12 : Nat) = 8; omega)
    · exact absurd z (by show ¬ (12 : Nat) = 9; omega)
    replace z3 : PX 12 I.2.2 h 6 (sval I.1 x) (sval I.1 v) := z3
    rw [px12, hsx] at z3
    obtain ⟨n, kn', ds, ⟨-, -, w2⟩, ⟨w3, w4⟩, w5, w6⟩ := z3
    rw [Nat.add_sub_cancel_left] at w3 w6
    have ek : kn' = kn := at_int w4 h47
    subst ek
    exact wofU_ok (p := (v, G)) (n := n) (kn := kn') (ds := ds) hcn hB hσ hR hAs0 hmq ⟨⟨he60, w2⟩, ⟨w3, w4⟩, fun j hj => by have := w5 j hj; rw [Nat.add_sub_cancel_left] at this; exact this⟩ ⟨z1, z2, w6⟩ hs List.mem_cons_self hE
  · split at hs
    · cases hs
    rename_i l hl
    obtain ⟨q77, hq77⟩ := hR.2.2.2.1.2.2.2.1.2.1 77 s77
    obtain ⟨x77, h77⟩ := rowI_at (p := e) hR.2.2.2.1.1 a77 hq77 k77 (by omega) he60
    obtain ⟨p, p1, nu1, i1, R1, n1⟩ := y_read_ok (a := 0) (b := e) hR (by omega) sk_okn hxx.2.1 rfl g2 sk_val hsx h77 hl
    have G1 := gr_nh n1
    have i1 := sv_int' i1
    have hsx1 : sval nu1 x = 2147483648 + e := (sval_ag hxx.2.1 G1.1).trans hsx
    have ox1 := okn_up hxx.2.1 G1.2.1
    obtain ⟨o, h1, h2⟩ := wofS_mem hs p p1
    unfold hp_wof1 at h1
    cases hb : isI p.1 && y_fitI p.2 p.1 2147483648 2147483648
    · rw [hb, cond_false] at h1
      split at h1
      · cases h1
      rename_i lv hlv
      replace h1 := bif_some h1
      obtain ⟨b1, h1⟩ := h1
      obtain ⟨b1, b2⟩ := and2 b1
      obtain ⟨b1, b3⟩ := and2 b1
      have b3 := beqt b3
      obtain ⟨-, -, -, ⟨-, i', j', V, z1, z2, z3, z4⟩ | ⟨z, -⟩ | ⟨z, -⟩ | ⟨z, -⟩⟩ := R1.2.2.2.2.2.1 _ (c_find_ok hlv)
      · replace z1 : sval nu1 x = 2147483648 + i' := z1
        replace z2 : 2147483655 = 2147483648 + j' := z2
        have ei : i' = e := by omega
        have ej : j' = 7 := by omega
        subst ei
        subst ej
        replace z3 : At I.2.2 h 5 i' 7 V := z3
        obtain ⟨m1, m2⟩ := and2 b1
        have m2 := blet m2
        obtain ⟨o1, o2, o3⟩ := sv_typ z4 m1
        have bv := itv_ok R1.1.1 (y_idx lv)
        have bv1 : (itv p.2 (y_idx lv)).1 ≤ sval nu1 (y_idx lv) := bv.1
        rcases o3 with ⟨o4, -⟩ | ⟨o4, q, o5, rfl⟩
        · replace o4 : sval nu1 (y_idx lv) = 2147483647 := o4
          omega
        obtain ⟨ty, y1, y2⟩ : ∃ ty, ct_at 5 7 = some ty ∧ TV I.2.2 ty i' 7 (.ref q) := ⟨_, t57, at_tv R1.2.2.2.1.1 (by omega) z3 t57⟩
        rw [t57] at y1
        cases y1
        have h6 : I.2.2 6 i' ≠ none := by
          rcases tv_own5 y2 rfl with y3 | ⟨q', -, y3⟩
          · cases y3
          · rw [show I.2.2 6 i' = some q' from y3]
            exact fun e => by cases e
        obtain ⟨n, ws, ts, ds, hw, h77'⟩ := w_old_ok (I := (nu1, I.2)) hTB hKL hRW hB R1 b2 g2 ox1 hsx1 h6
        obtain ⟨p', p1', nu2, R2', G2, i2⟩ := w_split_ok (I := (nu1, I.2)) R1 ox1 hsx1 hw h77' h47
        have gg := gr_trans G1 G2
        exact wofU_ok (I := (nu2, I.2)) (p := p') (n := n) (kn := kn) (ds := ds) hcn hB hσ R2' (lm_gr gg hAs0) hmq ⟨hw.1, ⟨h77', h47⟩, fun j hj => (hw.2.2.2.2 j hj).1.2⟩ i2 h1 p1' fun q hq I' v' h' a1 a2 a3 => hE q (h2 q hq) I' v' h' (gr_trans gg a1) a2 a3
      · exact absurd z (by show ¬ (0 : Nat) = 8; omega)
      · exact absurd z (by show ¬ (0 : Nat) = 9; omega)
      · exact absurd z (by show ¬ 10 ≤ 0; omega)
    · rw [hb, cond_true] at h1
      obtain ⟨-, b2⟩ := and2 hb
      obtain ⟨c1, c2⟩ := fit_ok (I := (nu1, I.2)) R1.1 i1 b2
      have e0 : x77 = nI 0 := r5nI (by omega) (by omega)
      subst e0
      have hM : WM I.2.2 h e 0 kn (fun _ => 0) := ⟨⟨he60, by omega⟩, ⟨h77, h47⟩, fun j hj => absurd hj (Nat.not_lt_zero _)⟩
      have hI : IV nu1 (g_n p.2) (sk 2147483647) (kwF (fun _ => 0) kn e 0) := sk_IV cw_m1
      have R2' := rm_cell R1 (cell12 (I := (nu1, I.2)) hM ox1 hsx1 hI)
      exact wofU_ok (I := (nu1, I.2)) (p := (sk 2147483647, y_put p.2 6 x (12, 0, 0) (sk 2147483647))) hcn hB hσ R2' (lm_gr G1 hAs0) hmq hM hI h1 List.mem_cons_self fun q hq I' v' h' a1 a2 a3 => hE q (h2 q hq) I' v' h' (gr_trans G1 a1) a2 a3
/-! all of them -/
theorem hp_ok (hTB : T1 B.1.1 B.1.2) (hKL : KLm B.1.1 B.1.2) (hRW : RLw B.1.1 B.1.2) (h5 : R5 B.1.1 B.1.2) (h2 : useR2 = true → R2 B.1.1 B.1.2 ∧ (KNm B.1.1 B.1.2 ∧ npH = npL)) (hcn : ∀ M C, C ∈ cns M → C.1 < nC → CnOK σ C) (hB : ∀ a i, ¬ B.2 a i) (hσ : ∀ i, i < 6 → B.1.1 (stc i) 0 = some (σ i)) : HP σ B := by
  intro M as As G es I h Q hR hAs hs hE
  unfold hp at hs
  split at hs
  · rename_i r hr
    rw [hs] at hr
    exact hp_a_ok h5 hcn hB hσ hR hAs hr hE
  · replace hs := bif_some hs
    obtain ⟨hu, hs⟩ := hs
    obtain ⟨k1, k2, k3⟩ := h2 hu
    split at hs
    · rename_i es' hb
      have e := Option.some.inj (Option.some.inj hs)
      subst e
      unfold hp_b at hb
      cases e1 : Nat.beq M mReads
      · rw [e1, cond_false] at hb
        cases e2 : Nat.beq M mHasP
        · rw [e2, cond_false] at hb
          cases e3 : Nat.beq M mFreeF
          · rw [e3, cond_false] at hb
            cases e4 : Nat.beq M mFreeA
            · rw [e4, cond_false] at hb
              cases e5 : Nat.beq M mIsW
              · rw [e5, cond_false] at hb
                cases e6 : Nat.beq M mIsB
                · rw [e6, cond_false] at hb
                  cases e7 : Nat.beq M 84
                  · rw [e7, cond_false] at hb
                    replace hb := bif_some hb
                    obtain ⟨e8, hb⟩ := hb
                    have e8 := beqt e8
                    subst e8
                    exact wof_ok hTB hKL hRW hcn hB hσ hR hAs hb hE
                  · rw [e7, cond_true] at hb
                    have e7 := beqt e7
                    subst e7
                    exact told_ok hTB hKL hRW hcn hB hσ hR hAs hb hE
                · rw [e6, cond_true] at hb
                  have e6 := beqt e6
                  subst e6
                  exact isb_ok h5 hcn hB hσ hR hAs hb hE
              · rw [e5, cond_true] at hb
                have e5 := beqt e5
                subst e5
                exact isw_ok hcn hB hσ hR hAs hb hE
            · rw [e4, cond_true] at hb
              have e4 := beqt e4
              subst e4
              exact freea_ok hcn hB hσ hR hAs hb hE
          · rw [e3, cond_true] at hb
            have e3 := beqt e3
            subst e3
            exact freef_ok hu k3 hcn hB hσ hR hAs hb hE
        · rw [e2, cond_true] at hb
          have e2 := beqt e2
          subst e2
          exact hasp_ok k1 k2 hcn hB hσ hR hAs hb hE
      · rw [e1, cond_true] at hb
        have e1 := beqt e1
        subst e1
        exact reads_ok h5 hcn hB hσ hR hAs hb hE
    · cases hs
end
end
