/-! ===== loops: entered, and come back to ===== -/
theorem nmem_ok {a : Nat} : ∀ {l : List Nat}, nmem a l = true → a ∈ l := by
  intro l
  induction l with
  | nil => intro h; cases h
  | cons b r ih =>
    intro h
    rw [nmem] at h
    cases hb : Nat.beq a b
    · rw [hb, cond_false] at h
      exact List.mem_cons_of_mem _ (ih h)
    · rw [beqt hb]
      exact List.mem_cons_self
theorem nmem_in {a : Nat} : ∀ {l : List Nat}, a ∈ l → nmem a l = true := by
  intro l
  induction l with
  | nil => intro h; cases h
  | cons b r ih =>
    intro h
    rw [nmem]
    cases hb : Nat.beq a b
    · rw [cond_false]
      rcases List.mem_cons.mp h with rfl | h
      · rw [Nat.beq_refl] at hb; cases hb
      · exact ih h
    · rfl
theorem k_sub_ok {l : List Nat} : ∀ {k : List Nat}, k_sub k l = true → ∀ a, a ∈ k → a ∈ l := by
  intro k
  induction k with
  | nil => intro _ a h; cases h
  | cons b r ih =>
    intro h a ha
    rw [k_sub] at h
    obtain ⟨h1, h2⟩ := bifb h
    rcases List.mem_cons.mp ha with rfl | ha
    · exact nmem_ok h1
    · exact ih h2 a ha
theorem l_veq_ok : ∀ {l m : List SV}, l_veq l m = true → l = m := by
  intro l
  induction l with
  | nil => intro m h; cases m with
    | nil => rfl
    | cons => cases h
  | cons x r ih => intro m h; cases m with
    | nil => cases h
    | cons y t =>
      rw [l_veq] at h
      obtain ⟨h1, h2⟩ := bifb h
      rw [veq_ok h1, ih h2]
theorem so_eq_ok {o p : SO} (h : so_eq o p = true) : o = p := by
  obtain ⟨a, o⟩ := o
  obtain ⟨b, p⟩ := p
  unfold so_eq at h
  dsimp only at h
  obtain ⟨h1, h2⟩ := bifb h
  have h1 := beqt h1
  subst h1
  cases o with
  | inl q => cases p with
    | inl r =>
      obtain ⟨h3, h4⟩ := and2 h2
      obtain ⟨q1, q2⟩ := q
      obtain ⟨r1, r2⟩ := r
      have e1 : q1 = r1 := beqt h3
      have e2 : q2 = r2 := veq_ok h4
      rw [e1, e2]
    | inr => cases h2
  | inr l => cases p with
    | inl => cases h2
    | inr m =>
      have e : l = m := l_veq_ok h2
      rw [e]
theorem h_eq_ok : ∀ {l m : List SO}, h_eq l m = true → l = m := by
  intro l
  induction l with
  | nil => intro m h; cases m with
    | nil => rfl
    | cons => cases h
  | cons x r ih => intro m h; cases m with
    | nil => cases h
    | cons y t =>
      rw [h_eq] at h
      obtain ⟨h1, h2⟩ := bifb h
      rw [so_eq_ok h1, ih h2]
theorem x_eq_ok : ∀ {l m : List (Nat × SV)}, x_eq l m = true → l = m := by
  intro l
  induction l with
  | nil => intro m h; cases m with
    | nil => rfl
    | cons => cases h
  | cons x r ih => intro m h; cases m with
    | nil => cases h
    | cons y t =>
      rw [x_eq] at h
      obtain ⟨h1, h2⟩ := bifb h
      obtain ⟨h3, h4⟩ := and2 h1
      have e : x = y := Prod.ext (beqt h3) (veq_ok h4)
      rw [e, ih h2]
theorem c_kill_mem {k : List Nat} : ∀ {l : List CE} {x : CE}, x ∈ c_kill k l → x ∈ l ∧ ((x.2.2.1.1 ≤ 7 → c_code x ∉ k ∧ ¬ (cdm x.1 = 0 ∧ 1 ≤ x.2.2.1.1)) ∧ (x.2.2.1.1 = 9 → x.1 * 128 ∉ k)) := by
  intro l
  induction l with
  | nil => intro x hx; cases hx
  | cons y r ih =>
    intro x hx
    rw [c_kill] at hx
    cases hb : (bif Nat.ble y.2.2.1.1 7 then (bif Nat.beq (cdm y.1) 0 && Nat.ble 1 y.2.2.1.1 then true else nmem (c_code y) k) else (Nat.beq y.2.2.1.1 9 && nmem (y.1 * 128) k) || px_in y k)
    · rw [hb, cond_false] at hx
      rcases List.mem_cons.mp hx with rfl | hx
      · refine ⟨List.mem_cons_self, fun h7 => ?_, fun h9 hm => ?_⟩
        · rw [Nat.ble_eq_true_of_le h7, cond_true] at hb
          cases hc : Nat.beq (cdm x.1) 0 && Nat.ble 1 x.2.2.1.1
          · rw [hc, cond_false] at hb
            refine ⟨fun hm => ?_, fun ⟨e1, e2⟩ => ?_⟩
            · rw [nmem_in hm] at hb; cases hb
            · rw [e1, Nat.beq_refl, Nat.ble_eq_true_of_le e2] at hc; cases hc
          · rw [hc, cond_true] at hb; cases hb
        · rw [h9, nmem_in hm] at hb
          cases hb
      · exact ⟨List.mem_cons_of_mem _ (ih hx).1, (ih hx).2⟩
    · rw [hb, cond_true] at hx
      exact ⟨List.mem_cons_of_mem _ (ih hx).1, (ih hx).2⟩
theorem c_kill_mem2 {k : List Nat} : ∀ {l : List CE} {x : CE}, x ∈ c_kill k l → 10 ≤ x.2.2.1.1 → px_in x k = false := by
  intro l
  induction l with
  | nil => intro x hx; cases hx
  | cons y r ih =>
    intro x hx
    rw [c_kill] at hx
    cases hb : (bif Nat.ble y.2.2.1.1 7 then (bif Nat.beq (cdm y.1) 0 && Nat.ble 1 y.2.2.1.1 then true else nmem (c_code y) k) else (Nat.beq y.2.2.1.1 9 && nmem (y.1 * 128) k) || px_in y k)
    · rw [hb, cond_false] at hx
      rcases List.mem_cons.mp hx with rfl | hx
      · intro h10
        have e7 : Nat.ble x.2.2.1.1 7 = false := by
          cases e : Nat.ble x.2.2.1.1 7
          · rfl
          · have := blet e; omega
        rw [e7, cond_false] at hb
        exact (Bool.or_eq_false_iff.mp hb).2
      · exact ih hx
    · rw [hb, cond_true] at hx
      exact ih hx
theorem bk_c_ok {kk : List Nat} {G : SG} : ∀ {l : List CE}, bk_c kk G l = true → ∀ q, q ∈ l → q ∈ g_c G ∨ ((q.2.2.1.1 ≤ 7 ∧ c_code q ∈ kk) ∨ (q.2.2.1.1 = 8 ∧ q.1 * 128 + 126 ∈ kk)) := by
  intro l
  induction l with
  | nil => intro _ q h; cases h
  | cons y r ih =>
    intro h q hq
    rw [bk_c] at h
    cases hb : (bif Nat.ble y.2.2.1.1 7 then nmem (c_code y) kk else bif Nat.beq y.2.2.1.1 8 then nmem (y.1 * 128 + 126) kk else false)
    · rw [hb, cond_false] at h
      split at h
      · cases h
      · rename_i v hv
        obtain ⟨h1, h2⟩ := bifb h
        rcases List.mem_cons.mp hq with rfl | hq
        · have := c_find_ok hv
          rw [veq_ok h1] at this
          exact Or.inl this
        · exact ih h2 q hq
    · rw [hb, cond_true] at h
      rcases List.mem_cons.mp hq with rfl | hq
      · cases h7 : Nat.ble q.2.2.1.1 7
        · rw [h7, cond_false] at hb
          obtain ⟨h1, h2⟩ := bifb hb
          exact Or.inr (Or.inr ⟨beqt h1, nmem_ok h2⟩)
        · rw [h7, cond_true] at hb
          exact Or.inr (Or.inl ⟨blet h7, nmem_ok hb⟩)
      · exact ih h q hq
theorem cells_sub {lv : SLV} : ∀ {hc : List (Nat × Nat × Nat × Nat)} {G : SG} {q : CE}, q ∈ g_c G → q ∈ g_c (gen_cells lv G hc) := by
  intro hc
  induction hc with
  | nil => intro G q h; exact h
  | cons hh r ih =>
    intro G q h
    rw [gen_cells]
    exact ih (List.mem_cons_of_mem _ h)
theorem rel_c {lv lv0 : SLV} {hc : List (Nat × Nat × Nat × Nat)} {c0 : List SV} {res : Option SV} : ∀ {l : List (RF × RF × Nat)} {G W : SG}, add_rel lv lv0 G hc c0 res l = some W → g_c W = g_c G := by
  intro l
  induction l with
  | nil => intro G W h; cases h; rfl
  | cons q r ih =>
    intro G W h
    rw [add_rel] at h
    split at h
    · replace h := (bif_some h).2
      split at h
      · rename_i G2 h2
        rw [ih h]
        unfold y_fact at h2
        dsimp only at h2
        split at h2
        · cases h2; rfl
        · split at h2
          · cases h2
          · split at h2
            · cases h2
            · cases h2; rfl
      · cases h
    · cases h
theorem ck_rel_ok {d : Nat} {lv lv0 : SLV} {G : SG} {hc : List (Nat × Nat × Nat × Nat)} {c0 : List SV} {res : Option SV} : ∀ {l : List (RF × RF × Nat)}, ck_rel d lv lv0 G hc c0 res l = true → ∀ q, q ∈ l → ∃ x y, rf_val q.1 lv lv0 G hc c0 res = some x ∧ (rf_val q.2.1 lv lv0 G hc c0 res = some y ∧ (intL x = true ∧ (intL y = true ∧ y_le G x y q.2.2 d = true))) := by
  intro l
  induction l with
  | nil => intro _ q h; cases h
  | cons p r ih =>
    intro h q hq
    rw [ck_rel] at h
    split at h
    · rename_i x y hx hy
      obtain ⟨h1, h2⟩ := bifb h
      obtain ⟨h5, h3⟩ := and2 h1
      obtain ⟨h6, h4⟩ := and2 h5
      rcases List.mem_cons.mp hq with rfl | hq
      · exact ⟨x, y, hx, hy, h6, h4, h3⟩
      · exact ih h2 q hq
    · cases h
section
variable {B : BS} {I I' : IN} {n m n' m' : Nat} {G G' : SG} {h h' h0 h1 : AH} {lv lv' lv0 : SLV} {L L' L1 : LV} {c : Int} {a k kd i f : Nat} {s : SV} {v : Value}
theorem rds_ok : ∀ {hc : List (Nat × Nat × Nat × Nat)} {I : IN} {G G' : SG} {c0 : List SV}, RM B I G h → LVM I (g_h G).length (g_n G) lv L → rds lv G hc = some (c0, G') → ∃ nu', RM B (nu', I.2) G' h ∧ (NH I G nu' G' ∧ ((∀ s, s ∈ c0 → okn (g_n G') s) ∧ (∀ (j : Nat) (hh : Nat × Nat × Nat × Nat), hc[j]? = some hh → ∃ s X, c0[j]? = some s ∧ (isI s = true ∧ (PlV (nu', I.2) (g_n G') h (h_place hh.1 hh.2.1 lv) (.int X) ∧ (i2n X = sval nu' s ∧ (hh.2.2.1 ≤ i2n X ∧ i2n X ≤ hh.2.2.2))))))) := by
  intro hc
  induction hc with
  | nil =>
    intro I G G' c0 hR _ hs
    cases hs
    exact ⟨I.1, hR, nh_refl I G, fun s h => (by cases h), fun j hh h => by cases h⟩
  | cons hh r ih =>
    intro I G G' c0 hR hL hs
    rw [rds] at hs
    split at hs
    · cases hs
    · rename_i q hq
      replace hq := bif_some hq
      obtain ⟨q1, hq⟩ := hq
      replace hs := bif_some hs
      obtain ⟨f1, hs⟩ := hs
      obtain ⟨f1, f2⟩ := and2 f1
      split at hs
      · cases hs
      · rename_i o ho
        have e := Option.some.inj hs
        injection e with e1 e2
        subst e1; subst e2
        obtain ⟨V, hV⟩ := pl_there hR hL q1
        have hV0 := hV
        obtain ⟨p1, p2, p3, p4, p5, a, b, p6, p7, p8⟩ := hV
        unfold rd1 at hq
        split at hq
        · rename_i q' hrd
          cases hq
          obtain ⟨q2, m2, nu1, r1, r2, r3⟩ := y_read_ok hR p1 p2 p3 p4 p5 p6 p7 p8 hrd
          have := List.mem_singleton.mp m2
          subst this
          obtain ⟨X, rfl, hX⟩ := sv_int r1 f1
          obtain ⟨b1, b2⟩ := fit_ok (I := (nu1, I.2)) r2.1 hX f2
          obtain ⟨nu2, s1, s2, s3, s4⟩ := ih (I := (nu1, I.2)) r2 (lvm_gr (gr_nh r3) hL) ho
          refine ⟨nu2, s1, nh_trans r3 s2, fun s hs => ?_, fun j hj ej => ?_⟩
          · rcases List.mem_cons.mp hs with rfl | hs
            · exact okn_up hX.2.1 s2.2.1
            · exact s3 s hs
          · cases j with
            | zero =>
              cases ej
              refine ⟨q2.1, X, rfl, f1, plv_ag (I := (nu1, I.2)) (plv_ag hV0 r3.2.1 r3.1) s2.2.1 s2.1, ?_, b1, b2⟩
              rw [sval_ag hX.2.1 s2.1]
              exact hX.2.2
            | succ j =>
              obtain ⟨s, Y, t1, t2⟩ := s4 j hj ej
              exact ⟨s, Y, t1, t2⟩
        · cases hq
/-- where a loop's new names begin -/
noncomputable def l_kk (Lc : LC) (lv : SLV) : List Nat := Lc.2.2.2.1 ++ Lc.2.2.2.2.1.map (fun h => h_code h.1 h.2.1 lv)
noncomputable def l_bs (Lc : LC) (lv : SLV) (G0 : SG) : SG := upX (upC G0 (c_kill (l_kk Lc lv) (g_c G0))) (g_x G0) (l_kk Lc lv ++ g_k G0)
noncomputable def l_A (Lc : LC) (lv : SLV) (G0 : SG) : SLV × SG := gen_hav (lv_drop Lc.2.2.1 lv) (l_bs Lc lv G0) Lc.2.1
/-- what is fixed when a loop is entered -/
noncomputable def LB (Lc : LC) (lv : SLV) (c0 : List SV) (G0 W : SG) : Prop := hv_dis Lc.2.1 = true ∧ ((∀ hh : Nat × Nat × Nat × Nat, hh ∈ Lc.2.2.2.2.1 → hh.1 ≤ 1 ∧ h_code hh.1 hh.2.1 lv % 128 ≤ 125) ∧ (KN lv ∧ ((∀ i s, s_find i lv = some s → okS (g_h G0).length (g_n G0) s) ∧ ((∀ s, s ∈ c0 → okn (g_n G0) s) ∧ add_rel (l_A Lc lv G0).1 lv (gen_cells lv (l_A Lc lv G0).2 Lc.2.2.2.2.1) Lc.2.2.2.2.1 c0 none Lc.2.2.2.2.2.1 = some W))))
/-- what holds of a start of the loop, by the base's names -/
noncomputable def LH (B : BS) (Ib : IN) (Lc : LC) (lv : SLV) (c0 : List SV) (G0 : SG) (h : AH) (L : LV) : Prop := RM B Ib (l_bs Lc lv G0) h ∧
  ((∀ i s, s_find i (lv_drop Lc.2.2.1 lv) = some s → (∀ hh : Nat × Nat × Nat × Nat, hh ∈ Lc.2.1 → hh.1 ≠ i) → ∃ v, lv_get i L = some v ∧ SVm Ib (g_h G0).length (g_n G0) s v) ∧
  ((∀ hh : Nat × Nat × Nat × Nat, hh ∈ Lc.2.1 → ∀ s, s_find hh.1 (lv_drop Lc.2.2.1 lv) = some s → HvV L hh) ∧
  ((∀ hh : Nat × Nat × Nat × Nat, hh ∈ Lc.2.2.2.2.1 → ∃ X, PlV Ib (g_n G0) h (h_place hh.1 hh.2.1 lv) (.int X) ∧ (hh.2.2.1 ≤ i2n X ∧ i2n X ≤ hh.2.2.2)) ∧
  ∀ q : RF × RF × Nat, q ∈ Lc.2.2.2.2.2.1 → ∃ w1 w2, RW Ib (g_n G0) h L lv Lc.2.2.2.2.1 c0 0 q.1 w1 ∧ (RW Ib (g_n G0) h L lv Lc.2.2.2.2.1 c0 0 q.2.1 w2 ∧ w1 + q.2.2 ≤ w2))))
theorem gen_ok {Ib : IN} {Lc : LC} {c0 : List SV} {G0 W : SG} (hl : LB Lc lv c0 G0 W) (hh : LH B Ib Lc lv c0 G0 h L) : ∃ nu', RM B (nu', Ib.2) W h ∧ (NH Ib (l_bs Lc lv G0) nu' W ∧ (KN (l_A Lc lv G0).1 ∧ LVM (nu', Ib.2) (g_h W).length (g_n W) (l_A Lc lv G0).1 L)) := by
  obtain ⟨b1, b2, b3, b4, b5, b6⟩ := hl
  obtain ⟨h1, h2, h3, h4, h5⟩ := hh
  obtain ⟨nu1, r1, r2, r3, r4, r5⟩ := gen_hav_ok (L := L) b1 h1 (drop_kn b3) h2 h3
  have e1 : gen_hav (lv_drop Lc.2.2.1 lv) (l_bs Lc lv G0) Lc.2.1 = l_A Lc lv G0 := rfl
  rw [e1] at r1 r2 r3 r4 r5
  obtain ⟨nu2, s1, s2⟩ := gen_cells_ok (lv := lv) (I := (nu1, Ib.2)) (hc := Lc.2.2.2.2.1) r1 (fun hh hm => by
    obtain ⟨X, x1, x2⟩ := h4 hh hm
    exact ⟨X, plv_ag x1 r2.2.1 r2.1, x2⟩)
  have k2 : NH Ib (l_bs Lc lv G0) nu2 (gen_cells lv (l_A Lc lv G0).2 Lc.2.2.2.2.1) := nh_trans r2 s2
  have l2 : LVM (nu2, Ib.2) (g_h (gen_cells lv (l_A Lc lv G0).2 Lc.2.2.2.2.1)).length (g_n (gen_cells lv (l_A Lc lv G0).2 Lc.2.2.2.2.1)) (l_A Lc lv G0).1 L := lvm_gr (gr_nh (I := (nu1, Ib.2)) s2) r5
  have nk := add_rel_ok (I := (nu2, Ib.2)) s1.1 b6 (fun q hq x y hx hy ix iy => by
    obtain ⟨w1, w2, g1, g2, g3⟩ := h5 q hq
    have j1 := rf_rw (I := (nu2, Ib.2)) (Ib := Ib) (mb := g_n G0) (nb := (g_h G0).length) (wr := 0) (fun hh hm => (b2 hh hm).1) s1 l2 b4 b5 k2.1 k2.2.1 rfl (fun s hs _ => by cases hs) hx ix
    have j2 := rf_rw (I := (nu2, Ib.2)) (Ib := Ib) (mb := g_n G0) (nb := (g_h G0).length) (wr := 0) (fun hh hm => (b2 hh hm).1) s1 l2 b4 b5 k2.1 k2.2.1 rfl (fun s hs _ => by cases hs) hy iy
    have e1 := rw_fun g1 j1.2
    have e2 := rw_fun g2 j2.2
    exact ⟨j1.1, j2.1, by omega⟩)
  exact ⟨nu2, rm_nk' (I := (nu2, Ib.2)) s1 nk, nh_trans k2 (nh_nk (I := (nu2, Ib.2)) nk), r4, lvm_gr (I := (nu2, Ib.2)) (I' := (nu2, Ib.2)) (gr_nk (I := (nu2, Ib.2)) nk) l2⟩
/-- a loop's start: every place and every number that the certificate names is there -/
theorem enter_ok {Lc : LC} {T : ST} (hR : RM B I G h) (hK : KN lv) (hL : LVM I (g_h G).length (g_n G) lv L) (hs : l_enter Lc lv G = some T) : ∃ c0 G0 W nu0, T = (Lc.1, Lc, (l_A Lc lv G0).1, W, lv, c0) ∧ (Gr I G (nu0, I.2) G0 ∧ (LB Lc lv c0 G0 W ∧ (LH B (nu0, I.2) Lc lv c0 G0 h L ∧ Lc.2.2.2.2.2.2.2 ≠ 2))) := by
  unfold l_enter at hs
  dsimp only at hs
  split at hs
  · cases hs
  · rename_i c0 G0 hrd
    have hRc := y_close_ok hR
    obtain ⟨nu0, r1, r2, r3, r4⟩ := rds_ok hRc hL hrd
    replace hs := bif_some hs
    obtain ⟨f1, hs⟩ := hs
    obtain ⟨f1a, f3⟩ := and2 f1
    obtain ⟨f1b, f2a⟩ := and2 f1a
    obtain ⟨f2, f9⟩ := and2 f2a
    have hms : Lc.2.2.2.2.2.2.2 ≠ 2 := fun e => by
      rw [e] at f9
      exact Bool.noConfusion f9
    obtain ⟨f4, f5⟩ := and2 f3
    split at hs
    · cases hs
    · rename_i W hW
      have hg := gr_nh r2
      have hL2 : LVM (nu0, I.2) (g_h G0).length (g_n G0) lv L := lvm_gr hg hL
      have hmode : ∀ hh : Nat × Nat × Nat × Nat, hh ∈ Lc.2.2.2.2.1 → hh.1 ≤ 1 ∧ h_code hh.1 hh.2.1 lv % 128 ≤ 125 := fun hh hm => by
        obtain ⟨g1, g2⟩ := and2 (List.all_eq_true.mp f2 hh hm)
        exact ⟨blet g1, blet g2⟩
      have hoks : ∀ i s, s_find i lv = some s → okS (g_h G0).length (g_n G0) s := fun i s hs => by
        obtain ⟨v, -, v2⟩ := hL2 i s hs
        exact sv_okS v2
      refine ⟨c0, G0, W, nu0, (Option.some.inj hs).symm, gr_trans gr_close hg, ⟨f1b, hmode, hK, hoks, r3, hW⟩, ⟨?_, ?_, ?_, ?_, ?_⟩, hms⟩
      · exact rm_sub r1 (fun x hx => (c_kill_mem hx).1) (fun x hx => List.mem_append_right _ hx)
      · intro i s hs _
        exact hL2 i s (drop_find hK hs)
      · have ck : ∀ {l : List (Nat × Nat × Nat × Nat)}, ck_hav G0 lv l = true → ∀ hh, hh ∈ l → ∀ s, s_find hh.1 lv = some s → HvV L hh := by
          intro l
          induction l with
          | nil => intro _ hh hm; cases hm
          | cons p r ih =>
            intro hc hh hm s hs
            rw [ck_hav] at hc
            split at hc
            · rename_i hn
              rcases List.mem_cons.mp hm with rfl | hm
              · rw [hn] at hs; cases hs
              · exact ih hc hh hm s hs
            · rename_i t ht
              obtain ⟨c1, c2⟩ := bifb hc
              rcases List.mem_cons.mp hm with rfl | hm
              · rw [ht] at hs
                cases hs
                obtain ⟨V, v1, v2⟩ := hL2 _ _ ht
                cases e0 : Nat.beq hh.2.1 0
                · rw [e0, cond_false] at c1
                  obtain ⟨X, rfl, -⟩ := sv_long v2 c1
                  exact Or.inr ⟨beqf e0, X, v1⟩
                · rw [e0, cond_true] at c1
                  obtain ⟨c3, c4⟩ := and2 c1
                  obtain ⟨X, rfl, hX⟩ := sv_int v2 c3
                  exact Or.inl ⟨beqt e0, X, v1, fit_ok (I := (nu0, I.2)) r1.1 hX c4⟩
              · exact ih c2 hh hm s hs
        exact fun hh hm s hs => ck f4 hh hm s (drop_find hK hs)
      · intro hh hm
        obtain ⟨j, hj⟩ := List.getElem?_of_mem hm
        obtain ⟨s, X, -, -, x3, -, x4⟩ := r4 j hh hj
        exact ⟨X, x3, x4⟩
      · intro q hq
        obtain ⟨x, y, hx, hy, ix, iy, hle⟩ := ck_rel_ok f5 q hq
        have j1 := rf_rw (I := (nu0, I.2)) (Ib := (nu0, I.2)) (mb := g_n G0) (nb := (g_h G0).length) (wr := 0) (fun hh hm => (hmode hh hm).1) r1 hL2 hoks r3 (fun _ _ => rfl) (Nat.le_refl _) rfl (fun s hs _ => by cases hs) hx ix
        have j2 := rf_rw (I := (nu0, I.2)) (Ib := (nu0, I.2)) (mb := g_n G0) (nb := (g_h G0).length) (wr := 0) (fun hh hm => (hmode hh hm).1) r1 hL2 hoks r3 (fun _ _ => rfl) (Nat.le_refl _) rfl (fun s hs _ => by cases hs) hy iy
        exact ⟨_, _, j1.2, j2.2, y_le_ok (nu := nu0) r1.1 j1.1 j2.1 hle⟩
end
