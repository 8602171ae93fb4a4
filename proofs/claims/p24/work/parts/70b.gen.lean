/-! ===== new names for what a loop or a call changes ===== -/
noncomputable def HvV (L : LV) (hh : Nat × Nat × Nat × Nat) : Prop := (hh.2.1 = 0 ∧ ∃ X, lv_get hh.1 L = some (.int X) ∧ (hh.2.2.1 ≤ i2n X ∧ i2n X ≤ hh.2.2.2)) ∨ (hh.2.1 ≠ 0 ∧ ∃ X, lv_get hh.1 L = some (.long X))
theorem set_none {i j : Nat} {v : SV} : ∀ {l : SLV}, s_find i l = none → s_find i (y_lvset j v l) = none := by
  intro l
  induction l with
  | nil => intro _; rfl
  | cons q r ih =>
    intro h
    by_cases e : q.1 = i
    · have h1 : s_find i (q :: r) = some q.2 := by rw [s_find, e, Nat.beq_refl, cond_true]
      rw [h1] at h
      cases h
    · rw [s_miss e] at h
      rw [y_lvset]
      cases hb : Nat.beq q.1 j
      · rw [cond_false, s_miss e]
        exact ih h
      · rw [cond_true]
        have := beqt hb
        rw [s_miss (show ¬ j = i by omega)]
        exact h
theorem set_find {i j : Nat} {v s : SV} : ∀ {l : SLV}, s_find i (y_lvset j v l) = some s → (i = j ∧ (s = v ∧ ∃ t, s_find i l = some t)) ∨ (i ≠ j ∧ s_find i l = some s) := by
  intro l
  induction l with
  | nil => intro h; cases h
  | cons q r ih =>
    intro h
    rw [y_lvset] at h
    cases hb : Nat.beq q.1 j
    · rw [hb, cond_false] at h
      have hb := beqf hb
      by_cases e : q.1 = i
      · rw [s_find, e, Nat.beq_refl, cond_true] at h
        refine Or.inr ⟨by omega, ?_⟩
        rw [s_find, e, Nat.beq_refl, cond_true]
        exact h
      · rw [s_miss e] at h
        rw [s_miss e]
        exact ih h
    · rw [hb, cond_true] at h
      have hb := beqt hb
      by_cases e : j = i
      · subst e
        rw [s_hit] at h
        cases h
        refine Or.inl ⟨rfl, rfl, q.2, ?_⟩
        rw [s_find, hb, Nat.beq_refl, cond_true]
      · rw [s_miss (q := (j, v)) e] at h
        rw [s_miss (by omega)]
        exact Or.inr ⟨by omega, h⟩
theorem set_kn {j : Nat} {v : SV} : ∀ {l : SLV}, KN l → KN (y_lvset j v l) := by
  intro l
  induction l with
  | nil => intro h; exact h
  | cons q r ih =>
    intro h
    obtain ⟨h1, h2⟩ := h
    rw [y_lvset]
    cases hb : Nat.beq q.1 j
    · rw [cond_false]
      exact ⟨set_none h1, ih h2⟩
    · rw [cond_true]
      refine ⟨?_, h2⟩
      rw [← beqt hb]
      exact h1
theorem drop_none {i : Nat} {d : List Nat} : ∀ {l : SLV}, s_find i l = none → s_find i (lv_drop d l) = none := by
  intro l
  induction l with
  | nil => intro _; rfl
  | cons q r ih =>
    intro h
    by_cases e : q.1 = i
    · have h1 : s_find i (q :: r) = some q.2 := by rw [s_find, e, Nat.beq_refl, cond_true]
      rw [h1] at h
      cases h
    · rw [s_miss e] at h
      rw [lv_drop]
      cases nmem q.1 d
      · rw [cond_false, s_miss e]
        exact ih h
      · rw [cond_true]
        exact ih h
theorem drop_find {i : Nat} {d : List Nat} {s : SV} : ∀ {l : SLV}, KN l → s_find i (lv_drop d l) = some s → s_find i l = some s := by
  intro l
  induction l with
  | nil => intro _ h; cases h
  | cons q r ih =>
    intro hk h
    obtain ⟨k1, k2⟩ := hk
    rw [lv_drop] at h
    by_cases e : q.1 = i
    · cases hb : nmem q.1 d
      · rw [hb, cond_false] at h
        rw [s_find, e, Nat.beq_refl, cond_true] at h ⊢
        exact h
      · rw [hb, cond_true] at h
        have h2 := ih k2 h
        rw [e] at k1
        rw [k1] at h2
        cases h2
    · rw [s_miss e]
      cases hb : nmem q.1 d
      · rw [hb, cond_false, s_miss e] at h
        exact ih k2 h
      · rw [hb, cond_true] at h
        exact ih k2 h
theorem drop_kn {d : List Nat} : ∀ {l : SLV}, KN l → KN (lv_drop d l) := by
  intro l
  induction l with
  | nil => intro h; exact h
  | cons q r ih =>
    intro h
    obtain ⟨h1, h2⟩ := h
    rw [lv_drop]
    cases nmem q.1 d
    · rw [cond_false]
      exact ⟨drop_none h1, ih h2⟩
    · rw [cond_true]
      exact ih h2
theorem dis_head {q : Nat × Nat × Nat × Nat} {r : List (Nat × Nat × Nat × Nat)} (h : hv_dis (q :: r) = true) : (∀ p, p ∈ r → p.1 ≠ q.1) ∧ hv_dis r = true := by
  rw [hv_dis] at h
  cases hb : r.any (fun p => Nat.beq p.1 q.1)
  · rw [hb, cond_false] at h
    refine ⟨fun p hp e => ?_, h⟩
    have := List.any_eq_false.mp hb p hp
    rw [e, Nat.beq_refl] at this
    exact this rfl
  · rw [hb, cond_true] at h
    cases h
section
variable {B : BS} {I I' : IN} {n m n' m' : Nat} {G G' : SG} {h h' : AH} {lv lv' lv0 : SLV} {L L' : LV} {c : Int} {a k kd i f : Nat} {s : SV} {v : Value}
theorem gen_hav_ok : ∀ {hav : List (Nat × Nat × Nat × Nat)} {I : IN} {G : SG} {lv : SLV}, hv_dis hav = true → RM B I G h → KN lv →
    (∀ i s, s_find i lv = some s → (∀ hh, hh ∈ hav → hh.1 ≠ i) → ∃ v, lv_get i L = some v ∧ SVm I (g_h G).length (g_n G) s v) →
    (∀ hh, hh ∈ hav → ∀ s, s_find hh.1 lv = some s → HvV L hh) →
    ∃ nu', RM B (nu', I.2) (gen_hav lv G hav).2 h ∧ (NH I G nu' (gen_hav lv G hav).2 ∧ (g_c (gen_hav lv G hav).2 = g_c G ∧ (KN (gen_hav lv G hav).1 ∧ LVM (nu', I.2) (g_h (gen_hav lv G hav).2).length (g_n (gen_hav lv G hav).2) (gen_hav lv G hav).1 L))) := by
  intro hav
  induction hav with
  | nil =>
    intro I G lv _ hR hK h1 h2
    exact ⟨I.1, hR, nh_refl I G, rfl, hK, fun i s hs => h1 i s hs (fun _ hh => by cases hh)⟩
  | cons hh r ih =>
    intro I G lv hd hR hK h1 h2
    obtain ⟨d1, d2⟩ := dis_head hd
    rw [gen_hav]
    split
    · rename_i hn
      exact ih d2 hR hK (fun i s hs hne => h1 i s hs (fun p hp => by
        rcases List.mem_cons.mp hp with rfl | hp
        · intro e; rw [e, hs] at hn; cases hn
        · exact hne p hp)) (fun p hp s hs => h2 p (List.mem_cons_of_mem _ hp) s hs)
    · rename_i s0 hs0
      have step : ∀ {tg lo hi w : Nat} {V : Value}, (NK I.1 G (nset I.1 (g_n G) w) (y_fresh G lo hi)) → lv_get hh.1 L = some V → SVm (nset I.1 (g_n G) w, I.2) (g_h (y_fresh G lo hi)).length (g_n (y_fresh G lo hi)) (tg, g_n G, 0) V →
          ∃ nu', RM B (nu', I.2) (gen_hav (y_lvset hh.1 (tg, g_n G, 0) lv) (y_fresh G lo hi) r).2 h ∧ (NH I G nu' (gen_hav (y_lvset hh.1 (tg, g_n G, 0) lv) (y_fresh G lo hi) r).2 ∧ (g_c (gen_hav (y_lvset hh.1 (tg, g_n G, 0) lv) (y_fresh G lo hi) r).2 = g_c G ∧ (KN (gen_hav (y_lvset hh.1 (tg, g_n G, 0) lv) (y_fresh G lo hi) r).1 ∧ LVM (nu', I.2) (g_h (gen_hav (y_lvset hh.1 (tg, g_n G, 0) lv) (y_fresh G lo hi) r).2).length (g_n (gen_hav (y_lvset hh.1 (tg, g_n G, 0) lv) (y_fresh G lo hi) r).2) (gen_hav (y_lvset hh.1 (tg, g_n G, 0) lv) (y_fresh G lo hi) r).1 L))) := by
        intro tg lo hi w V k1 hv hV
        obtain ⟨nu', q1, q2, q3, q4, q5⟩ := ih (I := (nset I.1 (g_n G) w, I.2)) (G := y_fresh G lo hi) (lv := y_lvset hh.1 (tg, g_n G, 0) lv) d2 (rm_nk hR k1) (set_kn hK) (fun i s hs hne => by
          rcases set_find hs with ⟨e1, e2, -⟩ | ⟨e1, e2⟩
          · rw [e1, e2]
            exact ⟨V, hv, hV⟩
          · obtain ⟨v, v1, v2⟩ := h1 i s e2 (fun p hp => by
              rcases List.mem_cons.mp hp with rfl | hp
              · exact fun e => e1 e.symm
              · exact hne p hp)
            exact ⟨v, v1, sv_nh v2 (nh_nk k1)⟩) (fun p hp s hs => by
          rcases set_find hs with ⟨e1, -, t, e2⟩ | ⟨e1, e2⟩
          · exact h2 p (List.mem_cons_of_mem _ hp) t e2
          · exact h2 p (List.mem_cons_of_mem _ hp) s e2)
        exact ⟨nu', q1, nh_trans (nh_nk k1) q2, q3, q4, q5⟩
      rcases h2 hh List.mem_cons_self s0 hs0 with ⟨e0, X, x1, x2, x3⟩ | ⟨e0, X, x1⟩
      · rw [e0, Nat.beq_refl, cond_true]
        exact step (nk_fresh hR.1 x2 x3) x1 (sv_of_int ⟨rfl, fun _ => Nat.lt_succ_self _, (nset_at _ _ _).symm⟩)
      · have e1 : Nat.beq hh.2.1 0 = false := by
          cases e1 : Nat.beq hh.2.1 0
          · rfl
          · exact absurd (beqt e1) e0
        rw [e1, cond_false]
        have := l2n_lt X
        exact step (nk_fresh (w := l2n X) hR.1 (Nat.zero_le _) (by omega)) x1 (sv_of_long ⟨rfl, fun _ => Nat.lt_succ_self _, (nset_at _ _ _).symm⟩)
theorem gen_cells_ok : ∀ {hc : List (Nat × Nat × Nat × Nat)} {I : IN} {G : SG}, RM B I G h → (∀ hh, hh ∈ hc → ∃ X, PlV I (g_n G) h (h_place hh.1 hh.2.1 lv) (.int X) ∧ (hh.2.2.1 ≤ i2n X ∧ i2n X ≤ hh.2.2.2)) → ∃ nu', RM B (nu', I.2) (gen_cells lv G hc) h ∧ NH I G nu' (gen_cells lv G hc) := by
  intro hc
  induction hc with
  | nil => intro I G hR _; exact ⟨I.1, hR, nh_refl I G⟩
  | cons hh r ih =>
    intro I G hR hp
    obtain ⟨X, p1, p2, p3⟩ := hp hh List.mem_cons_self
    have k1 := nk_fresh (lo := hh.2.2.1) (hi := hh.2.2.2) (w := i2n X) hR.1 p2 p3
    have hR1 := rm_nk hR k1
    obtain ⟨a1, a2, a3, a4, a5, a, b, a6, a7, a8⟩ := plv_ag p1 k1.2.2.1 k1.2.1
    have hV : SVm (nset I.1 (g_n G) (i2n X), I.2) (g_h (y_fresh G hh.2.2.1 hh.2.2.2)).length (g_n (y_fresh G hh.2.2.1 hh.2.2.2)) (1, g_n G, 0) (.int X) := sv_of_int ⟨rfl, fun _ => Nat.lt_succ_self _, (nset_at _ _ _).symm⟩
    have hR2 := rm_cell hR1 (cell_mk a1 a2 a3 a5 a6 a7 a8 hV)
    rw [gen_cells]
    obtain ⟨nu', q1, q2⟩ := ih (I := (nset I.1 (g_n G) (i2n X), I.2)) hR2 (fun p hp' => by
      obtain ⟨Y, y1, y2⟩ := hp p (List.mem_cons_of_mem _ hp')
      exact ⟨Y, plv_ag y1 k1.2.2.1 k1.2.1, y2⟩)
    exact ⟨nu', q1, nh_trans (nh_put (nh_nk k1)) q2⟩
theorem rf_c {r : RF} {hc : List (Nat × Nat × Nat × Nat)} {c0 : List SV} {res : Option SV} (e : g_c G' = g_c G) : rf_val r lv lv0 G' hc c0 res = rf_val r lv lv0 G hc c0 res := by
  unfold rf_val y_find
  rw [e]
theorem add_rel_ok {hc : List (Nat × Nat × Nat × Nat)} {c0 : List SV} {res : Option SV} : ∀ {l : List (RF × RF × Nat)} {G W : SG}, GK I.1 G → add_rel lv lv0 G hc c0 res l = some W → (∀ q, q ∈ l → ∀ x y, rf_val q.1 lv lv0 G hc c0 res = some x → rf_val q.2.1 lv lv0 G hc c0 res = some y → intL x = true → intL y = true → okn (g_n G) x ∧ (okn (g_n G) y ∧ sval I.1 x + q.2.2 ≤ sval I.1 y)) → NK I.1 G I.1 W := by
  intro l
  induction l with
  | nil =>
    intro G W hg hs _
    cases hs
    exact nk_refl hg
  | cons q r ih =>
    intro G W hg hs hp
    rw [add_rel] at hs
    split at hs
    · rename_i x y hx hy
      replace hs := bif_some hs
      obtain ⟨f1, hs⟩ := hs
      obtain ⟨f1, f2⟩ := and2 f1
      split at hs
      · rename_i G2 h2
        obtain ⟨o1, o2, o3⟩ := hp q List.mem_cons_self x y hx hy f1 f2
        have k1 := y_fact_some hg o1 o2 o3 h2
        have ec : g_c G2 = g_c G := k1.2.2.2.2.2.2.1
        refine nk_trans k1 (ih k1.1 hs fun p hp' x' y' hx' hy' i1 i2 => ?_)
        rw [rf_c ec] at hx' hy'
        obtain ⟨u1, u2, u3⟩ := hp p (List.mem_cons_of_mem _ hp') x' y' hx' hy' i1 i2
        exact ⟨okn_nk u1 k1, okn_nk u2 k1, u3⟩
      · cases hs
    · cases hs
/-- what a certificate's name is worth -/
noncomputable def vnum (v : Value) : Nat := match v with
  | .int x => i2n x
  | .long x => l2n x
  | _ => 0
noncomputable def RW (I : IN) (m : Nat) (h : AH) (L : LV) (lv0 : SLV) (hc : List (Nat × Nat × Nat × Nat)) (c0 : List SV) (wr : Nat) (r : RF) (w : Nat) : Prop :=
  (r.1 = 0 ∧ ∃ v, lv_get r.2 L = some v ∧ w = vnum v) ∨ (r.1 = 1 ∧ ∃ s, s_find r.2 lv0 = some s ∧ w = sval I.1 s) ∨
  (r.1 = 2 ∧ ∃ hh V, hc[r.2]? = some hh ∧ (PlV I m h (h_place hh.1 hh.2.1 lv0) V ∧ w = vnum V)) ∨ (r.1 = 3 ∧ ∃ s, c0[r.2]? = some s ∧ w = sval I.1 s) ∨ (r.1 = 4 ∧ w = wr) ∨ (r.1 = 5 ∧ w = r.2)
theorem plv_fun {p : Nat × SV × SV} {V V' : Value} (h1 : PlV I m h p V) (h2 : PlV I m h p V') : V = V' := by
  obtain ⟨-, -, -, -, -, a, b, a1, a2, a3⟩ := h1
  obtain ⟨-, -, -, -, -, a', b', b1, b2, b3⟩ := h2
  have e1 : a = a' := by omega
  have e2 : b = b' := by omega
  subst e1; subst e2
  exact at_fun a3 b3
theorem rw_fun {hc : List (Nat × Nat × Nat × Nat)} {c0 : List SV} {wr w w' : Nat} {r : RF} (h1 : RW I m h L lv0 hc c0 wr r w) (h2 : RW I m h L lv0 hc c0 wr r w') : w = w' := by
  rcases h1 with ⟨k1, v, a1, a2⟩ | ⟨k1, v, a1, a2⟩ | ⟨k1, v, V, a1, a2, a3⟩ | ⟨k1, v, a1, a2⟩ | ⟨k1, a2⟩ | ⟨k1, a2⟩ <;>
  rcases h2 with ⟨k2, u, b1, b2⟩ | ⟨k2, u, b1, b2⟩ | ⟨k2, u, U, b1, b2, b3⟩ | ⟨k2, u, b1, b2⟩ | ⟨k2, b2⟩ | ⟨k2, b2⟩ <;>
  first
  | (exfalso; omega)
  | (rw [a1] at b1; cases b1; rw [a2, b2])
  | (rw [a1] at b1; cases b1; rw [plv_fun a2 b2] at a3; rw [a3, b3])
  | (rw [a2, b2])
theorem int_num {x : SV} (hs : SVm I n m x v) (hi : intL x = true) : okn m x ∧ sval I.1 x = vnum v := by
  have h3 : x.1 ≤ 3 := blet hi
  rcases hs with ⟨a, b, x, rfl, d⟩ | ⟨a, b, x, rfl, d⟩ | ⟨a, -⟩ | ⟨a, -⟩ | ⟨a, -⟩
  · exact ⟨b, d.symm⟩
  · exact ⟨b, d.symm⟩
  · omega
  · omega
  · have := tag_T a; omega
theorem place_okn {mb nb : Nat} (hL0 : ∀ i s, s_find i lv0 = some s → okS nb mb s) (m f : Nat) : okn mb (h_place m f lv0).2.1 ∧ okn mb (h_place m f lv0).2.2 := by
  unfold h_place
  cases Nat.beq m 2
  · cases Nat.beq m 0
    · rw [cond_false, cond_false]
      split
      · rename_i v hv
        refine ⟨?_, sk_okn⟩
        have ho := hL0 0 v hv
        by_cases e : 6 ≤ v.1
        · exact (ho.2.2 e).1
        · intro hn
          unfold y_idx at hn
          cases e6 : Nat.beq v.1 6
          · rw [e6, cond_false] at hn
            exact Bool.noConfusion hn
          · have := beqt e6
            omega
      · exact ⟨sk_okn, sk_okn⟩
    · exact ⟨sk_okn, sk_okn⟩
  · exact ⟨sk_okn, fun hn => Bool.noConfusion hn⟩
theorem cell_pl {m f : Nat} {x : SV} (hR : RM B I G h) (hm2 : m ≤ 1) (hf : y_find G (h_place m f lv0).1 (h_place m f lv0).2.1 (h_place m f lv0).2.2 = some x) : isI (h_place m f lv0).2.1 = true → ∃ V, PlV I (g_n G) h (h_place m f lv0) V ∧ SVm I (g_h G).length (g_n G) x V := by
  intro hi
  have ij : isI (h_place m f lv0).2.2 = true := by
    unfold h_place
    have m2 : Nat.beq m 2 = false := by
      cases m2 : Nat.beq m 2
      · rfl
      · have := beqt m2; omega
    rw [m2, cond_false]
    cases Nat.beq m 0
    · rw [cond_false]
      split <;> rfl
    · rfl
  obtain ⟨c1, c2, c3, c4⟩ := hR.2.2.2.2.2.1 _ (c_find_ok hf)
  rcases c4 with ⟨d1, i, j, V, d2, d3, d4, d5⟩ | ⟨d1, -⟩ | ⟨d1, -⟩ | ⟨d1, -⟩
  · exact ⟨V, ⟨c3, c1, c2, hi, ij, i, j, d2, d3, d4⟩, d5⟩
  · exact absurd d1 (isI_8 ij).1
  · exact absurd d1 (isI_8 ij).2
  · exact absurd d1 (isI_10 ij)
theorem place_I (m f : Nat) (lv0 : SLV) : isI (h_place m f lv0).2.1 = true := by
  unfold h_place
  cases Nat.beq m 2
  · cases Nat.beq m 0
    · rw [cond_false, cond_false]
      split
      · exact idx_I _
      · rfl
    · rfl
  · rfl
theorem plv_down {Ib : IN} {mb : Nat} {p : Nat × SV × SV} {V : Value} (hp : PlV I m h p V) (o1 : okn mb p.2.1) (o2 : okn mb p.2.2) (hu : Ag mb Ib.1 I.1) (ha : I.2.2 = Ib.2.2) : PlV Ib mb h p V := by
  obtain ⟨p1, -, -, p4, p5, a, b, p6, p7, p8⟩ := hp
  rw [sval_ag o1 hu] at p6
  rw [sval_ag o2 hu] at p7
  rw [ha] at p8
  exact ⟨p1, o1, o2, p4, p5, a, b, p6, p7, p8⟩
theorem rf_rw {Ib : IN} {mb nb wr : Nat} {hc : List (Nat × Nat × Nat × Nat)} {c0 : List SV} {res : Option SV} {r : RF} {x : SV} (hm : ∀ hh, hh ∈ hc → hh.1 ≤ 1) (hR : RM B I G h) (hL : LVM I (g_h G).length (g_n G) lv L) (hL0 : ∀ i s, s_find i lv0 = some s → okS nb mb s) (hc0 : ∀ s, s ∈ c0 → okn mb s) (hu : Ag mb Ib.1 I.1) (hmb : mb ≤ g_n G) (ha : I.2.2 = Ib.2.2)
    (h4 : ∀ s, res = some s → intL s = true → okn (g_n G) s ∧ sval I.1 s = wr) (hx : rf_val r lv lv0 G hc c0 res = some x) (hi : intL x = true) : okn (g_n G) x ∧ RW Ib mb h L lv0 hc c0 wr r (sval I.1 x) := by
  unfold rf_val at hx
  cases k0 : Nat.beq r.1 0
  · rw [k0, cond_false] at hx
    cases k1 : Nat.beq r.1 1
    · rw [k1, cond_false] at hx
      cases k2 : Nat.beq r.1 2
      · rw [k2, cond_false] at hx
        cases k3 : Nat.beq r.1 3
        · rw [k3, cond_false] at hx
          cases k4 : Nat.beq r.1 4
          · rw [k4, cond_false] at hx
            replace hx := bif_some hx
            obtain ⟨k5, hx⟩ := hx
            cases hx
            exact ⟨sk_okn, Or.inr (Or.inr (Or.inr (Or.inr (Or.inr ⟨beqt k5, rfl⟩))))⟩
          · rw [k4, cond_true] at hx
            obtain ⟨a1, a2⟩ := h4 x hx hi
            exact ⟨a1, Or.inr (Or.inr (Or.inr (Or.inr (Or.inl ⟨beqt k4, a2⟩))))⟩
        · rw [k3, cond_true] at hx
          have o := hc0 x (List.mem_of_getElem? hx)
          exact ⟨okn_up o hmb, Or.inr (Or.inr (Or.inr (Or.inl ⟨beqt k3, x, hx, sval_ag o hu⟩)))⟩
      · rw [k2, cond_true] at hx
        split at hx
        · rename_i hh hhe
          dsimp only at hx
          obtain ⟨V, v1, v2⟩ := cell_pl hR (hm hh (List.mem_of_getElem? hhe)) hx (place_I _ _ _)
          obtain ⟨a1, a2⟩ := int_num v2 hi
          obtain ⟨o1, o2⟩ := place_okn hL0 hh.1 hh.2.1
          exact ⟨a1, Or.inr (Or.inr (Or.inl ⟨beqt k2, hh, V, hhe, plv_down v1 o1 o2 hu ha, a2⟩))⟩
        · cases hx
    · rw [k1, cond_true] at hx
      have o := (hL0 r.2 x hx).1 (blet hi)
      exact ⟨okn_up o hmb, Or.inr (Or.inl ⟨beqt k1, x, hx, sval_ag o hu⟩)⟩
  · rw [k0, cond_true] at hx
    obtain ⟨v, v1, v2⟩ := hL r.2 x hx
    obtain ⟨a1, a2⟩ := int_num v2 hi
    exact ⟨a1, Or.inl ⟨beqt k0, v, v1, a2⟩⟩
end
