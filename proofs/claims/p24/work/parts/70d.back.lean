/-! ===== back at a loop's head ===== -/
theorem find_mem {i : Nat} {s : SV} : ∀ {l : SLV}, s_find i l = some s → (i, s) ∈ l := by
  intro l
  induction l with
  | nil => intro h; cases h
  | cons q r ih =>
    intro h
    by_cases e : q.1 = i
    · rw [s_find, e, Nat.beq_refl, cond_true] at h
      have : q = (i, s) := Prod.ext e (Option.some.inj h)
      rw [this]
      exact List.mem_cons_self
    · rw [s_miss e] at h
      exact List.mem_cons_of_mem _ (ih h)
theorem bk_lv_ok {hav : List (Nat × Nat × Nat × Nat)} {G : SG} {lv : SLV} : ∀ {lw : SLV}, bk_lv hav G lv lw = true → ∀ q, q ∈ lw → ∃ v, s_find q.1 lv = some v ∧ ((hv_find q.1 hav = none ∧ v = q.2) ∨ ∃ h, hv_find q.1 hav = some h ∧ ((h.1 = 0 ∧ (isI v = true ∧ y_fitI G v h.2.1 h.2.2 = true)) ∨ (h.1 ≠ 0 ∧ isL v = true))) := by
  intro lw
  induction lw with
  | nil => intro _ q h; cases h
  | cons p r ih =>
    intro h q hq
    rw [bk_lv] at h
    split at h
    · cases h
    · rename_i v hv
      obtain ⟨h1, h2⟩ := bifb h
      rcases List.mem_cons.mp hq with rfl | hq
      · refine ⟨v, hv, ?_⟩
        split at h1
        · rename_i hh hf
          refine Or.inr ⟨hh, hf, ?_⟩
          cases e0 : Nat.beq hh.1 0
          · rw [e0, cond_false] at h1
            exact Or.inr ⟨beqf e0, h1⟩
          · rw [e0, cond_true] at h1
            exact Or.inl ⟨beqt e0, and2 h1⟩
        · rename_i hf
          exact Or.inl ⟨hf, veq_ok h1⟩
      · exact ih h2 q hq
theorem hv_find_none {i : Nat} : ∀ {l : List (Nat × Nat × Nat × Nat)}, (∀ p, p ∈ l → p.1 ≠ i) → hv_find i l = none := by
  intro l
  induction l with
  | nil => intro _; rfl
  | cons q r ih =>
    intro h
    have h1 := h q List.mem_cons_self
    rw [hv_find]
    cases e : Nat.beq q.1 i
    · exact ih (fun p hp => h p (List.mem_cons_of_mem _ hp))
    · exact absurd (beqt e) h1
theorem hv_find_in {q : Nat × Nat × Nat × Nat} : ∀ {l : List (Nat × Nat × Nat × Nat)}, hv_dis l = true → q ∈ l → hv_find q.1 l = some q.2 := by
  intro l
  induction l with
  | nil => intro _ h; cases h
  | cons p r ih =>
    intro hd h
    obtain ⟨d1, d2⟩ := dis_head hd
    rw [hv_find]
    rcases List.mem_cons.mp h with rfl | h
    · rw [Nat.beq_refl]; rfl
    · have := d1 q h
      cases e : Nat.beq p.1 q.1
      · exact ih d2 h
      · exact absurd (beqt e).symm this
theorem bk_hc_ok {lv0 : SLV} {G : SG} : ∀ {hc : List (Nat × Nat × Nat × Nat)}, bk_hc lv0 G hc = true → ∀ hh, hh ∈ hc → ∃ v, y_find G (h_place hh.1 hh.2.1 lv0).1 (h_place hh.1 hh.2.1 lv0).2.1 (h_place hh.1 hh.2.1 lv0).2.2 = some v ∧ (isI v = true ∧ y_fitI G v hh.2.2.1 hh.2.2.2 = true) := by
  intro hc
  induction hc with
  | nil => intro _ hh h; cases h
  | cons p r ih =>
    intro h hh hm
    rw [bk_hc] at h
    split at h
    · cases h
    · rename_i v hv
      obtain ⟨h1, h2⟩ := bifb h
      rcases List.mem_cons.mp hm with rfl | hm
      · exact ⟨v, hv, and2 h1⟩
      · exact ih h2 hh hm
theorem set_other {i j : Nat} {v : SV} (hne : i ≠ j) : ∀ {l : SLV}, s_find i (y_lvset j v l) = s_find i l := by
  intro l
  induction l with
  | nil => rfl
  | cons q r ih =>
    rw [y_lvset]
    cases hb : Nat.beq q.1 j
    · rw [cond_false]
      by_cases e : q.1 = i
      · rw [s_find, s_find, e]
        cases Nat.beq i i
        · exact ih
        · rfl
      · rw [s_miss e, s_miss e, ih]
    · rw [cond_true]
      have := beqt hb
      rw [s_miss (q := (j, v)) (fun e => hne e.symm), s_miss (q := q) (by omega)]
theorem set_some {i j : Nat} {v s : SV} : ∀ {l : SLV}, s_find i l = some s → ∃ t, s_find i (y_lvset j v l) = some t := by
  intro l hs
  by_cases e : i = j
  · subst e
    induction l with
    | nil => cases hs
    | cons q r ih =>
      rw [y_lvset]
      cases hb : Nat.beq q.1 i
      · rw [cond_false, s_miss (beqf hb)]
        rw [s_miss (beqf hb)] at hs
        exact ih hs
      · rw [cond_true]
        exact ⟨v, s_hit _ _ _⟩
  · rw [set_other e]
    exact ⟨s, hs⟩
theorem hav_other {i : Nat} : ∀ {hav : List (Nat × Nat × Nat × Nat)} {G : SG} {lv : SLV}, (∀ hh, hh ∈ hav → hh.1 ≠ i) → s_find i (gen_hav lv G hav).1 = s_find i lv := by
  intro hav
  induction hav with
  | nil => intro G lv _; rfl
  | cons p r ih =>
    intro G lv h
    have h1 := h p List.mem_cons_self
    have h2 := fun hh (hm : hh ∈ r) => h hh (List.mem_cons_of_mem _ hm)
    rw [gen_hav]
    split
    · exact ih h2
    · cases Nat.beq p.2.1 0
      · rw [cond_false, ih h2, set_other (fun e => h1 e.symm)]
      · rw [cond_true, ih h2, set_other (fun e => h1 e.symm)]
theorem hav_some {i : Nat} : ∀ {hav : List (Nat × Nat × Nat × Nat)} {G : SG} {lv : SLV} {s : SV}, s_find i lv = some s → ∃ t, s_find i (gen_hav lv G hav).1 = some t := by
  intro hav
  induction hav with
  | nil => intro G lv s h; exact ⟨s, h⟩
  | cons p r ih =>
    intro G lv s h
    rw [gen_hav]
    split
    · exact ih h
    · cases Nat.beq p.2.1 0
      · rw [cond_false]
        obtain ⟨t, ht⟩ := set_some (j := p.1) (v := (3, g_n G, 0)) h
        exact ih ht
      · rw [cond_true]
        obtain ⟨t, ht⟩ := set_some (j := p.1) (v := (1, g_n G, 0)) h
        exact ih ht
section
variable {B : BS} {I I' : IN} {n m n' m' : Nat} {G G' : SG} {h h' h0 h1 : AH} {lv lv' lv0 : SLV} {L L' L1 : LV} {c : Int} {a k kd i f : Nat} {s : SV} {v : Value}
/-- the loop's state, some times round -/
noncomputable def LI (B : BS) (Ib : IN) (Lc : LC) (lv : SLV) (G0 W : SG) (IW : IN) (h : AH) (L : LV) : Prop := RM B IW W h ∧ (NH Ib (l_bs Lc lv G0) IW.1 W ∧ (IW.2.1 = Ib.2.1 ∧ ((∀ c i q, c < 1000 → Ib.2.2 c i = some q → IW.2.2 c i = some q) ∧ (KN (l_A Lc lv G0).1 ∧ LVM IW (g_h W).length (g_n W) (l_A Lc lv G0).1 L))))
theorem li_gr {Ib IW : IN} {Lc : LC} {G0 W : SG} (hl : LI B Ib Lc lv G0 W IW h L) : Gr Ib G0 IW W := by
  obtain ⟨-, k, e, d, -⟩ := hl
  refine ⟨k.1, k.2.1, fun i _ => by rw [e], Nat.le_of_eq (by rw [k.2.2.1]; rfl), d⟩
theorem back_ok {Ib IW : IN} {Lc : LC} {c0 : List SV} {G0 W : SG} (hl : LB Lc lv c0 G0 W) (hb0 : RM B Ib (l_bs Lc lv G0) h0) (hi : LI B Ib Lc lv G0 W IW h1 L1) (hg : Gr IW W I' G') (hR : RM B I' G' h') (hL : LVM I' (g_h G').length (g_n G') lv' L') (hbk : y_back (Lc.1, Lc, (l_A Lc lv G0).1, W, lv, c0) lv' G' = true) (hms : Lc.2.2.2.2.2.2.2 ≠ 2) :
    ∃ nu', LI B Ib Lc lv G0 W (nu', Ib.2.1, I'.2.2) h' L' ∧ ∃ x, rf_val Lc.2.2.2.2.2.2.1 (l_A Lc lv G0).1 lv W Lc.2.2.2.2.1 c0 none = some x ∧ ((Lc.2.2.2.2.2.2.2 = 1 ∧ sval IW.1 x + 1 ≤ sval nu' x) ∨ (Lc.2.2.2.2.2.2.2 ≠ 1 ∧ sval nu' x + 1 ≤ sval IW.1 x)) := by
  have hl0 := hl
  obtain ⟨b1, b2, b3, b4, b5, b6⟩ := hl0
  obtain ⟨iR, iK, iE, iD, iKN, iL⟩ := hi
  have hRc := y_close_ok hR
  have hLc : LVM I' (g_h (y_close G')).length (g_n (y_close G')) lv' L' := hL
  unfold y_back at hbk
  dsimp only at hbk
  have m2 : Nat.beq Lc.2.2.2.2.2.2.2 2 = false := by
    cases m2 : Nat.beq Lc.2.2.2.2.2.2.2 2
    · rfl
    · exact absurd (beqt m2) hms
  rw [m2, cond_false] at hbk
  obtain ⟨g1, hbk⟩ := bifb hbk
  obtain ⟨g2, hbk⟩ := bifb hbk
  obtain ⟨u1, g1⟩ := and2 g1
  obtain ⟨u2, g1⟩ := and2 g1
  obtain ⟨u3, g1⟩ := and2 g1
  obtain ⟨u4, u5⟩ := and2 g1
  obtain ⟨v1, g2⟩ := and2 g2
  obtain ⟨v2, g2⟩ := and2 g2
  obtain ⟨v3, g2⟩ := and2 g2
  obtain ⟨v4, v5⟩ := and2 g2
  have u1 := h_eq_ok u1
  have u2 := beqt u2
  have u3 := beqt u3
  have u4 := x_eq_ok u4
  have u5 := beqt u5
  generalize hGc : y_close G' = Gc at *
  have hgW : Gr IW W I' Gc := by rw [← hGc]; exact gr_trans hg gr_close
  obtain ⟨k1, k2, k3, k4, k5, k6, k7, k8⟩ := iK
  have agN : Ag (g_n G0) Ib.1 I'.1 := fun i hi => (hgW.1 i (Nat.lt_of_lt_of_le hi k2)).trans (k1 i hi)
  have lenW : (g_h W).length = (g_h G0).length := by rw [k3]; rfl
  have agH : Ag (g_h G0).length Ib.2.1 I'.2.1 := fun i hi => (hgW.2.2.1 i (by rw [lenW]; exact hi)).trans (by rw [iE])
  have hmode : ∀ hh : Nat × Nat × Nat × Nat, hh ∈ Lc.2.2.2.2.1 → hh.1 ≤ 1 := fun hh hm => (b2 hh hm).1
  -- the base's cells still hold
  have hcell : ∀ x, x ∈ g_c (l_bs Lc lv G0) → CellOK2 I' (g_h Gc).length (g_n Gc) h' x := by
    intro x hx
    have hW : x ∈ g_c W := by
      rw [rel_c b6]
      refine cells_sub ?_
      have : g_c (l_A Lc lv G0).2 = g_c (l_bs Lc lv G0) := by
        have key : ∀ {hav : List (Nat × Nat × Nat × Nat)} {G : SG} {lv : SLV}, g_c (gen_hav lv G hav).2 = g_c G := by
          intro hav
          induction hav with
          | nil => intro G lv; rfl
          | cons p r ih =>
            intro G lv
            rw [gen_hav]
            split
            · exact ih
            · cases Nat.beq p.2.1 0
              · rw [cond_false, ih]; rfl
              · rw [cond_true, ih]; rfl
        exact key
      rw [this]
      exact hx
    obtain ⟨x1, x2⟩ := c_kill_mem hx
    rcases bk_c_ok v3 x hW with e | ⟨e1, e2⟩ | ⟨e1, e2⟩
    · exact hRc.2.2.2.2.2.1 x e
    · exact absurd (List.mem_append_right _ e2) (x2.1 e1).1
    · exfalso
      obtain ⟨hh, hm, he⟩ := List.mem_map.mp e2
      have := (b2 hh hm).2
      rw [he] at this
      omega
  have hRb : RM B (Ib.1, Ib.2.1, I'.2.2) (l_bs Lc lv G0) h' := by
    refine rm_down hb0 hRc agN agH (u1.trans k3) (u2.trans k4) (u3.trans k5) (u4.trans k6) (u5.trans k8) (fun x hx => ?_) hcell
    have := k_sub_ok v4 x hx
    rw [k7] at this
    exact this
  have hck : ∀ r x, rf_val r lv' lv Gc Lc.2.2.2.2.1 c0 none = some x → intL x = true → okn (g_n Gc) x ∧ RW (Ib.1, Ib.2.1, I'.2.2) (g_n G0) h' L' lv Lc.2.2.2.2.1 c0 0 r (sval I'.1 x) := by
    intro r x hx ix
    exact rf_rw (Ib := (Ib.1, Ib.2.1, I'.2.2)) (mb := g_n G0) (nb := (g_h G0).length) (wr := 0) hmode hRc hLc b4 b5 agN (Nat.le_trans k2 hgW.2.1) rfl (fun s hs _ => by cases hs) hx ix
  have hLH : LH B (Ib.1, Ib.2.1, I'.2.2) Lc lv c0 G0 h' L' := by
    refine ⟨hRb, fun i s hs hne => ?_, fun hh hm s hs => ?_, fun hh hm => ?_, fun q hq => ?_⟩
    · have e1 : s_find i (l_A Lc lv G0).1 = some s := (hav_other hne).trans hs
      obtain ⟨t, t1, t2⟩ := bk_lv_ok v1 _ (find_mem e1)
      have ht : t = s := by
        rcases t2 with ⟨-, t2⟩ | ⟨p, t2, -⟩
        · exact t2
        · rw [hv_find_none hne] at t2; cases t2
      subst ht
      obtain ⟨V, w1, w2⟩ := hLc i t t1
      exact ⟨V, w1, sv_down w2 (b4 i t (drop_find b3 hs)) agN agH⟩
    · obtain ⟨s', e1⟩ := hav_some (hav := Lc.2.1) (G := l_bs Lc lv G0) hs
      obtain ⟨t, t1, t2⟩ := bk_lv_ok v1 _ (find_mem e1)
      obtain ⟨V, w1, w2⟩ := hLc hh.1 t t1
      rcases t2 with ⟨t2, -⟩ | ⟨p, t2, t3⟩
      · rw [hv_find_in b1 hm] at t2; cases t2
      · rw [hv_find_in b1 hm] at t2
        cases t2
        rcases t3 with ⟨t3, t4, t5⟩ | ⟨t3, t4⟩
        · obtain ⟨X, rfl, hX⟩ := sv_int w2 t4
          exact Or.inl ⟨t3, X, w1, fit_ok hRc.1 hX t5⟩
        · obtain ⟨X, rfl, hX⟩ := sv_long w2 t4
          exact Or.inr ⟨t3, X, w1⟩
    · obtain ⟨v, w1, w2, w3⟩ := bk_hc_ok v2 hh hm
      obtain ⟨V, p1, p2⟩ := cell_pl hRc (hmode hh hm) w1 (place_I _ _ _)
      obtain ⟨X, rfl, hX⟩ := sv_int p2 w2
      obtain ⟨o1, o2⟩ := place_okn b4 hh.1 hh.2.1
      exact ⟨X, plv_down (Ib := (Ib.1, Ib.2.1, I'.2.2)) p1 o1 o2 agN rfl, fit_ok hRc.1 hX w3⟩
    · obtain ⟨x, y, hx, hy, ix, iy, hle⟩ := ck_rel_ok v5 q hq
      obtain ⟨x1, x2⟩ := hck _ x hx ix
      obtain ⟨y1, y2⟩ := hck _ y hy iy
      exact ⟨_, _, x2, y2, y_le_ok hRc.1 x1 y1 hle⟩
  obtain ⟨nu', n1, n2, n3, n4⟩ := gen_ok hl hLH
  have n2' : NH Ib (l_bs Lc lv G0) nu' W := n2
  refine ⟨nu', ⟨n1, n2', rfl, fun c i q hc hq => hgW.2.2.2.2 c i q hc (iD c i q hc hq), n3, n4⟩, ?_⟩
  split at hbk
  · rename_i x y hx hy
    obtain ⟨c1, c2⟩ := bifb hbk
    obtain ⟨c3, c4⟩ := and2 c1
    obtain ⟨c5, c6⟩ := and2 c4
    have ix : intL x = true := Nat.ble_eq_true_of_le (by have := tag_I c5; omega)
    have iy : intL y = true := Nat.ble_eq_true_of_le (by have := tag_I c6; omega)
    obtain ⟨y1, y2⟩ := hck _ y hy iy
    -- the measure at this round's start
    have jW := rf_rw (I := IW) (Ib := (Ib.1, Ib.2.1, IW.2.2)) (mb := g_n G0) (nb := (g_h G0).length) (wr := 0) hmode iR iL b4 b5 k1 k2 rfl (fun s hs _ => by cases hs) hx ix
    have ox : okn (g_n Gc) x := okn_up jW.1 hgW.2.1
    have ex : sval I'.1 x = sval IW.1 x := sval_ag jW.1 hgW.1
    -- and at the next one's
    have jN := rf_rw (I := (nu', Ib.2.1, I'.2.2)) (Ib := (Ib.1, Ib.2.1, I'.2.2)) (mb := g_n G0) (nb := (g_h G0).length) (wr := 0) hmode n1 n4 b4 b5 n2.1 n2.2.1 rfl (fun s hs _ => by cases hs) hx ix
    have ey : sval nu' x = sval I'.1 y := rw_fun jN.2 y2
    refine ⟨x, hx, ?_⟩
    cases m1 : Nat.beq Lc.2.2.2.2.2.2.2 1
    · rw [m1, cond_false] at c2
      have := y_le_ok hRc.1 y1 ox c2
      exact Or.inr ⟨beqf m1, by omega⟩
    · rw [m1, cond_true] at c2
      have := y_le_ok hRc.1 ox y1 c2
      exact Or.inl ⟨beqt m1, by omega⟩
  · cases hbk
end
