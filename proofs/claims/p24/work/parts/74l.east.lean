/-! ===== stores into rows; new objects ===== -/
theorem qe_bif_b {c x : Bool} (h : (bif c then x else false) = true) : c = true ∧ x = true := by
  cases c
  · exact Bool.noConfusion h
  · exact ⟨rfl, h⟩
theorem qe_nmin_l (a b : Nat) : qe_nmin a b ≤ a := by
  unfold qe_nmin
  cases hb : Nat.ble a b
  · have := qe_blef hb; exact Nat.le_of_lt this
  · exact Nat.le_refl _
theorem qe_nmin_r (a b : Nat) : qe_nmin a b ≤ b := by
  unfold qe_nmin
  cases hb : Nat.ble a b
  · exact Nat.le_refl _
  · exact qe_blet hb
theorem qe_nmax_l (a b : Nat) : a ≤ qe_nmax a b := by
  unfold qe_nmax
  cases hb : Nat.ble a b
  · exact Nat.le_refl _
  · exact qe_blet hb
theorem qe_nmax_r (a b : Nat) : b ≤ qe_nmax a b := by
  unfold qe_nmax
  cases hb : Nat.ble a b
  · have := qe_blef hb; exact Nat.le_of_lt this
  · exact Nat.le_refl _
section
variable {A nu nu' : Nat → Nat} {base n m : Nat} {hb : (Nat → Option AO) × Nat} {G G' : qe_SG} {h h' : AH} {os : List qe_SOUT} {lv lv' : qe_SLV} {st st' r : List qe_SV} {L L' : LV} {S S' R : List Value} {c : Int} {a k kd i : Nat}
theorem qe_s_join_ok {u v w : qe_SV} (hg : qe_GK nu G) (hs : qe_s_join G u v = some w) : (∀ V, qe_SVm A nu n m u V → qe_SVm A nu n m w V) ∧ (∀ V, qe_SVm A nu n m v V → qe_SVm A nu n m w V) := by
  unfold qe_s_join at hs
  cases h1 : qe_veq u v && qe_fixd u
  · rw [h1, cond_false] at hs
    cases h2 : qe_isI u && qe_isI v
    · rw [h2, cond_false] at hs
      replace hs := qe_bif_some hs
      obtain ⟨h3, hs⟩ := hs
      obtain ⟨h4, h5⟩ := qe_and2 h3
      cases hs
      constructor
      · intro V hV
        obtain ⟨x, rfl⟩ := qe_sv_long hV h4
        exact .inr rfl
      · intro V hV
        obtain ⟨x, rfl⟩ := qe_sv_long hV h5
        exact .inr rfl
    · rw [h2, cond_true] at hs
      obtain ⟨h4, h5⟩ := qe_and2 h2
      cases hs
      constructor
      · intro V hV
        obtain ⟨x, rfl⟩ := qe_sv_int hV h4
        have b := qe_sv_itv hV hg.1
        exact .inl ⟨rfl, Nat.le_trans (qe_nmin_l _ _) b.1, Nat.le_trans b.2 (qe_nmax_l _ _)⟩
      · intro V hV
        obtain ⟨x, rfl⟩ := qe_sv_int hV h5
        have b := qe_sv_itv hV hg.1
        exact .inl ⟨rfl, Nat.le_trans (qe_nmin_r _ _) b.1, Nat.le_trans b.2 (qe_nmax_r _ _)⟩
  · rw [h1, cond_true] at hs
    have e := qe_veq_ok (qe_and2 h1).1
    cases hs
    subst e
    exact ⟨fun _ h => h, fun _ h => h⟩
theorem qe_s_joins_ok {w : qe_SV} (hg : qe_GK nu G) (l : List qe_SV) : ∀ (v : qe_SV), qe_s_joins G v l = some w → (∀ V, qe_SVm A nu n m v V → qe_SVm A nu n m w V) ∧ (∀ u, u ∈ l → ∀ V, qe_SVm A nu n m u V → qe_SVm A nu n m w V) := by
  induction l with
  | nil => intro v hs
           cases hs
           exact ⟨fun _ h => h, fun u hu => by cases hu⟩
  | cons x r ih =>
    intro v hs
    rw [qe_s_joins] at hs
    split at hs
    · rename_i y hy
      obtain ⟨j1, j2⟩ := qe_s_join_ok (A := A) (n := n) (m := m) hg hy
      obtain ⟨i1, i2⟩ := ih y hs
      refine ⟨fun V hV => i1 V (j1 V hV), fun u hu V hV => ?_⟩
      rcases List.mem_cons.mp hu with rfl | hu
      · exact i1 V (j2 V hV)
      · exact i2 u hu V hV
    · cases hs
theorem qe_stok_ok {v : qe_SV} {V : Value} (hR : qe_RM A nu base hb G h) (hv : qe_SVm A nu (qe_g_h G).length (qe_g_n G) v V) (hs : qe_s_stok a kd G v = true) : am_st a kd V h = true ∧ (20 ≤ kd ∧ kd ≤ 26) := by
  unfold qe_s_stok at hs
  cases hi : qe_isI v
  · rw [hi, cond_false] at hs
    cases hl : qe_isL v
    · rw [hl, cond_false] at hs
      cases h4 : Nat.beq v.1 4
      · rw [h4, cond_false] at hs
        replace hs := qe_bif_b hs
        obtain ⟨h5, hs⟩ := hs
        replace hs := qe_and2 hs
        obtain ⟨ha, hs⟩ := hs
        have := qe_beqt ha; subst this
        obtain ⟨rfl, -⟩ := qe_sv_obj hv h5
        split at hs
        · rename_i kv o hk
          obtain ⟨h6, h7⟩ := qe_and2 hs
          have hb := qe_blet h6
          obtain ⟨cc, vs, g1, g2, -, -⟩ := hR.2.1 _ _ hk
          have hc : cc = kv := qe_km_eq g2 (by omega)
          subst hc
          show (match am_get h (A v.2.1) with | some (kv, _) => decide (kv < 13) && (kd == 24 || ((kd == 25 && kv == 0) || (kd == 26 && kv == 9))) | none => false) = true ∧ _
          rw [show am_get h (A v.2.1) = some (cc, vs) from g1]
          show (decide (cc < 13) && (kd == 24 || ((kd == 25 && cc == 0) || (kd == 26 && cc == 9)))) = true ∧ _
          rw [decide_eq_true (show cc < 13 by omega), Bool.true_and]
          refine ⟨by rw [qe_nbeq, qe_nbeq, qe_nbeq, qe_nbeq, qe_nbeq]; exact h7, ?_⟩
          cases e24 : Nat.beq kd 24
          · rw [e24, Bool.false_or] at h7
            cases e25 : (Nat.beq kd 25 && Nat.beq cc 0)
            · rw [e25, Bool.false_or] at h7
              have := qe_beqt (qe_and2 h7).1; omega
            · have := qe_beqt (qe_and2 e25).1; omega
          · have := qe_beqt e24; omega
        · exact Bool.noConfusion hs
      · rw [h4, cond_true] at hs
        replace hs := qe_and2 hs
        obtain ⟨ha, hs⟩ := hs
        have := qe_beqt ha; subst this
        have := qe_sv_null hv (qe_beqt h4); subst this
        refine ⟨by show (kd == 24 || (kd == 25 || kd == 26)) = true; rw [qe_nbeq, qe_nbeq, qe_nbeq]; exact hs, ?_⟩
        cases e24 : Nat.beq kd 24
        · rw [e24, Bool.false_or] at hs
          cases e25 : Nat.beq kd 25
          · rw [e25, Bool.false_or] at hs
            have := qe_beqt hs; omega
          · have := qe_beqt e25; omega
        · have := qe_beqt e24; omega
    · rw [hl, cond_true] at hs
      replace hs := qe_and2 hs
      obtain ⟨ha, hs⟩ := hs
      have := qe_beqt ha; subst this
      have := qe_beqt hs; subst this
      obtain ⟨x, rfl⟩ := qe_sv_long hv hl
      exact ⟨rfl, by omega⟩
  · rw [hi, cond_true] at hs
    obtain ⟨x, rfl⟩ := qe_sv_int hv hi
    cases h0 : Nat.beq a 0
    · rw [h0, cond_false] at hs
      cases h2 : Nat.beq a 2
      · rw [h2, cond_false] at hs; exact Bool.noConfusion hs
      · rw [h2, cond_true] at hs
        have := qe_beqt h2; subst this
        obtain ⟨f1, f2⟩ := qe_and2 hs
        replace f2 := qe_and2 f2
        obtain ⟨f2, f3⟩ := f2
        have := qe_beqt f1; subst this
        have b := qe_sv_itv hv hR.1.1
        have b1 := qe_blet f2
        have b2 := qe_blet f3
        refine ⟨?_, by omega⟩
        have hx : x = 0 ∨ x = 1 := by
          have c1 : qe_i2n (1 : Int32) = 2147483649 := by decide +kernel
          by_cases e : qe_i2n x = 2147483648
          · exact .inl ((qe_i2n_zero x).1 e)
          · exact .inr (qe_i2n_inj (by omega))
        rcases hx with rfl | rfl <;> rfl
    · rw [h0, cond_true] at hs
      have := qe_beqt h0; subst this
      have := qe_beqt hs; subst this
      exact ⟨rfl, by omega⟩
theorem qe_S_ast_ok {σ : Nat → Nat} (hA : qe_AOK A σ base) (hR : qe_RM A nu base hb G h) (hL : qe_LVM A nu (qe_g_h G).length (qe_g_n G) lv L) (hS : qe_LM A nu (qe_g_h G).length (qe_g_n G) st S) (hs : qe_S_ast a lv st G = some os) : qe_Cc A nu base hb G h os (s_ast a L S h) := by
  unfold qe_S_ast at hs
  split at hs
  · rename_i v i x r
    obtain ⟨U, R, rfl, eu, e2⟩ := qe_lm_cons hS
    replace e2 := qe_lm_cons e2
    obtain ⟨W, R, rfl, e0, e2⟩ := e2
    replace e2 := qe_lm_cons e2
    obtain ⟨V, R, rfl, e1, e2⟩ := e2
    replace hs := qe_bif_some hs
    obtain ⟨ho, hs⟩ := hs
    obtain ⟨ho1, ho2⟩ := qe_and2 ho
    split at hs
    · rename_i kd o hk
      replace hs := qe_bif_some hs
      obtain ⟨hf, hs⟩ := hs
      obtain ⟨f1, f2⟩ := qe_and2 hf
      replace f2 := qe_and2 f2
      obtain ⟨f2, f3⟩ := f2
      obtain ⟨rfl, -⟩ := qe_sv_obj e1 ho2
      obtain ⟨j, rfl⟩ := qe_sv_int e0 ho1
      obtain ⟨c, vs, g1, g2, g3, g4⟩ := hR.2.1 _ _ hk
      obtain ⟨t1, t2, t3⟩ := qe_stok_ok hR eu f1
      have hc : c = kd := qe_km_eq g2 (by omega)
      subst hc
      have h7 : 7 ≤ x.2.1 := Nat.le_of_not_lt (fun h => by have := g4 h; dsimp only at this; omega)
      have b := qe_sv_itv e0 hR.1.1
      have b1 := qe_blet f2
      have b2 := qe_blet f3
      have hj := qe_j_of (j := j) (by omega)
      have hlen : vs.length = qe_so_len o := qe_cm_len g3
      unfold s_ast am_get
      dsimp only
      rw [g1]
      dsimp only
      have e : (am_st a c U h && (decide (¬ j < 0) && decide (j.toNatClampNeg < vs.length))) = true := by
        rw [t1, decide_eq_true hj.1, decide_eq_true (show j.toNatClampNeg < vs.length by rw [hj.2]; omega)]; rfl
      rw [if_pos e, hj.2]
      cases o with
      | inl q =>
        dsimp only at hs
        split at hs
        · rename_i w hw
          cases h1 : Nat.beq w.1 1
          · rw [h1, cond_false] at hs
            obtain ⟨j1, j2⟩ := qe_s_join_ok (A := A) (n := (qe_g_h G).length) (m := qe_g_n G) hR.1 hw
            refine qe_c_nx hs (qe_pn_set hA hR hL e2 hk h7 ⟨by rw [List.length_set]; exact g3.1, fun y hy => ?_⟩)
            rcases List.mem_or_eq_of_mem_set hy with hy | rfl
            · exact j1 _ (g3.2 _ hy)
            · exact j2 _ eu
          · rw [h1, cond_true] at hs; cases hs
        · cases hs
      | inr l =>
        dsimp only at hs
        cases hb : Nat.beq (qe_itv G i).1 (qe_itv G i).2
        · rw [hb, cond_false] at hs
          split at hs
          · rename_i w hw
            replace hs := qe_bif_some hs
            obtain ⟨-, hs⟩ := hs
            obtain ⟨j1, j2⟩ := qe_s_joins_ok (A := A) (n := (qe_g_h G).length) (m := qe_g_n G) hR.1 l v hw
            refine qe_c_nx hs (qe_pn_set hA hR hL e2 hk h7 ⟨by rw [List.length_set]; exact qe_lm_len g3, fun y hy => ?_⟩)
            rcases List.mem_or_eq_of_mem_set hy with hy | rfl
            · obtain ⟨s, s1, s2⟩ := qe_lm_mem g3 hy
              exact j2 s s1 _ s2
            · exact j1 _ eu
          · cases hs
        · rw [hb, cond_true] at hs
          have := qe_beqt hb
          rw [show (qe_itv G i).1 = qe_i2n j by omega] at hs
          exact qe_c_nx hs (qe_pn_set hA hR hL e2 hk h7 (qe_lm_set g3 eu))
    · cases hs
  · cases hs
theorem qe_pn_push {σ : Nat → Nat} {o : qe_SC} {vs : List Value} {u : Nat} (hA : qe_AOK A σ base) (hR : qe_RM A nu base hb G h) (hL : qe_LVM A nu (qe_g_h G).length (qe_g_n G) lv L) (hS : qe_LM A nu (qe_g_h G).length (qe_g_n G) st S)
    (ho : qe_CM A nu (qe_g_h G).length (qe_g_n G) o vs) : qe_PN A nu base hb G lv (qe_sref (qe_g_h G).length :: st) (qe_s_mk G (kd, o) u) nu L (.ref h.2.1 :: S) (am_push h (kd, vs) u) := by
  obtain ⟨r1, r2, r3, r4, r5⟩ := hR
  have hl2 : (G.1 ++ [(kd, o)]).length = (qe_g_h G).length + 1 := by rw [List.length_append]; rfl
  have hg : qe_Gr nu G nu (qe_s_mk G (kd, o) u) := ⟨fun _ _ => rfl, Nat.le_refl _, by
    show (qe_g_h G).length ≤ (G.1 ++ [(kd, o)]).length
    rw [hl2]; exact Nat.le_succ _⟩
  refine ⟨hg, ⟨r1, ?_, ?_⟩, qe_lvm_gr hg hL, ⟨rfl, ?_, ?_⟩, qe_lm_gr hg hS⟩
  · show qe_HM A _ (G.1 ++ [(kd, o)]).length (qe_g_n G) (G.1 ++ [(kd, o)]) _
    rw [hl2]
    exact qe_hm_push hA r2 (Nat.le_refl _) r3 r4 (qe_cm_more ho (Nat.le_succ _) (Nat.le_refl _) (fun _ _ => rfl))
  · show 7 ≤ (G.1 ++ [(kd, o)]).length ∧ (h.2.1 + 1 = base + ((G.1 ++ [(kd, o)]).length - 7) ∧ (h.2.2 + u = hb.2 + (qe_g_u G + u) ∧ _))
    rw [hl2, r5.1, r4]; exact ⟨by omega, by omega, by omega, fun q hq => (if_neg (by omega)).trans (r5.2 q hq)⟩
  · show (qe_g_h G).length < (G.1 ++ [(kd, o)]).length
    rw [hl2]; exact Nat.lt_succ_self _
  · show h.2.1 = A (qe_g_h G).length
    rw [hA.2.1 _ r3]; exact r4
end
