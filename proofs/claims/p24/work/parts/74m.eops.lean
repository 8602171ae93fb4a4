/-! ===== calls, ends, the stack, references, switches ===== -/
theorem qe_ck_sp : specs.all (fun s => s.2.2.all (fun t => !(Nat.beq t.1 31) && Nat.ble t.2 998) && (!(s.2.2.any (fun t => Nat.beq t.2 8)) || (Nat.beq s.1 0 && Nat.beq s.2.1 0))) = true := by decide +kernel
theorem qe_stk0 (L : LV) (V : Value) (R : List Value) (h : AH) : s_stk 0 L (V :: R) h = if V.category = 1 then nx L (V :: V :: R) h else none := rfl
theorem qe_stk1 (L : LV) (V : Value) (R : List Value) (h : AH) : s_stk 1 L (V :: R) h = if V.category = 1 then nx L R h else none := rfl
theorem qe_stk2 (L : LV) (V U : Value) (R : List Value) (h : AH) : s_stk 2 L (V :: U :: R) h = if V.category = 1 ∧ U.category = 1 then nx L (V :: U :: V :: R) h else none := rfl
theorem qe_stk3 (L : LV) (V U : Value) (R : List Value) (h : AH) : s_stk 3 L (V :: U :: R) h = if V.category = 1 ∧ U.category = 1 then nx L (V :: U :: V :: U :: R) h else none := rfl
theorem qe_ret4 (x : Int32) : s_ret 4 [.int x] = if x = 0 ∨ x = 1 then some (.inr (.inr (some (.int x)))) else none := rfl
theorem qe_acmp0 {c : Int} {L : LV} {V U : Value} {R : List Value} {h : AH} {x y : Option Nat} (h1 : am_rf V = some y) (h2 : am_rf U = some x) : s_acmp 0 c L (V :: U :: R) h = if x = y then jp c L R h else nx L R h := by
  have e : s_acmp 0 c L (V :: U :: R) h = (match am_rf V, am_rf U with | some y, some x => (if x = y then jp c L R h else nx L R h) | _, _ => none) := rfl
  rw [e, h1, h2]
theorem qe_acmp1 {c : Int} {L : LV} {V U : Value} {R : List Value} {h : AH} {x y : Option Nat} (h1 : am_rf V = some y) (h2 : am_rf U = some x) : s_acmp 1 c L (V :: U :: R) h = if x = y then nx L R h else jp c L R h := by
  have e : s_acmp 1 c L (V :: U :: R) h = (match am_rf V, am_rf U with | some y, some x => (if x = y then nx L R h else jp c L R h) | _, _ => none) := rfl
  rw [e, h1, h2]
theorem qe_law_l1 : Nat.ble 1 (mL 286) = true := by decide +kernel
theorem qe_spec_31 (i : Nat) : ∀ t, t ∈ (spec i).2.2 → t.1 ≠ 31 ∧ (t.2 ≠ 999 ∧ (t.2 = 8 → (spec i).1 = 0 ∧ (spec i).2.1 = 0)) := by
  intro t ht
  unfold spec at ht ⊢
  by_cases hi : i < specs.length
  · rw [List.getD_eq_getElem?_getD, List.getElem?_eq_getElem hi, Option.getD_some] at ht ⊢
    have h0 := List.all_eq_true.mp qe_ck_sp _ (List.getElem_mem hi)
    obtain ⟨h1, h3⟩ := qe_and2 h0
    have h2 := qe_and2 (List.all_eq_true.mp h1 t ht)
    refine ⟨fun e => ?_, fun e => ?_, fun e => ?_⟩
    · have h4 := h2.1
      rw [e] at h4
      exact Bool.noConfusion h4
    · have h4 := qe_blet h2.2
      omega
    · have h4 : specs[i].2.2.any (fun t => Nat.beq t.2 8) = true := List.any_eq_true.mpr ⟨t, ht, by rw [e]; rfl⟩
      rw [h4, Bool.not_true, Bool.false_or] at h3
      obtain ⟨h5, h6⟩ := qe_and2 h3
      exact ⟨qe_beqt h5, qe_beqt h6⟩
  · rw [List.getD_eq_getElem?_getD, List.getElem?_eq_none (by omega)] at ht
    cases ht
section
variable {A nu nu' : Nat → Nat} {base n m : Nat} {hb : (Nat → Option AO) × Nat} {G G' : qe_SG} {h h' : AH} {os : List qe_SOUT} {lv lv' : qe_SLV} {st st' r : List qe_SV} {L L' : LV} {S S' R : List Value} {c : Int} {a k kd i : Nat}
theorem qe_lm_ok {l : List qe_SV} {vs : List Value} {M : Nat} (hl : qe_LM A nu n m l vs) (hs : qe_S_ok l M = true) : am_ok vs M = true := by
  unfold qe_S_ok at hs
  obtain ⟨h1, h2⟩ := qe_and2 hs
  unfold am_ok
  rw [decide_eq_true (show vs.length ≤ mL M by rw [qe_lm_len hl]; exact qe_blet h2), Bool.and_true]
  refine List.all_eq_true.mpr fun v hv => ?_
  obtain ⟨s, s1, s2⟩ := qe_lm_mem hl hv
  have h3 := List.all_eq_true.mp h1 s s1
  have h4 : qe_isL s = false := by
    unfold qe_s_okv at h3
    unfold qe_isL
    cases hi : qe_isI s
    · rw [hi, Bool.false_or] at h3
      unfold qe_isR at h3
      cases h5 : Nat.beq s.1 4
      · rw [h5, Bool.false_or] at h3
        rw [qe_beqt h3]; rfl
      · rw [qe_beqt h5]; rfl
    · have := qe_blet (show Nat.ble s.1 1 = true from hi)
      have h01 : s.1 = 0 ∨ s.1 = 1 := by omega
      rcases h01 with e | e <;> rw [e] <;> rfl
  have h5 := qe_sv_cat s2
  unfold qe_s_cat at h5
  rw [h4, cond_false] at h5
  rw [h5]; rfl
theorem qe_cc_call {M : Nat} {as r2 : List qe_SV} {As R2 : List Value} (hs : some [Sum.inr (Sum.inl (M, as, r2, G))] = some os) (hR : qe_RM A nu base hb G h) (h1 : qe_LM A nu (qe_g_h G).length (qe_g_n G) as As) (h2 : qe_LM A nu (qe_g_h G).length (qe_g_n G) r2 R2) (h3 : (M = 8 → As = []) ∧ M ≠ 999) : qe_Cc A nu base hb G h os (some (.inr (.inl (M, As, R2)))) := by
  rw [← Option.some.inj hs]
  exact ⟨_, List.mem_cons_self, nu, _, rfl, rfl, qe_gr_refl _ _, hR, h1, h2, h3⟩
theorem qe_S_call_ok (hR : qe_RM A nu base hb G h) (hS : qe_LM A nu (qe_g_h G).length (qe_g_n G) st S) (hs : qe_S_call i st G = some os) : qe_Cc A nu base hb G h os (s_call i S h) := by
  unfold qe_S_call at hs
  unfold s_call
  have h31 := qe_spec_31 i
  generalize spec i = sp at hs h31 ⊢
  obtain ⟨s1, s2, s3⟩ := sp
  dsimp only at hs h31 ⊢
  have hA1 := qe_lm_rev (qe_lm_take s2 hS)
  have hA2 := qe_lm_drop s2 hS
  have hz : s2 = 0 → (S.take s2).reverse = [] := fun e => by rw [e]; rfl
  generalize (st.take s2).reverse = as at hs hA1
  generalize st.drop s2 = r at hs hA2
  generalize (S.take s2).reverse = As at hA1 hz ⊢
  generalize S.drop s2 = Rr at hA2 ⊢
  replace hs := qe_bif_some hs
  obtain ⟨f0, hs⟩ := hs
  rw [if_pos ((qe_lm_len hA1).trans (qe_beqt f0))]
  cases e0 : Nat.beq s1 0
  · rw [e0, cond_false] at hs
    replace hs := qe_bif_some hs
    obtain ⟨e1, hs⟩ := hs
    have := qe_beqt e1; subst this
    try dsimp only
    split at hs
    · rename_i x r2
      obtain ⟨V, R2, rfl, g1, g2⟩ := qe_lm_cons hA2
      replace hs := qe_bif_some hs
      obtain ⟨ho, hs⟩ := hs
      obtain ⟨rfl, -⟩ := qe_sv_obj g1 ho
      split at hs
      · rename_i kd o hk
        obtain ⟨cc, vs, j1, j2, -, -⟩ := hR.2.1 _ _ hk
        split at hs
        · rename_i t ht
          replace hs := qe_bif_some hs
          obtain ⟨f1, hs⟩ := hs
          replace f1 := qe_and2 f1
          obtain ⟨f1, f2⟩ := f1
          have hkd : kd ≠ 31 := by
            intro e
            have h1 := List.mem_of_find?_eq_some ht
            have h2 := List.find?_some ht
            exact (h31 t h1).1 ((eq_of_beq h2 : t.1 = kd).trans e)
          have hc : cc = kd := qe_km_eq j2 hkd
          subst hc
          unfold am_get
          try dsimp only
          rw [j1]
          try dsimp only
          rw [ht]
          try dsimp only
          rw [if_pos ⟨by rw [qe_lm_w g2]; exact qe_blet f1, qe_lm_ok (l := x :: as) ⟨g1, hA1⟩ f2⟩]
          have hm := (h31 t (List.mem_of_find?_eq_some ht)).2
          exact qe_cc_call hs hR ⟨g1, hA1⟩ g2 ⟨fun e => absurd (hm.2 e).1 (by omega), hm.1⟩
        · cases hs
      · cases hs
    · cases hs
  · rw [e0, cond_true] at hs
    have := qe_beqt e0; subst this
    try dsimp only
    split at hs
    · rename_i t
      replace hs := qe_bif_some hs
      obtain ⟨f1, hs⟩ := hs
      replace f1 := qe_and2 f1
      obtain ⟨f1, f2⟩ := f1
      obtain ⟨t1, t2⟩ := t
      try dsimp only
      rw [if_pos ⟨by rw [qe_lm_w hA2]; exact qe_blet f1, qe_lm_ok hA1 f2⟩]
      have hm := (h31 (t1, t2) List.mem_cons_self).2
      exact qe_cc_call hs hR hA1 hA2 ⟨fun e => hz (hm.2 e).2, hm.1⟩
    · cases hs
theorem qe_cc_ret {q : Option qe_SV} {v : Option Value} (hs : some [Sum.inr (Sum.inr (q, G))] = some os) (hR : qe_RM A nu base hb G h) (h1 : qe_OVM A nu (qe_g_h G).length (qe_g_n G) q v) : qe_Cc A nu base hb G h os (some (.inr (.inr v))) := by
  rw [← Option.some.inj hs]
  exact ⟨_, List.mem_cons_self, nu, _, rfl, qe_gr_refl _ _, hR, h1⟩
theorem qe_i_01 {x : Int32} (h1 : 2147483648 ≤ qe_i2n x) (h2 : qe_i2n x ≤ 2147483649) : x = 0 ∨ x = 1 := by
  have c1 : qe_i2n (1 : Int32) = 2147483649 := by decide +kernel
  by_cases e : qe_i2n x = 2147483648
  · exact .inl ((qe_i2n_zero x).1 e)
  · exact .inr (qe_i2n_inj (by omega))
theorem qe_S_ret_ok (hR : qe_RM A nu base hb G h) (hS : qe_LM A nu (qe_g_h G).length (qe_g_n G) st S) (hs : qe_S_ret a st G = some os) : qe_Cc A nu base hb G h os (s_ret a S) := by
  unfold qe_S_ret at hs
  split at hs
  · rw [qe_lm_nil hS]
    replace hs := qe_bif_some hs
    obtain ⟨e, hs⟩ := hs
    have := qe_beqt e; subst this
    exact qe_cc_ret hs hR True.intro
  · rename_i x
    obtain ⟨V, R2, rfl, g1, g2⟩ := qe_lm_cons hS
    rw [qe_lm_nil g2]
    cases e1 : Nat.beq a 1
    · rw [e1, cond_false] at hs
      cases e2 : Nat.beq a 2
      · rw [e2, cond_false] at hs
        cases e3 : Nat.beq a 3
        · rw [e3, cond_false] at hs
          replace hs := qe_bif_some hs
          obtain ⟨e4, hs⟩ := hs
          have := qe_beqt e4; subst this
          replace hs := qe_bif_some hs
          obtain ⟨f1, hs⟩ := hs
          replace f1 := qe_and2 f1
          obtain ⟨f1, f2⟩ := f1
          replace f2 := qe_and2 f2
          obtain ⟨f2, f3⟩ := f2
          obtain ⟨y, rfl⟩ := qe_sv_int g1 f1
          have b := qe_sv_itv g1 hR.1.1
          have b1 := qe_blet f2
          have b2 := qe_blet f3
          rw [qe_ret4, if_pos (qe_i_01 (by omega) (by omega))]
          exact qe_cc_ret hs hR g1
        · rw [e3, cond_true] at hs
          have := qe_beqt e3; subst this
          replace hs := qe_bif_some hs
          obtain ⟨f1, hs⟩ := hs
          rcases qe_sv_ref g1 f1 with rfl | ⟨q, rfl⟩
          · exact qe_cc_ret hs hR g1
          · exact qe_cc_ret hs hR g1
      · rw [e2, cond_true] at hs
        have := qe_beqt e2; subst this
        replace hs := qe_bif_some hs
        obtain ⟨f1, hs⟩ := hs
        obtain ⟨y, rfl⟩ := qe_sv_long g1 f1
        exact qe_cc_ret hs hR g1
    · rw [e1, cond_true] at hs
      have := qe_beqt e1; subst this
      replace hs := qe_bif_some hs
      obtain ⟨f1, hs⟩ := hs
      obtain ⟨y, rfl⟩ := qe_sv_int g1 f1
      exact qe_cc_ret hs hR g1
  · cases hs
theorem qe_okv_cat {s : qe_SV} {v : Value} (hv : qe_SVm A nu n m s v) (h3 : qe_s_okv s = true) : v.category = 1 := by
  have h := qe_lm_ok (l := [s]) (vs := [v]) (M := 286) ⟨hv, True.intro⟩ (by
    unfold qe_S_ok
    rw [List.all_cons, h3]
    exact qe_law_l1)
  unfold am_ok at h
  have h1 := List.all_eq_true.mp (qe_and2 h).1 v List.mem_cons_self
  exact eq_of_beq h1
theorem qe_S_stk_ok (hR : qe_RM A nu base hb G h) (hL : qe_LVM A nu (qe_g_h G).length (qe_g_n G) lv L) (hS : qe_LM A nu (qe_g_h G).length (qe_g_n G) st S) (hs : qe_S_stk a lv st G = some os) : qe_Cc A nu base hb G h os (s_stk a L S h) := by
  unfold qe_S_stk at hs
  split at hs
  · cases hs
  · rename_i v
    obtain ⟨V, R2, rfl, g1, g2⟩ := qe_lm_cons hS
    replace hs := qe_bif_some hs
    obtain ⟨f1, hs⟩ := hs
    have hc := qe_okv_cat g1 f1
    cases e0 : Nat.beq a 0
    · rw [e0, cond_false] at hs
      replace hs := qe_bif_some hs
      obtain ⟨e1, hs⟩ := hs
      have := qe_beqt e1; subst this
      rw [qe_stk1]
      rw [if_pos hc]
      exact qe_c_nx hs (qe_pn_id hR hL g2)
    · rw [e0, cond_true] at hs
      have := qe_beqt e0; subst this
      rw [qe_stk0]
      rw [if_pos hc]
      exact qe_c_nx hs (qe_pn_id hR hL ⟨g1, g1, g2⟩)
  · rename_i v u r
    obtain ⟨V, R2, rfl, g1, g2⟩ := qe_lm_cons hS
    obtain ⟨U, R2, rfl, g3, g4⟩ := qe_lm_cons g2
    replace hs := qe_bif_some hs
    obtain ⟨f1, hs⟩ := hs
    have hc := qe_okv_cat g1 f1
    cases e0 : Nat.beq a 0
    · rw [e0, cond_false] at hs
      cases e1 : Nat.beq a 1
      · rw [e1, cond_false] at hs
        replace hs := qe_bif_some hs
        obtain ⟨f2, hs⟩ := hs
        have hc2 := qe_okv_cat g3 f2
        cases e2 : Nat.beq a 2
        · rw [e2, cond_false] at hs
          replace hs := qe_bif_some hs
          obtain ⟨e3, hs⟩ := hs
          have := qe_beqt e3; subst this
          rw [qe_stk3]
          rw [if_pos ⟨hc, hc2⟩]
          exact qe_c_nx hs (qe_pn_id hR hL ⟨g1, g3, g1, g3, g4⟩)
        · rw [e2, cond_true] at hs
          have := qe_beqt e2; subst this
          rw [qe_stk2]
          rw [if_pos ⟨hc, hc2⟩]
          exact qe_c_nx hs (qe_pn_id hR hL ⟨g1, g3, g1, g4⟩)
      · rw [e1, cond_true] at hs
        have := qe_beqt e1; subst this
        rw [qe_stk1]
        rw [if_pos hc]
        exact qe_c_nx hs (qe_pn_id hR hL ⟨g3, g4⟩)
    · rw [e0, cond_true] at hs
      have := qe_beqt e0; subst this
      rw [qe_stk0]
      rw [if_pos hc]
      exact qe_c_nx hs (qe_pn_id hR hL ⟨g1, g1, g3, g4⟩)
theorem qe_S_null_ok (hR : qe_RM A nu base hb G h) (hL : qe_LVM A nu (qe_g_h G).length (qe_g_n G) lv L) (hS : qe_LM A nu (qe_g_h G).length (qe_g_n G) st S) (hs : qe_S_null a c lv st G = some os) : qe_Cc A nu base hb G h os (s_null a c L S h) := by
  unfold qe_S_null at hs
  split at hs
  · rename_i x r
    obtain ⟨V, R2, rfl, g1, g2⟩ := qe_lm_cons hS
    cases e4 : Nat.beq x.1 4
    · rw [e4, cond_false] at hs
      replace hs := qe_bif_some hs
      obtain ⟨e5, hs⟩ := hs
      obtain ⟨rfl, -⟩ := qe_sv_obj g1 e5
      cases e0 : Nat.beq a 0
      · rw [e0, cond_false] at hs
        replace hs := qe_bif_some hs
        obtain ⟨e1, hs⟩ := hs
        have := qe_beqt e1; subst this
        exact qe_c_jp hs (qe_pn_id hR hL g2)
      · rw [e0, cond_true] at hs
        have := qe_beqt e0; subst this
        exact qe_c_nx hs (qe_pn_id hR hL g2)
    · rw [e4, cond_true] at hs
      have := qe_sv_null g1 (qe_beqt e4); subst this
      cases e0 : Nat.beq a 0
      · rw [e0, cond_false] at hs
        replace hs := qe_bif_some hs
        obtain ⟨e1, hs⟩ := hs
        have := qe_beqt e1; subst this
        exact qe_c_nx hs (qe_pn_id hR hL g2)
      · rw [e0, cond_true] at hs
        have := qe_beqt e0; subst this
        exact qe_c_jp hs (qe_pn_id hR hL g2)
  · cases hs
theorem qe_a_inj {σ : Nat → Nat} {j : Nat} (hA : qe_AOK A σ base) (h7 : (Nat.ble 7 k || Nat.ble 7 j) = true) (h : k ≠ j) : A k ≠ A j := by
  cases hk : Nat.ble 7 k
  · rw [hk, Bool.false_or] at h7
    exact qe_a_ne hA (qe_blet h7) (fun e => h e.symm)
  · exact fun e => qe_a_ne hA (qe_blet hk) h e.symm
theorem qe_same_ok {σ : Nat → Nat} {u v : qe_SV} {U V : Value} (hA : qe_AOK A σ base) (hu : qe_SVm A nu n m u U) (hv : qe_SVm A nu n m v V) : (qe_s_same u v = 1 → ∃ q, am_rf U = some q ∧ am_rf V = some q) ∧ (qe_s_same u v = 0 → ∃ q q', am_rf U = some q ∧ (am_rf V = some q' ∧ q ≠ q')) := by
  unfold qe_s_same
  cases e4 : Nat.beq u.1 4
  · rw [cond_false]
    cases e5 : Nat.beq u.1 5
    · rw [cond_false]; exact ⟨fun h => absurd h (by omega), fun h => absurd h (by omega)⟩
    · rw [cond_true]
      obtain ⟨rfl, -⟩ := qe_sv_obj hu e5
      cases f4 : Nat.beq v.1 4
      · rw [cond_false]
        cases f5 : Nat.beq v.1 5
        · rw [cond_false]; exact ⟨fun h => absurd h (by omega), fun h => absurd h (by omega)⟩
        · rw [cond_true]
          obtain ⟨rfl, -⟩ := qe_sv_obj hv f5
          cases f6 : Nat.beq u.2.1 v.2.1
          · rw [cond_false]
            cases f7 : Nat.ble 7 u.2.1 || Nat.ble 7 v.2.1
            · rw [cond_false]; exact ⟨fun h => absurd h (by omega), fun h => absurd h (by omega)⟩
            · rw [cond_true]
              refine ⟨fun h => absurd h (by omega), fun _ => ⟨_, _, rfl, rfl, fun e => ?_⟩⟩
              exact qe_a_inj hA f7 (qe_beqf f6) (Option.some.inj e)
          · rw [cond_true, qe_beqt f6]
            exact ⟨fun _ => ⟨_, rfl, rfl⟩, fun h => absurd h (by omega)⟩
      · rw [cond_true]
        have := qe_sv_null hv (qe_beqt f4); subst this
        exact ⟨fun h => absurd h (by omega), fun _ => ⟨_, _, rfl, rfl, fun e => by cases e⟩⟩
  · rw [cond_true]
    have := qe_sv_null hu (qe_beqt e4); subst this
    cases f4 : Nat.beq v.1 4
    · rw [cond_false]
      cases f5 : Nat.beq v.1 5
      · rw [cond_false]; exact ⟨fun h => absurd h (by omega), fun h => absurd h (by omega)⟩
      · rw [cond_true]
        obtain ⟨rfl, -⟩ := qe_sv_obj hv f5
        exact ⟨fun h => absurd h (by omega), fun _ => ⟨_, _, rfl, rfl, fun e => by cases e⟩⟩
    · rw [cond_true]
      have := qe_sv_null hv (qe_beqt f4); subst this
      exact ⟨fun _ => ⟨_, rfl, rfl⟩, fun h => absurd h (by omega)⟩
theorem qe_S_acmp_ok {σ : Nat → Nat} (hA : qe_AOK A σ base) (hR : qe_RM A nu base hb G h) (hL : qe_LVM A nu (qe_g_h G).length (qe_g_n G) lv L) (hS : qe_LM A nu (qe_g_h G).length (qe_g_n G) st S) (hs : qe_S_acmp a c lv st G = some os) : qe_Cc A nu base hb G h os (s_acmp a c L S h) := by
  unfold qe_S_acmp at hs
  split at hs
  · rename_i u v r
    obtain ⟨U, R2, rfl, g1, g2⟩ := qe_lm_cons hS
    obtain ⟨V, R2, rfl, g3, g4⟩ := qe_lm_cons g2
    obtain ⟨k1, k0⟩ := qe_same_ok hA g1 g3
    dsimp only at hs
    cases e1 : Nat.beq (qe_s_same u v) 1
    · rw [e1, cond_false] at hs
      replace hs := qe_bif_some hs
      obtain ⟨e0, hs⟩ := hs
      obtain ⟨q, q', j1, j2, j3⟩ := k0 (qe_beqt e0)
      cases f0 : Nat.beq a 0
      · rw [f0, cond_false] at hs
        replace hs := qe_bif_some hs
        obtain ⟨f1, hs⟩ := hs
        have := qe_beqt f1; subst this
        rw [qe_acmp1 j1 j2, if_neg (fun e => j3 e.symm)]
        exact qe_c_jp hs (qe_pn_id hR hL g4)
      · rw [f0, cond_true] at hs
        have := qe_beqt f0; subst this
        rw [qe_acmp0 j1 j2, if_neg (fun e => j3 e.symm)]
        exact qe_c_nx hs (qe_pn_id hR hL g4)
    · rw [e1, cond_true] at hs
      obtain ⟨q, j1, j2⟩ := k1 (qe_beqt e1)
      cases f0 : Nat.beq a 0
      · rw [f0, cond_false] at hs
        replace hs := qe_bif_some hs
        obtain ⟨f1, hs⟩ := hs
        have := qe_beqt f1; subst this
        rw [qe_acmp1 j1 j2, if_pos rfl]
        exact qe_c_nx hs (qe_pn_id hR hL g4)
      · rw [f0, cond_true] at hs
        have := qe_beqt f0; subst this
        rw [qe_acmp0 j1 j2, if_pos rfl]
        exact qe_c_jp hs (qe_pn_id hR hL g4)
  · cases hs
theorem qe_sw_in_mem {x : qe_SV} {a b j t : Nat} (ts : List Nat) : ∀ (i : Nat), i ≤ j → a ≤ j → j ≤ b → ts[j - i]? = some t → Sum.inl (some t, lv, r, qe_s_know G x j j) ∈ qe_sw_in x a b lv r G i ts := by
  induction ts with
  | nil => intro i _ _ _ h; cases h
  | cons s q ih =>
    intro i h1 h2 h3 h4
    rw [qe_sw_in]
    by_cases e : i = j
    · subst e
      rw [Nat.sub_self] at h4
      cases h4
      rw [Nat.ble_eq_true_of_le h2, Nat.ble_eq_true_of_le h3]
      exact List.mem_cons_self
    · have h5 : q[j - (i + 1)]? = some t := by
        rw [show j - i = (j - (i + 1)) + 1 by omega, List.getElem?_cons_succ] at h4
        exact h4
      have h6 := ih (i + 1) (by omega) h2 h3 h5
      cases (Nat.ble a i && Nat.ble i b)
      · exact h6
      · exact List.mem_cons_of_mem _ h6
theorem qe_zi_z {c : Int} (h1 : -2147483648 ≤ c) (h2 : c < 2147483648) : (qe_zi c : Int) = c + 2147483648 := by
  have h := qe_i2n_z (Int32.ofInt c)
  rw [Int32.toInt_ofInt_of_le h1 h2] at h
  rw [← h, qe_zi_of h1 h2]
theorem qe_S_sw_ok (hR : qe_RM A nu base hb G h) (hL : qe_LVM A nu (qe_g_h G).length (qe_g_n G) lv L) (hS : qe_LM A nu (qe_g_h G).length (qe_g_n G) st S) (hs : qe_S_sw a lv st G = some os) : qe_Cc A nu base hb G h os (s_sw a L S h) := by
  unfold qe_S_sw at hs
  split at hs
  · rename_i x r
    obtain ⟨V, R2, rfl, g1, g2⟩ := qe_lm_cons hS
    replace hs := qe_bif_some hs
    obtain ⟨f0, hs⟩ := hs
    obtain ⟨y, rfl⟩ := qe_sv_int g1 f0
    split at hs
    · rename_i lo hi d ts hsw
      dsimp only at hs
      replace hs := qe_bif_some hs
      obtain ⟨f1, hs⟩ := hs
      replace f1 := qe_and2 f1
      obtain ⟨f1, f2⟩ := f1
      replace f2 := qe_and2 f2
      obtain ⟨f2, f3⟩ := f2
      replace f3 := qe_and2 f3
      obtain ⟨f3, f4⟩ := f3
      have f1 := of_decide_eq_true f1
      have f2 := of_decide_eq_true f2
      have f3 := qe_beqt f3
      have f4 := of_decide_eq_true f4
      have qe_zl := qe_zi_z (c := lo) (by omega) (by omega)
      have zh := qe_zi_z (c := hi) (by omega) (by omega)
      have b := qe_sv_itv g1 hR.1.1
      have iy := qe_i2n_z y
      unfold s_sw
      try dsimp only
      rw [hsw]
      try dsimp only
      have os_eq := Option.some.inj hs
      by_cases c1 : y.toInt < lo ∨ hi < y.toInt
      · rw [if_pos c1]
        by_cases c2 : y.toInt < lo
        · have e : Nat.ble ((qe_itv G x).1 + 1) (qe_zi lo) = true := Nat.ble_eq_true_of_le (by omega)
          have ks := qe_s_know_ok (lo := (qe_itv G x).1) (hi := qe_nmin (qe_itv G x).2 (qe_zi lo - 1)) hR.1 g1 b.1 (qe_nmin_le b.2 (by omega))
          have hg := qe_gr_same ks
          refine ⟨.inl (some d, lv, r, qe_s_know G x (qe_itv G x).1 (qe_nmin (qe_itv G x).2 (qe_zi lo - 1))), ?_, nu, .inl (some (d : Int).toNat, L, R2, h), rfl, rfl, hg, qe_rm_same hR ks, qe_lvm_gr hg hL, qe_lm_gr hg g2⟩
          rw [← os_eq, e]
          exact List.mem_append_left _ List.mem_cons_self
        · have e : Nat.ble (qe_zi hi + 1) (qe_itv G x).2 = true := Nat.ble_eq_true_of_le (by omega)
          have ks := qe_s_know_ok (lo := qe_nmax (qe_itv G x).1 (qe_zi hi + 1)) (hi := (qe_itv G x).2) hR.1 g1 (qe_nmax_le b.1 (by omega)) b.2
          have hg := qe_gr_same ks
          refine ⟨.inl (some d, lv, r, qe_s_know G x (qe_nmax (qe_itv G x).1 (qe_zi hi + 1)) (qe_itv G x).2), ?_, nu, .inl (some (d : Int).toNat, L, R2, h), rfl, rfl, hg, qe_rm_same hR ks, qe_lvm_gr hg hL, qe_lm_gr hg g2⟩
          rw [← os_eq, e]
          exact List.mem_append_right _ (List.mem_append_left _ List.mem_cons_self)
      · rw [if_neg c1]
        have hlt : (y.toInt - lo).toNat < ts.length := by omega
        rw [List.getElem?_eq_getElem hlt]
        have ht : ts[qe_i2n y - qe_zi lo]? = some ts[(y.toInt - lo).toNat] := by
          rw [show qe_i2n y - qe_zi lo = (y.toInt - lo).toNat by omega, List.getElem?_eq_getElem hlt]
        generalize ts[(y.toInt - lo).toNat] = t at ht ⊢
        try dsimp only
        have ks := qe_s_know_ok (lo := qe_i2n y) (hi := qe_i2n y) hR.1 g1 (Nat.le_refl _) (Nat.le_refl _)
        have hg := qe_gr_same ks
        refine ⟨.inl (some t, lv, r, qe_s_know G x (qe_i2n y) (qe_i2n y)), ?_, nu, .inl (some (t : Int).toNat, L, R2, h), rfl, rfl, hg, qe_rm_same hR ks, qe_lvm_gr hg hL, qe_lm_gr hg g2⟩
        rw [← os_eq]
        exact List.mem_append_right _ (List.mem_append_right _ (qe_sw_in_mem ts _ (by omega) (by omega) (by omega) ht))
    · cases hs
  · cases hs
end
