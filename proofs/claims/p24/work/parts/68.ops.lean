/-! ===== objects that are there; calls, ends, the stack, references, switches ===== -/
theorem fks_lt {f k : Nat} (h : (fks f).contains k = true) : k < 13 := by
  by_cases hf : f < 200
  · have h1 := List.all_eq_true.mp ck_fks f (List.mem_range.mpr hf)
    have h2 := List.all_eq_true.mp h1 k (List.contains_iff_mem.mp h)
    have h3 := (and2 h2).1
    exact of_decide_eq_true h3
  · have e : fks f = [] := by
      unfold fks fr
      have h1 : frs.length ≤ 16 := by decide +kernel
      have h2 : frs.getD (f / 12) [] = [] := by
        rw [List.getD_eq_getElem?_getD, List.getElem?_eq_none (show frs.length ≤ f / 12 by omega)]
        rfl
      rw [h2]
      rfl
    rw [e] at h
    exact Bool.noConfusion h
theorem j_of {j : Int32} (h : 2147483648 ≤ i2n j) : ¬ j < 0 ∧ j.toNatClampNeg = i2n j - 2147483648 := by
  have h1 := i2n_z j
  constructor
  · intro e
    have e2 := (Int32.lt_iff_toInt_lt).1 e
    have e3 : (0 : Int32).toInt = 0 := rfl
    omega
  · have e2 : j.toNatClampNeg = j.toInt.toNat := rfl
    omega
theorem i_01 {x : Int32} (h1 : 2147483648 ≤ i2n x) (h2 : i2n x ≤ 2147483649) : x = 0 ∨ x = 1 := by
  have c1 : i2n (1 : Int32) = 2147483649 := by decide +kernel
  by_cases e : i2n x = 2147483648
  · exact .inl ((i2n_zero x).1 e)
  · exact .inr (i2n_inj (by omega))
theorem zi_z {c : Int} (h1 : -2147483648 ≤ c) (h2 : c < 2147483648) : (zi c : Int) = c + 2147483648 := by
  have h := i2n_z (Int32.ofInt c)
  rw [Int32.toInt_ofInt_of_le h1 h2] at h
  rw [← h, zi_of h1 h2]
theorem stk0 (L : LV) (V : Value) (R : List Value) (h : AH) : s_stk 0 L (V :: R) h = if V.category = 1 then nx L (V :: V :: R) h else none := rfl
theorem stk1 (L : LV) (V : Value) (R : List Value) (h : AH) : s_stk 1 L (V :: R) h = if V.category = 1 then nx L R h else none := rfl
theorem stk2 (L : LV) (V U : Value) (R : List Value) (h : AH) : s_stk 2 L (V :: U :: R) h = if V.category = 1 ∧ U.category = 1 then nx L (V :: U :: V :: R) h else none := rfl
theorem stk3 (L : LV) (V U : Value) (R : List Value) (h : AH) : s_stk 3 L (V :: U :: R) h = if V.category = 1 ∧ U.category = 1 then nx L (V :: U :: V :: U :: R) h else none := rfl
theorem ret4 (x : Int32) : s_ret 4 [.int x] = if x = 0 ∨ x = 1 then some (.inr (.inr (some (.int x)))) else none := rfl
theorem acmp0 {c : Int} {L : LV} {V U : Value} {R : List Value} {h : AH} {x y : Option Nat} (h1 : am_rf V = some y) (h2 : am_rf U = some x) : s_acmp 0 c L (V :: U :: R) h = if x = y then jp c L R h else nx L R h := by
  have e : s_acmp 0 c L (V :: U :: R) h = (match am_rf V, am_rf U with | some y, some x => (if x = y then jp c L R h else nx L R h) | _, _ => none) := rfl
  rw [e, h1, h2]
theorem acmp1 {c : Int} {L : LV} {V U : Value} {R : List Value} {h : AH} {x y : Option Nat} (h1 : am_rf V = some y) (h2 : am_rf U = some x) : s_acmp 1 c L (V :: U :: R) h = if x = y then nx L R h else jp c L R h := by
  have e : s_acmp 1 c L (V :: U :: R) h = (match am_rf V, am_rf U with | some y, some x => (if x = y then nx L R h else jp c L R h) | _, _ => none) := rfl
  rw [e, h1, h2]
section
variable {B : BS} {I I' : IN} {n m : Nat} {G G' : SG} {h h' : AH} {os : List SOUT} {lv lv' : SLV} {st st' r : List SV} {L L' : LV} {S S' R : List Value} {c : Int} {a k kd i : Nat}
theorem nn_ok {x w : SV} {V : Value} (hR : RM B I G h) (hv : SVm I (g_h G).length (g_n G) x V) (hs : y_nn G x = some w) : SVm I (g_h G).length (g_n G) w V ∧
    ((isT w = true ∧ (okn (g_n G) (y_idx w) ∧ (w.2.1 < 1000 ∧ ∃ i q, sval I.1 (y_idx w) = 2147483648 + i ∧ (I.2.2 w.2.1 i = some q ∧ V = .ref q)))) ∨
    (isT w = false ∧ (w.1 = 5 ∧ (w.2.1 < (g_h G).length ∧ (V = .ref (I.2.1 w.2.1) ∧ ∀ o, (g_h G)[w.2.1]? = some o → o.1 < 30 ∧ ((∀ c i, I.2.2 c i ≠ some (I.2.1 w.2.1)) ∧ ∃ vs, h.1 (I.2.1 w.2.1) = some (o.1, vs) ∧ CMr I (g_h G).length (g_n G) o.2 vs)))))) := by
  unfold y_nn at hs
  dsimp only at hs
  obtain ⟨f1, f2⟩ := fwd_ok hR hv
  cases hT : isT (y_fwd G x)
  · rw [hT, cond_false] at hs
    replace hs := bif_some hs
    obtain ⟨h5, hs⟩ := hs
    have hw := Option.some.inj hs
    have h5 := beqt h5
    have hx := f2 h5
    rw [← hw]
    obtain ⟨g1, g2⟩ := sv_raw f1 h5
    refine ⟨f1, Or.inr ⟨hT, h5, g1, g2, fun o ho => ?_⟩⟩
    rcases hR.2.1 _ _ ho with ⟨e1, w', e2, e3, -⟩ | e
    · exfalso
      have h6 : y_fwd G x = w' := by
        unfold y_fwd
        rw [hx] at h5 ho
        rw [h5, Nat.beq_refl, cond_true, ho]
        obtain ⟨o1, o2⟩ := o
        dsimp only at e1 e2
        rw [e1, e2]
        rfl
      rw [h6, e3] at hT
      exact Bool.noConfusion hT
    · exact e
  · rw [hT, cond_true] at hs
    replace hs := bif_some hs
    obtain ⟨h6, hs⟩ := hs
    have hw := Option.some.inj hs
    rw [← hw]
    obtain ⟨g1, g2, g3⟩ := sv_typ f1 hT
    refine ⟨f1, Or.inl ⟨hT, g1, g2, ?_⟩⟩
    have b := (itv_ok hR.1.1 (y_idx (y_fwd G x))).1
    have h6 := blet h6
    rcases g3 with ⟨e, -⟩ | ⟨e, q, e1, e2⟩
    · omega
    · exact ⟨_, q, by omega, e1, e2⟩
theorem kd_ok {w : SV} {V : Value} (hR : RM B I G h) (hn : (isT w = true ∧ (okn (g_n G) (y_idx w) ∧ (w.2.1 < 1000 ∧ ∃ i q, sval I.1 (y_idx w) = 2147483648 + i ∧ (I.2.2 w.2.1 i = some q ∧ V = .ref q)))) ∨
    (isT w = false ∧ (w.1 = 5 ∧ (w.2.1 < (g_h G).length ∧ (V = .ref (I.2.1 w.2.1) ∧ ∀ o, (g_h G)[w.2.1]? = some o → o.1 < 30 ∧ ((∀ c i, I.2.2 c i ≠ some (I.2.1 w.2.1)) ∧ ∃ vs, h.1 (I.2.1 w.2.1) = some (o.1, vs) ∧ CMr I (g_h G).length (g_n G) o.2 vs)))))) (hs : y_kd G w = some kd) : ∃ q k vs, V = .ref q ∧ (h.1 q = some (k, vs) ∧ (k = kd ∨ (kd = 31 ∧ k = 30))) := by
  unfold y_kd at hs
  rcases hn with ⟨h1, -, h2, i, q, -, h3, h4⟩ | ⟨h1, -, h2, h3, h4⟩
  · rw [h1, cond_true] at hs
    obtain ⟨-, k, vs, e1, e2, -⟩ := hR.2.2.2.1.1 _ _ _ h2 h3
    refine ⟨q, k, vs, h4, e1, ?_⟩
    rw [← Option.some.inj hs]
    exact e2
  · rw [h1, cond_false] at hs
    split at hs
    · rename_i o ho
      obtain ⟨e1, -, vs, e2, -⟩ := h4 o ho
      exact ⟨_, _, vs, h3, e2, Or.inl (Option.some.inj hs)⟩
    · cases hs
theorem ck_sp : specs.all (fun s => s.2.2.all (fun t => !(Nat.beq t.1 31) && Nat.ble t.2 998)) = true := by decide +kernel
theorem spec_31 (i : Nat) : ∀ t, t ∈ (spec i).2.2 → t.1 ≠ 31 ∧ t.2 ≠ 999 := by
  intro t ht
  unfold spec at ht
  by_cases hi : i < specs.length
  · rw [List.getD_eq_getElem?_getD, List.getElem?_eq_getElem hi, Option.getD_some] at ht
    have h1 := List.all_eq_true.mp ck_sp _ (List.getElem_mem hi)
    have h2 := and2 (List.all_eq_true.mp h1 t ht)
    refine ⟨fun e => ?_, fun e => ?_⟩
    · have h4 := h2.1
      rw [e] at h4
      exact Bool.noConfusion h4
    · have h4 := blet h2.2
      omega
  · rw [List.getD_eq_getElem?_getD, List.getElem?_eq_none (by omega)] at ht
    cases ht
theorem okv_L {s : SV} (h3 : s_okv s = true) : isL s = false := by
  unfold s_okv at h3
  cases hl : isL s
  · rfl
  · exfalso
    have h1 := tag_L hl
    rcases or2 h3 with h2 | h2
    · have := tag_I h2; omega
    · have : 4 ≤ s.1 := blet h2
      omega
theorem okv_cat {s : SV} {v : Value} (hv : SVm I n m s v) (h3 : s_okv s = true) : v.category = 1 := by
  rw [sv_cat hv]
  unfold s_cat
  rw [okv_L h3]
  rfl
theorem lm_ok {l : List SV} {vs : List Value} {M : Nat} (hl : LM I n m l vs) (hs : S_ok l M = true) : am_ok vs M = true := by
  unfold S_ok at hs
  obtain ⟨h1, h2⟩ := and2 hs
  unfold am_ok
  rw [decide_eq_true (show vs.length ≤ mL M by rw [lm_len hl]; exact blet h2), Bool.and_true]
  refine List.all_eq_true.mpr fun v hv => ?_
  obtain ⟨s, s1, s2⟩ := lm_mem hl hv
  rw [okv_cat s2 (List.all_eq_true.mp h1 s s1)]
  rfl
theorem cc_call {M : Nat} {as r2 : List SV} {As R2 : List Value} (hs : some [Sum.inr (Sum.inl (M, as, r2, G))] = some os) (hR : RM B I G h) (h1 : LM I (g_h G).length (g_n G) as As) (h2 : LM I (g_h G).length (g_n G) r2 R2) : Cc B I G h os (some (.inr (.inl (M, As, R2)))) := by
  rw [← Option.some.inj hs]
  exact ⟨_, List.mem_cons_self, I, _, rfl, rfl, gr_refl _ _, hR, h1, h2⟩
theorem Y_call_ok (hR : RM B I G h) (hS : LM I (g_h G).length (g_n G) st S) (hs : Y_call i st G = some os) : Cc B I G h os (s_call i S h) := by
  unfold Y_call at hs
  unfold s_call
  have h31 := spec_31 i
  generalize spec i = sp at hs h31 ⊢
  obtain ⟨s1, s2, s3⟩ := sp
  dsimp only at hs h31 ⊢
  have hA1 := lm_rev (lm_take s2 hS)
  have hA2 := lm_drop s2 hS
  generalize (st.take s2).reverse = as at hs hA1
  generalize st.drop s2 = r at hs hA2
  generalize (S.take s2).reverse = As at hA1 ⊢
  generalize S.drop s2 = Rr at hA2 ⊢
  replace hs := bif_some hs
  obtain ⟨f0, hs⟩ := hs
  rw [if_pos ((lm_len hA1).trans (beqt f0))]
  cases e0 : Nat.beq s1 0
  · rw [e0, cond_false] at hs
    replace hs := bif_some hs
    obtain ⟨e1, hs⟩ := hs
    have := beqt e1; subst this
    try dsimp only
    split at hs
    · rename_i x r2
      obtain ⟨V, R2, rfl, g1, g2⟩ := lm_cons hA2
      split at hs
      · rename_i w hw
        obtain ⟨n1, n2⟩ := nn_ok hR g1 hw
        split at hs
        · rename_i kd hk
          obtain ⟨q, k', vs, rfl, j1, j2⟩ := kd_ok hR n2 hk
          split at hs
          · rename_i t ht
            replace hs := bif_some hs
            obtain ⟨f1, hs⟩ := hs
            replace f1 := and2 f1
            obtain ⟨f1, f2⟩ := f1
            have hkd : kd ≠ 31 := by
              intro e
              have h1 := List.mem_of_find?_eq_some ht
              have h2 := List.find?_some ht
              exact (h31 t h1).1 ((eq_of_beq h2 : t.1 = kd).trans e)
            have hc : k' = kd := by omega
            subst hc
            unfold am_get
            try dsimp only
            rw [j1]
            try dsimp only
            rw [ht]
            try dsimp only
            rw [if_pos ⟨by rw [lm_w g2]; exact blet f1, lm_ok (l := w :: as) ⟨n1, hA1⟩ f2⟩]
            exact cc_call hs hR ⟨n1, hA1⟩ g2
          · cases hs
        · cases hs
      · cases hs
    · cases hs
  · rw [e0, cond_true] at hs
    have := beqt e0; subst this
    try dsimp only
    split at hs
    · rename_i t
      replace hs := bif_some hs
      obtain ⟨f1, hs⟩ := hs
      replace f1 := and2 f1
      obtain ⟨f1, f2⟩ := f1
      obtain ⟨t1, t2⟩ := t
      try dsimp only
      rw [if_pos ⟨by rw [lm_w hA2]; exact blet f1, lm_ok hA1 f2⟩]
      exact cc_call hs hR hA1 hA2
    · cases hs
theorem cc_ret {q : Option SV} {v : Option Value} (hs : some [Sum.inr (Sum.inr (q, G))] = some os) (hR : RM B I G h) (h1 : OVM I (g_h G).length (g_n G) q v) : Cc B I G h os (some (.inr (.inr v))) := by
  rw [← Option.some.inj hs]
  exact ⟨_, List.mem_cons_self, I, _, rfl, gr_refl _ _, hR, h1⟩
theorem Y_ret_ok (hR : RM B I G h) (hS : LM I (g_h G).length (g_n G) st S) (hs : Y_ret a st G = some os) : Cc B I G h os (s_ret a S) := by
  unfold Y_ret at hs
  split at hs
  · rw [lm_nil hS]
    replace hs := bif_some hs
    obtain ⟨e, hs⟩ := hs
    have := beqt e; subst this
    exact cc_ret hs hR True.intro
  · rename_i x
    obtain ⟨V, R2, rfl, g1, g2⟩ := lm_cons hS
    rw [lm_nil g2]
    cases e1 : Nat.beq a 1
    · rw [e1, cond_false] at hs
      cases e2 : Nat.beq a 2
      · rw [e2, cond_false] at hs
        cases e3 : Nat.beq a 3
        · rw [e3, cond_false] at hs
          replace hs := bif_some hs
          obtain ⟨e4, hs⟩ := hs
          have := beqt e4; subst this
          replace hs := bif_some hs
          obtain ⟨f1, hs⟩ := hs
          replace f1 := and2 f1
          obtain ⟨f1, f2⟩ := f1
          obtain ⟨y, rfl, hy⟩ := sv_int g1 f1
          obtain ⟨b1, b2⟩ := fit_ok hR.1 hy f2
          rw [ret4, if_pos (i_01 b1 b2)]
          exact cc_ret hs hR g1
        · rw [e3, cond_true] at hs
          have := beqt e3; subst this
          replace hs := bif_some hs
          obtain ⟨f1, hs⟩ := hs
          rcases sv_ref g1 f1 with rfl | ⟨q, rfl⟩
          · exact cc_ret hs hR g1
          · exact cc_ret hs hR g1
      · rw [e2, cond_true] at hs
        have := beqt e2; subst this
        replace hs := bif_some hs
        obtain ⟨f1, hs⟩ := hs
        obtain ⟨y, rfl, hy⟩ := sv_long g1 f1
        exact cc_ret hs hR g1
    · rw [e1, cond_true] at hs
      have := beqt e1; subst this
      replace hs := bif_some hs
      obtain ⟨f1, hs⟩ := hs
      obtain ⟨y, rfl, hy⟩ := sv_int g1 f1
      exact cc_ret hs hR g1
  · cases hs
theorem Y_stk_ok (h4 : a ≠ 4) (hR : RM B I G h) (hK : KN lv) (hL : LVM I (g_h G).length (g_n G) lv L) (hS : LM I (g_h G).length (g_n G) st S) (hs : Y_stk a lv st G = some os) : Cc B I G h os (s_stk a L S h) := by
  unfold Y_stk at hs
  split at hs
  · cases hs
  · rename_i v r
    obtain ⟨V, R2, rfl, g1, g2⟩ := lm_cons hS
    cases e4 : Nat.beq a 4
    · rw [e4, cond_false] at hs
      replace hs := bif_some hs
      obtain ⟨f1, hs⟩ := hs
      have hc := okv_cat g1 f1
      cases e0 : Nat.beq a 0
      · rw [e0, cond_false] at hs
        cases e1 : Nat.beq a 1
        · rw [e1, cond_false] at hs
          split at hs
          · cases hs
          · rename_i u r
            obtain ⟨U, R3, rfl, g3, g4⟩ := lm_cons g2
            replace hs := bif_some hs
            obtain ⟨f2, hs⟩ := hs
            have hc2 := okv_cat g3 f2
            cases e2 : Nat.beq a 2
            · rw [e2, cond_false] at hs
              replace hs := bif_some hs
              obtain ⟨e3, hs⟩ := hs
              have := beqt e3; subst this
              rw [stk3]
              rw [if_pos ⟨hc, hc2⟩]
              exact c_nx hs (pn_id hR hK hL ⟨g1, g3, g1, g3, g4⟩)
            · rw [e2, cond_true] at hs
              have := beqt e2; subst this
              rw [stk2]
              rw [if_pos ⟨hc, hc2⟩]
              exact c_nx hs (pn_id hR hK hL ⟨g1, g3, g1, g4⟩)
        · rw [e1, cond_true] at hs
          have := beqt e1; subst this
          rw [stk1]
          rw [if_pos hc]
          exact c_nx hs (pn_id hR hK hL g2)
      · rw [e0, cond_true] at hs
        have := beqt e0; subst this
        rw [stk0]
        rw [if_pos hc]
        exact c_nx hs (pn_id hR hK hL ⟨g1, g1, g2⟩)
    · exact absurd (beqt e4) h4
theorem sv_nn {x : SV} {V : Value} (hv : SVm I (g_h G).length (g_n G) x V) (h5 : x.1 = 5) : ∃ q, V = .ref q := ⟨_, (sv_raw hv h5).2⟩
theorem Y_oinit_ok (hR : RM B I G h) (hK : KN lv) (hL : LVM I (g_h G).length (g_n G) lv L) (hS : LM I (g_h G).length (g_n G) st S) (hs : Y_oinit lv st G = some os) : Cc B I G h os (s_oinit L S h) := by
  unfold Y_oinit at hs
  split at hs
  · rename_i x r
    obtain ⟨V, R2, rfl, g1, g2⟩ := lm_cons hS
    replace hs := bif_some hs
    obtain ⟨f1, hs⟩ := hs
    replace f1 := and2 f1
    obtain ⟨f1, f2⟩ := f1
    obtain ⟨q, rfl⟩ := sv_nn g1 (beqt f1)
    unfold s_oinit
    dsimp only
    rw [if_pos (by rw [lm_w g2]; exact blet f2)]
    exact c_nx hs (pn_id hR hK hL g2)
  · cases hs
end
