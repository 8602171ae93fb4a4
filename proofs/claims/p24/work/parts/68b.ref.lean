/-! ===== references compared, switches ===== -/
section
variable {B : BS} {I I' : IN} {n m : Nat} {G G' : SG} {h h' : AH} {os : List SOUT} {lv lv' : SLV} {st st' r : List SV} {L L' : LV} {S S' R : List Value} {c : Int} {a k kd i : Nat}
theorem isnull_ok {x : SV} {V : Value} {l : List (Bool × SG)} (hR : RM B I G h) (hv : SVm I (g_h G).length (g_n G) x V) (hs : y_isnull G x = some l) : ∃ q, q ∈ l ∧ (NK I.1 G I.1 q.2 ∧ ((q.1 = true ∧ V = .null) ∨ (q.1 = false ∧ ∃ a, V = .ref a))) := by
  unfold y_isnull at hs
  dsimp only at hs
  obtain ⟨f1, f2⟩ := fwd_ok hR hv
  cases h4 : Nat.beq (y_fwd G x).1 4
  · rw [h4, cond_false] at hs
    cases h5 : Nat.beq (y_fwd G x).1 5
    · rw [h5, cond_false] at hs
      replace hs := bif_some hs
      obtain ⟨hT, hs⟩ := hs
      rw [← Option.some.inj hs]
      obtain ⟨g1, g2, g3⟩ := sv_typ f1 hT
      obtain ⟨q, q1, q2, q3⟩ := y_eq_ok (x := y_idx (y_fwd G x)) (y := sk 2147483647) true false hR.1 g1 sk_okn
      rw [sk_val] at q2
      refine ⟨q, q1, q3, ?_⟩
      rcases g3 with ⟨e, e2⟩ | ⟨e, a, e1, e2⟩
      · rw [if_pos e] at q2
        exact Or.inl ⟨q2, e2⟩
      · rw [if_neg (by omega)] at q2
        exact Or.inr ⟨q2, a, e2⟩
    · rw [h5, cond_true] at hs
      rw [← Option.some.inj hs]
      exact ⟨_, List.mem_cons_self, nk_refl hR.1, Or.inr ⟨rfl, sv_nn f1 (beqt h5)⟩⟩
  · rw [h4, cond_true] at hs
    rw [← Option.some.inj hs]
    exact ⟨_, List.mem_cons_self, nk_refl hR.1, Or.inl ⟨rfl, sv_null f1 (beqt h4)⟩⟩
theorem flip_mem {q : Bool × SG} {l : List (Bool × SG)} (b : Bool) (hq : q ∈ l) : ((if b then q.1 else !q.1), q.2) ∈ b_flip b l := by
  unfold b_flip
  cases b
  · exact List.mem_map.mpr ⟨q, hq, rfl⟩
  · exact hq
theorem Y_null_ok (hR : RM B I G h) (hK : KN lv) (hL : LVM I (g_h G).length (g_n G) lv L) (hS : LM I (g_h G).length (g_n G) st S) (hs : Y_null a c lv st G = some os) : Cc B I G h os (s_null a c L S h) := by
  unfold Y_null at hs
  split at hs
  · rename_i x r
    obtain ⟨V, R2, rfl, g1, g2⟩ := lm_cons hS
    replace hs := bif_some hs
    obtain ⟨ha, hs⟩ := hs
    have ha := blet ha
    split at hs
    · rename_i l hl
      obtain ⟨q, q1, q2, q3⟩ := isnull_ok hR g1 hl
      have hm := flip_mem (Nat.beq a 0) q1
      refine c_br hm hs (pn_k hR hK hL g2 q2) ?_
      have ha : a = 0 ∨ a = 1 := by omega
      rcases ha with rfl | rfl
      · rcases q3 with ⟨e, rfl⟩ | ⟨e, x, rfl⟩
        · rw [e]; rfl
        · rw [e]; rfl
      · rcases q3 with ⟨e, rfl⟩ | ⟨e, x, rfl⟩
        · rw [e]; rfl
        · rw [e]; rfl
    · cases hs
  · cases hs
theorem acmp_ok {u v : SV} {U V : Value} {l : List (Bool × SG)} (hR : RM B I G h) (hu : SVm I (g_h G).length (g_n G) u U) (hv : SVm I (g_h G).length (g_n G) v V) (hs : y_acmp G u v = some l) : ∃ q, q ∈ l ∧ (NK I.1 G I.1 q.2 ∧ ∃ a b, am_rf U = some a ∧ (am_rf V = some b ∧ ((q.1 = true ∧ a = b) ∨ (q.1 = false ∧ a ≠ b)))) := by
  unfold y_acmp at hs
  dsimp only at hs
  obtain ⟨f1, -⟩ := fwd_ok hR hu
  obtain ⟨f2, -⟩ := fwd_ok hR hv
  generalize y_fwd G u = x at hs f1
  generalize y_fwd G v = y at hs f2
  have t2 := hR.2.2.2.1.2.1
  have tn : ∀ {z : SV} {Z : Value}, SVm I (g_h G).length (g_n G) z Z → isT z = true → (sval I.1 (y_idx z) = 2147483647 ∧ am_rf Z = some none) ∨ (2147483648 ≤ sval I.1 (y_idx z) ∧ ∃ q, I.2.2 z.2.1 (sval I.1 (y_idx z) - 2147483648) = some q ∧ am_rf Z = some (some q)) := by
    intro z Z hz hT
    obtain ⟨-, -, g3⟩ := sv_typ hz hT
    rcases g3 with ⟨e, rfl⟩ | ⟨e, q, e1, rfl⟩
    · exact Or.inl ⟨e, rfl⟩
    · exact Or.inr ⟨e, q, e1, rfl⟩
  have tz : ∀ {z : SV} {Z : Value}, SVm I (g_h G).length (g_n G) z Z → isT z = true → ∃ q, q ∈ y_eq G (y_idx z) (sk 2147483647) true false ∧ (NK I.1 G I.1 q.2 ∧ ((q.1 = true ∧ am_rf Z = some none) ∨ (q.1 = false ∧ ∃ b, am_rf Z = some (some b)))) := by
    intro z Z hz hT
    obtain ⟨q, q1, q2, q3⟩ := y_eq_ok (x := y_idx z) (y := sk 2147483647) true false hR.1 (sv_typ hz hT).1 sk_okn
    rw [sk_val] at q2
    refine ⟨q, q1, q3, ?_⟩
    rcases tn hz hT with ⟨e, e2⟩ | ⟨e, b, -, e2⟩
    · rw [if_pos e] at q2; exact Or.inl ⟨q2, e2⟩
    · rw [if_neg (by omega)] at q2; exact Or.inr ⟨q2, b, e2⟩
  cases c1 : (isT x && isT y)
  · rw [c1, cond_false] at hs
    cases c2 : (Nat.beq x.1 4 && Nat.beq y.1 4)
    · rw [c2, cond_false] at hs
      cases c3 : (Nat.beq x.1 4 && isT y)
      · rw [c3, cond_false] at hs
        replace hs := bif_some hs
        obtain ⟨c4, hs⟩ := hs
        obtain ⟨d1, d2⟩ := and2 c4
        rw [← Option.some.inj hs]
        obtain ⟨q, q1, q2, q3⟩ := tz f1 d2
        have hn := sv_null f2 (beqt d1)
        rcases q3 with ⟨e, e2⟩ | ⟨e, b, e2⟩
        · exact ⟨q, q1, q2, none, none, e2, by rw [hn]; rfl, Or.inl ⟨e, rfl⟩⟩
        · exact ⟨q, q1, q2, some b, none, e2, by rw [hn]; rfl, Or.inr ⟨e, fun e => by cases e⟩⟩
      · rw [c3, cond_true] at hs
        obtain ⟨d1, d2⟩ := and2 c3
        rw [← Option.some.inj hs]
        obtain ⟨q, q1, q2, q3⟩ := tz f2 d2
        have hn := sv_null f1 (beqt d1)
        rcases q3 with ⟨e, e2⟩ | ⟨e, b, e2⟩
        · exact ⟨q, q1, q2, none, none, by rw [hn]; rfl, e2, Or.inl ⟨e, rfl⟩⟩
        · exact ⟨q, q1, q2, none, some b, by rw [hn]; rfl, e2, Or.inr ⟨e, fun e => by cases e⟩⟩
    · rw [c2, cond_true] at hs
      obtain ⟨d1, d2⟩ := and2 c2
      rw [← Option.some.inj hs]
      exact ⟨_, List.mem_cons_self, nk_refl hR.1, none, none, by rw [sv_null f1 (beqt d1)]; rfl, by rw [sv_null f2 (beqt d2)]; rfl, Or.inl ⟨rfl, rfl⟩⟩
  · rw [c1, cond_true] at hs
    obtain ⟨d1, d2⟩ := and2 c1
    replace hs := bif_some hs
    obtain ⟨c3, hs⟩ := hs
    have c3 := beqt c3
    cases c4 : Nat.ble 30 (cdk x.2.1)
    · rw [c4, cond_false] at hs
      rw [← Option.some.inj hs]
      have c4 : cdk x.2.1 < 30 := by
        apply Classical.byContradiction
        intro hh
        rw [Nat.ble_eq_true_of_le (by omega)] at c4
        exact Bool.noConfusion c4
      obtain ⟨q, q1, q2, q3⟩ := y_eq_ok (x := y_idx x) (y := y_idx y) true false hR.1 (sv_typ f1 d1).1 (sv_typ f2 d2).1
      rcases tn f1 d1 with ⟨e, e2⟩ | ⟨e, a, e1, e2⟩
      · rcases tn f2 d2 with ⟨e', e2'⟩ | ⟨e', b, e1', e2'⟩
        · rw [if_pos (by omega)] at q2
          exact ⟨q, q1, q3, none, none, e2, e2', Or.inl ⟨q2, rfl⟩⟩
        · rw [if_neg (by omega)] at q2
          exact ⟨q, q1, q3, none, some b, e2, e2', Or.inr ⟨q2, fun e => by cases e⟩⟩
      · rcases tn f2 d2 with ⟨e', e2'⟩ | ⟨e', b, e1', e2'⟩
        · rw [if_neg (by omega)] at q2
          exact ⟨q, q1, q3, some a, none, e2, e2', Or.inr ⟨q2, fun e => by cases e⟩⟩
        · by_cases he : sval I.1 (y_idx x) = sval I.1 (y_idx y)
          · rw [if_pos he] at q2
            rw [c3, he, e1'] at e1
            exact ⟨q, q1, q3, some a, some b, e2, e2', Or.inl ⟨q2, e1.symm⟩⟩
          · rw [if_neg he] at q2
            refine ⟨q, q1, q3, some a, some b, e2, e2', Or.inr ⟨q2, fun e => ?_⟩⟩
            have e := Option.some.inj e
            rw [← e] at e1'
            rcases t2 _ _ _ _ _ e1 e1' with ⟨-, e5⟩ | ⟨⟨e5, -⟩, -⟩
            · omega
            · omega
    · rw [c4, cond_true] at hs
      cases hs
theorem Y_acmp_ok (hR : RM B I G h) (hK : KN lv) (hL : LVM I (g_h G).length (g_n G) lv L) (hS : LM I (g_h G).length (g_n G) st S) (hs : Y_acmp a c lv st G = some os) : Cc B I G h os (s_acmp a c L S h) := by
  unfold Y_acmp at hs
  split at hs
  · rename_i v u r
    obtain ⟨V, R2, rfl, g1, g2⟩ := lm_cons hS
    obtain ⟨U, R3, rfl, g3, g4⟩ := lm_cons g2
    replace hs := bif_some hs
    obtain ⟨ha, hs⟩ := hs
    have ha := blet ha
    split at hs
    · rename_i l hl
      obtain ⟨q, q1, q2, x, y, e1, e2, q3⟩ := acmp_ok hR g3 g1 hl
      have hm := flip_mem (Nat.beq a 0) q1
      refine c_br hm hs (pn_k hR hK hL g4 q2) ?_
      have ha : a = 0 ∨ a = 1 := by omega
      rcases ha with rfl | rfl
      · rw [acmp0 e2 e1]
        rcases q3 with ⟨e, e3⟩ | ⟨e, e3⟩
        · rw [e, if_pos e3]; rfl
        · rw [e, if_neg e3]; rfl
      · rw [acmp1 e2 e1]
        rcases q3 with ⟨e, e3⟩ | ⟨e, e3⟩
        · rw [e, if_pos e3]; rfl
        · rw [e, if_neg e3]; rfl
    · cases hs
  · cases hs
theorem sw_in_mem {x : SV} {a b j t : Nat} (ts : List Nat) : ∀ (i : Nat), i ≤ j → a ≤ j → j ≤ b → ts[j - i]? = some t → Sum.inl (some t, lv, r, y_know G x j j) ∈ sw_in x a b lv r G i ts := by
  induction ts with
  | nil => intro i _ _ _ h; cases h
  | cons s q ih =>
    intro i h1 h2 h3 h4
    rw [sw_in]
    by_cases e : i = j
    · subst e
      rw [Nat.sub_self] at h4
      cases h4
      rw [Nat.ble_eq_true_of_le h2, Nat.ble_eq_true_of_le h3]
      exact List.mem_cons_self
    · have h5 : q[j - (i + 1)]? = some t := by
        rw [show j - i = (j - (i + 1)) + 1 by omega, List.getElem?_cons_succ] at h4
        exact h4
      have h6 := ih (i + 1) (by omega) h2 h3 h5
      cases (Nat.ble a i && Nat.ble i b)
      · exact h6
      · exact List.mem_cons_of_mem _ h6
theorem Y_sw_ok (hR : RM B I G h) (hK : KN lv) (hL : LVM I (g_h G).length (g_n G) lv L) (hS : LM I (g_h G).length (g_n G) st S) (hs : Y_sw a lv st G = some os) : Cc B I G h os (s_sw a L S h) := by
  unfold Y_sw at hs
  split at hs
  · rename_i x r
    obtain ⟨V, R2, rfl, g1, g2⟩ := lm_cons hS
    replace hs := bif_some hs
    obtain ⟨f0, hs⟩ := hs
    obtain ⟨y, rfl, hy⟩ := sv_int g1 f0
    split at hs
    · rename_i lo hi d ts hsw
      dsimp only at hs
      replace hs := bif_some hs
      obtain ⟨f1, hs⟩ := hs
      replace f1 := and2 f1
      obtain ⟨f1, f2⟩ := f1
      replace f2 := and2 f2
      obtain ⟨f2, f3⟩ := f2
      replace f3 := and2 f3
      obtain ⟨f3, f4⟩ := f3
      have f1 := of_decide_eq_true f1
      have f2 := of_decide_eq_true f2
      have f3 := beqt f3
      have f4 := of_decide_eq_true f4
      have zl := zi_z (c := lo) (by omega) (by omega)
      have zh := zi_z (c := hi) (by omega) (by omega)
      have b := itv_ok hR.1.1 x
      rw [← hy.2.2] at b
      have iy := i2n_z y
      have hval := hy.2.2
      unfold s_sw
      try dsimp only
      rw [hsw]
      try dsimp only
      have os_eq := Option.some.inj hs
      by_cases c1 : y.toInt < lo ∨ hi < y.toInt
      · rw [if_pos c1]
        by_cases c2 : y.toInt < lo
        · have e : Nat.ble ((itv G x).1 + 1) (zi lo) = true := Nat.ble_eq_true_of_le (by omega)
          have ks := nk_know (v := x) (lo := (itv G x).1) (hi := nmin (itv G x).2 (zi lo - 1)) hR.1 (by omega) (nmin_ge (by omega) (by omega))
          refine ⟨.inl (some d, lv, r, y_know G x (itv G x).1 (nmin (itv G x).2 (zi lo - 1))), ?_, I, .inl (some (d : Int).toNat, L, R2, h), rfl, rfl, pn_k hR hK hL g2 ks⟩
          rw [← os_eq, e]
          exact List.mem_append_left _ List.mem_cons_self
        · have e : Nat.ble (zi hi + 1) (itv G x).2 = true := Nat.ble_eq_true_of_le (by omega)
          have ks := nk_know (v := x) (lo := nmax (itv G x).1 (zi hi + 1)) (hi := (itv G x).2) hR.1 (nmax_le (by omega) (by omega)) (by omega)
          refine ⟨.inl (some d, lv, r, y_know G x (nmax (itv G x).1 (zi hi + 1)) (itv G x).2), ?_, I, .inl (some (d : Int).toNat, L, R2, h), rfl, rfl, pn_k hR hK hL g2 ks⟩
          rw [← os_eq, e]
          exact List.mem_append_right _ (List.mem_append_left _ List.mem_cons_self)
      · rw [if_neg c1]
        have hlt : (y.toInt - lo).toNat < ts.length := by omega
        rw [List.getElem?_eq_getElem hlt]
        have ht : ts[i2n y - zi lo]? = some ts[(y.toInt - lo).toNat] := by
          rw [show i2n y - zi lo = (y.toInt - lo).toNat by omega, List.getElem?_eq_getElem hlt]
        generalize ts[(y.toInt - lo).toNat] = t at ht ⊢
        try dsimp only
        have ks := nk_know (v := x) (lo := i2n y) (hi := i2n y) hR.1 (by omega) (by omega)
        refine ⟨.inl (some t, lv, r, y_know G x (i2n y) (i2n y)), ?_, I, .inl (some (t : Int).toNat, L, R2, h), rfl, rfl, pn_k hR hK hL g2 ks⟩
        rw [← os_eq]
        exact List.mem_append_right _ (List.mem_append_right _ (sw_in_mem ts _ (by omega) (by omega) (by omega) ht))
    · cases hs
  · cases hs
end
