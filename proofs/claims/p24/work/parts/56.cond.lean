/-! ===== longs, conversions, comparisons ===== -/
section
variable {nu nu' : Nat → Nat} {G G' : SG} {x y v : SV}
theorem sk2_okn {m r : Nat} : okn m (2, r, 0) := fun h => Bool.noConfusion h
theorem lv_nk {X : Int64} (h : LV' nu (g_n G) v X) (k : NK nu G nu' G') : LV' nu' (g_n G') v X := ⟨h.1, okn_up h.2.1 k.2.2.1, by rw [sval_ag h.2.1 k.2.1]; exact h.2.2⟩
theorem lmul_ok {X Y : Int64} {b d : Nat} (hx : 9223372036854775808 ≤ l2n X) (hy : 9223372036854775808 ≤ l2n Y) (hb : l2n X ≤ b) (hd : l2n Y ≤ d) (hm : (b - 9223372036854775808) * (d - 9223372036854775808) ≤ 9223372036854775807) :
    (l2n X - 9223372036854775808) * (l2n Y - 9223372036854775808) ≤ (b - 9223372036854775808) * (d - 9223372036854775808) ∧ l2n (X * Y) = (l2n X - 9223372036854775808) * (l2n Y - 9223372036854775808) + 9223372036854775808 := by
  obtain ⟨u, hu⟩ : ∃ u, l2n X = u + 9223372036854775808 := ⟨_, (Nat.sub_add_cancel hx).symm⟩
  obtain ⟨v, hv⟩ : ∃ v, l2n Y = v + 9223372036854775808 := ⟨_, (Nat.sub_add_cancel hy).symm⟩
  have h1 := l2n_z X
  have h2 := l2n_z Y
  rw [hu, hv, Nat.add_sub_cancel, Nat.add_sub_cancel]
  have h3 : u * v ≤ (b - 9223372036854775808) * (d - 9223372036854775808) := Nat.mul_le_mul (by omega) (by omega)
  refine ⟨h3, ?_⟩
  have h := l2n_of (Int64.toInt_mul X Y)
  have e1 : (u : Int) = X.toInt := by omega
  have e2 : (v : Int) = Y.toInt := by omega
  have h5 : ((u * v : Nat) : Int) = X.toInt * Y.toInt := by
    rw [Int.natCast_mul, e1, e2]
  rw [← h5] at h
  have h6 := Nat.le_trans h3 hm
  omega
theorem y_lrng_ok {k a b c d : Nat} {X Y : Int64} {w : Nat × Nat} (h : y_lrng k a b c d = some w) (hx : a ≤ l2n X ∧ l2n X ≤ b) (hy : c ≤ l2n Y ∧ l2n Y ≤ d) :
    ∃ z, lbin k X Y = some z ∧ (w.1 ≤ l2n z ∧ l2n z ≤ w.2) := by
  have full : ∀ z : Int64, 0 ≤ l2n z ∧ l2n z ≤ 18446744073709551615 := fun z => ⟨Nat.zero_le _, by have := l2n_lt z; omega⟩
  have lx := l2n_lt X
  have ly := l2n_lt Y
  unfold y_lrng at h
  cases e0 : Nat.beq k 0
  · rw [e0, cond_false] at h
    cases e1 : Nat.beq k 1
    · rw [e1, cond_false] at h
      cases e2 : Nat.beq k 2
      · rw [e2, cond_false] at h
        cases e3 : Nat.beq k 3
        · rw [e3, cond_false] at h; cases h
        · rw [e3, cond_true] at h
          have := beqt e3; subst this
          have hn : (Nat.ble 9223372036854775809 c = true ∨ Nat.ble d 9223372036854775807 = true) → Y ≠ 0 := by
            intro hh e
            have h0 := l2n_z Y
            rw [e] at h0
            have h0' : ((0 : Int64)).toInt = 0 := by decide +kernel
            rw [h0'] at h0
            rcases hh with hh | hh
            · have := blet hh; rw [e] at hy; omega
            · have := blet hh; rw [e] at hy; omega
          have hw : w = (0, 18446744073709551615) ∧ Y ≠ 0 := by
            cases f1 : Nat.ble 9223372036854775809 c
            · rw [f1, cond_false] at h
              replace h := bif_some h
              obtain ⟨f2, h⟩ := h
              exact ⟨(Option.some.inj h).symm, hn (Or.inr f2)⟩
            · rw [f1, cond_true] at h
              exact ⟨(Option.some.inj h).symm, hn (Or.inl f1)⟩
          obtain ⟨hw, hy0⟩ := hw
          rw [hw]
          have e : lbin 3 X Y = some (X / Y) := if_neg hy0
          exact ⟨X / Y, e, full _⟩
      · rw [e2, cond_true] at h
        have := beqt e2; subst this
        refine ⟨X * Y, rfl, ?_⟩
        cases f : (Nat.ble 9223372036854775808 a && Nat.ble 9223372036854775808 c) && Nat.ble ((b - 9223372036854775808) * (d - 9223372036854775808)) 9223372036854775807
        · rw [f, cond_false] at h
          rw [← Option.some.inj h]; exact full _
        · rw [f, cond_true] at h
          obtain ⟨f1, f3⟩ := and2 f
          obtain ⟨f1, f2⟩ := and2 f1
          have g1 := blet f1
          have g2 := blet f2
          have g3 := blet f3
          have w1 := lmul_ok (X := X) (Y := Y) (by omega) (by omega) hx.2 hy.2 g3
          have w2 : (a - 9223372036854775808) * (c - 9223372036854775808) ≤ (l2n X - 9223372036854775808) * (l2n Y - 9223372036854775808) := Nat.mul_le_mul (by omega) (by omega)
          rw [← Option.some.inj h, w1.2]
          exact ⟨Nat.add_le_add_right w2 _, Nat.add_le_add_right w1.1 _⟩
    · rw [e1, cond_true] at h
      have := beqt e1; subst this
      refine ⟨X - Y, rfl, ?_⟩
      cases f : Nat.ble d (a + 9223372036854775808) && Nat.ble (b + 9223372036854775808) (c + 18446744073709551615)
      · rw [f, cond_false] at h
        rw [← Option.some.inj h]; exact full _
      · rw [f, cond_true] at h
        obtain ⟨f1, f2⟩ := and2 f
        have g1 := blet f1
        have g2 := blet f2
        have w1 := kl_sub X Y
        rw [← Option.some.inj h]
        exact ⟨by show a + 9223372036854775808 - d ≤ _; omega, by show _ ≤ b + 9223372036854775808 - c; omega⟩
  · rw [e0, cond_true] at h
    have := beqt e0; subst this
    refine ⟨X + Y, rfl, ?_⟩
    cases f : Nat.ble 9223372036854775808 (a + c) && Nat.ble (b + d) 27670116110564327423
    · rw [f, cond_false] at h
      rw [← Option.some.inj h]; exact full _
    · rw [f, cond_true] at h
      obtain ⟨f1, f2⟩ := and2 f
      have g1 := blet f1
      have g2 := blet f2
      have w1 := kl_add X Y
      rw [← Option.some.inj h]
      exact ⟨by show a + c - 9223372036854775808 ≤ _; omega, by show _ ≤ b + d - 9223372036854775808; omega⟩
theorem lf_lbin_ok {k : Nat} {X Y z : Int64} {p q : Nat × Nat} (h : GK nu G) (hx : okn (g_n G) x) (hy : okn (g_n G) y) (ex : l2n X = sval nu x) (ey : l2n Y = sval nu y) (hp : p.1 ≤ l2n X ∧ l2n X ≤ p.2) (hq : q.1 ≤ l2n Y ∧ l2n Y ≤ q.2) (hz : lbin k X Y = some z) : ∀ g, lf_lbin k x y p q G = some g → LFn (g_n G) g ∧ LFeq nu (l2n z) g := by
  intro g hg
  have lx := l2n_lt X
  have ly := l2n_lt Y
  unfold lf_lbin at hg
  cases e0 : Nat.beq k 0
  · rw [e0, cond_false] at hg
    cases e1 : Nat.beq k 1
    · rw [e1, cond_false] at hg; cases hg
    · rw [e1, cond_true] at hg
      replace hg := bif_some hg
      obtain ⟨f1, hg⟩ := hg
      obtain ⟨f1, f2⟩ := and2 f1
      have g1 := blet f1
      have g2 := blet f2
      have := beqt e1; subst this
      have := Option.some.inj hz; subst this
      rw [← Option.some.inj hg]
      have w := kl_sub X Y
      exact lf_sub_ok h hx hy (by omega)
  · rw [e0, cond_true] at hg
    replace hg := bif_some hg
    obtain ⟨f1, hg⟩ := hg
    obtain ⟨f1, f2⟩ := and2 f1
    have g1 := blet f1
    have g2 := blet f2
    have := beqt e0; subst this
    have := Option.some.inj hz; subst this
    rw [← Option.some.inj hg]
    have w := kl_add X Y
    exact lf_add_ok h hx hy (by omega)
theorem y_lbin_ok {k : Nat} {X Y : Int64} (h : GK nu G) (hx : LV' nu (g_n G) x X) (hy : LV' nu (g_n G) y Y) (hs : y_lbin k x y G = some (v, G')) : ∃ nu' z, lbin k X Y = some z ∧ (NK nu G nu' G' ∧ LV' nu' (g_n G') v z) := by
  obtain ⟨ix, ox, ex⟩ := hx
  obtain ⟨iy, oy, ey⟩ := hy
  have bx := itv_ok h.1 x
  have by' := itv_ok h.1 y
  rw [← ex] at bx
  rw [← ey] at by'
  unfold y_lbin at hs
  rw [ix, iy] at hs
  rw [show (true && true) = true from rfl, cond_true] at hs
  dsimp only at hs
  cases h4 : y_lrng k (itv G x).1 (itv G x).2 (itv G y).1 (itv G y).2 with
  | none => rw [h4] at hs; cases hs
  | some w =>
    rw [h4] at hs
    obtain ⟨z, hz, hw⟩ := y_lrng_ok h4 bx by'
    have hk : k < 4 := by
      unfold lbin at hz
      split at hz <;> first | omega | cases hz
    dsimp only at hs
    obtain ⟨nu', m1, m2, m3, m4⟩ := y_memo_ok (k := 20 + k) (tg := 3) (w := l2n z) (f := lf_lbin k x y (itv G x) (itv G y) G) h ox oy (Or.inr (Or.inl ⟨by omega, X, Y, z, ex, ey, by rw [Nat.add_sub_cancel_left]; exact hz, rfl⟩)) hw.1 hw.2 (lf_lbin_ok h ox oy ex ey bx by' hz) (Or.inr rfl)
    have e := Option.some.inj hs
    rw [e] at m1 m2 m3 m4
    exact ⟨nu', z, hz, m1, by unfold isL; rw [m4]; rfl, m2, m3.symm⟩
theorem memo_i {k lo hi : Nat} {Z : Int32} {f : Option LF} {y : SV} (h : GK nu G) (hx : okn (g_n G) x) (hy : okn (g_n G) y) (ho : OpR k (sval nu x) (sval nu y) (i2n Z)) (h1 : lo ≤ i2n Z) (h2 : i2n Z ≤ hi) (hf : ∀ g, f = some g → LFn (g_n G) g ∧ LFeq nu (i2n Z) g) (hs : some (y_memo k x y 1 lo hi f G) = some (v, G')) : ∃ nu', NK nu G nu' G' ∧ IV nu' (g_n G') v Z := by
  obtain ⟨nu', m1, m2, m3, m4⟩ := y_memo_ok (tg := 1) h hx hy ho h1 h2 hf (Or.inl rfl)
  have e := Option.some.inj hs
  rw [e] at m1 m2 m3 m4
  exact ⟨nu', m1, by unfold isI; rw [m4]; rfl, m2, m3.symm⟩
theorem y_conv_ok {k : Nat} {V : Value} (h : GK nu G) (hx : (∃ X, V = .int X ∧ IV nu (g_n G) x X) ∨ (∃ X, V = .long X ∧ LV' nu (g_n G) x X)) (hs : y_conv k x G = some (v, G')) : ∃ nu' U, conv k V = some U ∧ (NK nu G nu' G' ∧ ((∃ Z, U = .int Z ∧ IV nu' (g_n G') v Z) ∨ (∃ Z, U = .long Z ∧ LV' nu' (g_n G') v Z))) := by
  have hIL : ∀ {s : SV}, isI s = true → isL s = true → False := by
    intro s h1 h2
    rcases isI_not h1 with e | e <;> (unfold isL at h2; rw [e] at h2; exact Bool.noConfusion h2)
  have nof : ∀ {w : Nat}, ∀ g, (none : Option LF) = some g → LFn (g_n G) g ∧ LFeq nu w g := fun g hg => by cases hg
  have bx := itv_ok h.1 x
  unfold y_conv at hs
  dsimp only at hs
  cases e1 : Nat.beq k 1
  · rw [e1, cond_false] at hs
    replace hs := bif_some hs
    obtain ⟨hI, hs⟩ := hs
    rcases hx with ⟨X, rfl, ix, ox, ex⟩ | ⟨X, rfl, ix, -⟩
    · rw [← ex] at bx
      have lx := i2n_lt X
      cases e0 : Nat.beq k 0
      · rw [e0, cond_false] at hs
        cases e2 : Nat.beq k 2
        · rw [e2, cond_false] at hs
          cases e3 : Nat.beq k 3
          · rw [e3, cond_false] at hs
            replace hs := bif_some hs
            obtain ⟨e4, hs⟩ := hs
            have := beqt e4; subst this
            obtain ⟨nu', m1, m2⟩ := memo_i (Z := -X) h ox snull_okn (Or.inr (Or.inr (Or.inr (Or.inr (Or.inr (Or.inr (Or.inl ⟨rfl, X, ex, rfl⟩))))))) (Nat.zero_le _) (by have := i2n_lt (-X); omega) nof hs
            exact ⟨nu', _, rfl, m1, Or.inl ⟨_, rfl, m2⟩⟩
          · rw [e3, cond_true] at hs
            have := beqt e3; subst this
            have w := cv_16 X
            obtain ⟨nu', m1, m2⟩ := memo_i (Z := X.toInt16.toInt32) h ox snull_okn (Or.inr (Or.inr (Or.inr (Or.inr (Or.inr (Or.inl ⟨rfl, X, ex, rfl⟩)))))) w.1 w.2 nof hs
            exact ⟨nu', _, rfl, m1, Or.inl ⟨_, rfl, m2⟩⟩
        · rw [e2, cond_true] at hs
          have := beqt e2; subst this
          have w := cv_8 X
          obtain ⟨nu', m1, m2⟩ := memo_i (Z := X.toInt8.toInt32) h ox snull_okn (Or.inr (Or.inr (Or.inr (Or.inr (Or.inl ⟨rfl, X, ex, rfl⟩))))) w.1 w.2 nof hs
          exact ⟨nu', _, rfl, m1, Or.inl ⟨_, rfl, m2⟩⟩
      · rw [e0, cond_true] at hs
        have := beqt e0; subst this
        have w := cv_l X
        cases f1 : Nat.beq x.1 0
        · rw [f1, cond_false] at hs
          obtain ⟨nu', m1, m2, m3, m4⟩ := y_memo_ok (k := 30) (tg := 3) (y := snull) (lo := (itv G x).1 + 9223372034707292160) (hi := (itv G x).2 + 9223372034707292160) (w := l2n X.toInt64) (f := some (lf_off G x 9223372034707292160 0)) h ox snull_okn (Or.inr (Or.inr (Or.inl ⟨rfl, X, ex, rfl⟩))) (by omega) (by omega) (fun g hg => by rw [← Option.some.inj hg]; exact lf_off_ok h ox (by omega)) (Or.inr rfl)
          have e := Option.some.inj hs
          rw [e] at m1 m2 m3 m4
          exact ⟨nu', _, rfl, m1, Or.inr ⟨_, rfl, by unfold isL; rw [m4]; rfl, m2, m3.symm⟩⟩
        · rw [f1, cond_true] at hs
          have e := Option.some.inj hs
          cases e
          refine ⟨nu, _, rfl, nk_refl h, Or.inr ⟨_, rfl, rfl, sk2_okn, ?_⟩⟩
          have : sval nu x = x.2.1 := by unfold sval isN; rw [beqt f1]; rfl
          rw [w, ex, this]; rfl
    · exact (hIL hI ix).elim
  · rw [e1, cond_true] at hs
    have := beqt e1; subst this
    replace hs := bif_some hs
    obtain ⟨hL, hs⟩ := hs
    rcases hx with ⟨X, rfl, ix, -⟩ | ⟨X, rfl, ix, ox, ex⟩
    · exact (hIL ix hL).elim
    · rw [← ex] at bx
      have w := cv_i X
      have ho : OpR 31 (sval nu x) (sval nu snull) (i2n X.toInt32) := Or.inr (Or.inr (Or.inr (Or.inl ⟨rfl, X, ex, rfl⟩)))
      cases f1 : Nat.ble 9223372034707292160 (itv G x).1 && Nat.ble (itv G x).2 9223372039002259455
      · rw [f1, cond_false] at hs
        obtain ⟨nu', m1, m2⟩ := memo_i (Z := X.toInt32) h ox snull_okn ho (Nat.zero_le _) (by have := i2n_lt X.toInt32; omega) nof hs
        exact ⟨nu', _, rfl, m1, Or.inl ⟨_, rfl, m2⟩⟩
      · rw [f1, cond_true] at hs
        obtain ⟨f1, f2⟩ := and2 f1
        have g1 := blet f1
        have g2 := blet f2
        obtain ⟨nu', m1, m2⟩ := memo_i (Z := X.toInt32) (f := some (lf_off G x 0 9223372034707292160)) h ox snull_okn ho (by omega) (by omega) (fun g hg => by rw [← Option.some.inj hg]; exact lf_off_ok h ox (by omega)) hs
        exact ⟨nu', _, rfl, m1, Or.inl ⟨_, rfl, m2⟩⟩
/-! comparisons -/
theorem nmin_ge {a b c : Nat} (h1 : c ≤ a) (h2 : c ≤ b) : c ≤ nmin a b := by
  unfold nmin
  cases Nat.ble a b
  · exact h2
  · exact h1
theorem nmax_le {a b c : Nat} (h1 : a ≤ c) (h2 : b ≤ c) : nmax a b ≤ c := by
  unfold nmax
  cases Nat.ble a b
  · exact h1
  · exact h2
theorem know2 {a b c d : Nat} (h : GK nu G) (x1 : a ≤ sval nu x) (x2 : sval nu x ≤ b) (y1 : c ≤ sval nu y) (y2 : sval nu y ≤ d) : NK nu G nu (y_know (y_know G x a b) y c d) := by
  have k1 := nk_know h x1 x2
  exact nk_trans k1 (nk_know k1.1 y1 y2)
theorem okn_nk (h : okn (g_n G) x) (k : NK nu G nu' G') : okn (g_n G') x := okn_up h k.2.2.1
theorem y_ltT_ok (h : GK nu G) (ox : okn (g_n G) x) (oy : okn (g_n G) y) (hl : sval nu x < sval nu y) : ∃ G2, y_ltT G x y = some G2 ∧ NK nu G nu G2 := by
  have bx := itv_ok h.1 x
  have by' := itv_ok h.1 y
  unfold y_ltT
  dsimp only
  have k1 := know2 (x := x) (y := y) (a := (itv G x).1) (b := nmin (itv G x).2 ((itv G y).2 - 1)) (c := nmax (itv G y).1 ((itv G x).1 + 1)) (d := (itv G y).2) h bx.1 (nmin_ge bx.2 (by omega)) (nmax_le by'.1 (by omega)) by'.2
  obtain ⟨G2, e2, k2⟩ := y_fact_ok (x := x) (y := y) (k := 1) k1.1 (okn_nk ox k1) (okn_nk oy k1) (by omega)
  exact ⟨G2, e2, nk_trans k1 k2⟩
theorem y_ltF_ok (h : GK nu G) (ox : okn (g_n G) x) (oy : okn (g_n G) y) (hl : ¬ sval nu x < sval nu y) : ∃ G2, y_ltF G x y = some G2 ∧ NK nu G nu G2 := by
  have bx := itv_ok h.1 x
  have by' := itv_ok h.1 y
  unfold y_ltF
  dsimp only
  have k1 := know2 (x := x) (y := y) (a := nmax (itv G x).1 (itv G y).1) (b := (itv G x).2) (c := (itv G y).1) (d := nmin (itv G y).2 (itv G x).2) h (nmax_le bx.1 (by omega)) bx.2 by'.1 (nmin_ge by'.2 (by omega))
  obtain ⟨G2, e2, k2⟩ := y_fact_ok (x := y) (y := x) (k := 0) k1.1 (okn_nk oy k1) (okn_nk ox k1) (by omega)
  exact ⟨G2, e2, nk_trans k1 k2⟩
theorem oL_mem {b : Bool} {o : Option SG} {G2 : SG} (h : o = some G2) : (b, G2) ∈ oL b o := by
  rw [h]; exact List.mem_cons_self
theorem y_lt_ok (t f : Bool) (h : GK nu G) (ox : okn (g_n G) x) (oy : okn (g_n G) y) : ∃ q, q ∈ y_lt G x y t f ∧ (q.1 = (if sval nu x < sval nu y then t else f) ∧ NK nu G nu q.2) := by
  have bx := itv_ok h.1 x
  have by' := itv_ok h.1 y
  unfold y_lt
  dsimp only
  cases e1 : Nat.ble (itv G y).2 (itv G x).1
  · rw [cond_false]
    cases e2 : Nat.ble ((itv G x).2 + 1) (itv G y).1
    · rw [cond_false]
      cases e3 : veq x y
      · rw [cond_false]
        cases e4 : y_le G x y 1 2
        · rw [cond_false]
          cases e5 : y_le G y x 0 2
          · rw [cond_false]
            by_cases hl : sval nu x < sval nu y
            · obtain ⟨G2, k1, k2⟩ := y_ltT_ok h ox oy hl
              exact ⟨(t, G2), List.mem_append_left _ (oL_mem k1), (if_pos hl).symm, k2⟩
            · obtain ⟨G2, k1, k2⟩ := y_ltF_ok h ox oy hl
              exact ⟨(f, G2), List.mem_append_right _ (oL_mem k1), (if_neg hl).symm, k2⟩
          · have := y_le_ok h oy ox e5
            exact ⟨(f, G), List.mem_cons_self, (if_neg (by omega)).symm, nk_refl h⟩
        · have := y_le_ok h ox oy e4
          exact ⟨(t, G), List.mem_cons_self, (if_pos (by omega)).symm, nk_refl h⟩
      · have := veq_ok e3
        subst this
        exact ⟨(f, G), List.mem_cons_self, (if_neg (by omega)).symm, nk_refl h⟩
    · have := blet e2
      exact ⟨(t, G), List.mem_cons_self, (if_pos (by omega)).symm, nk_refl h⟩
  · have := blet e1
    exact ⟨(f, G), List.mem_cons_self, (if_neg (by omega)).symm, nk_refl h⟩
theorem y_eqT_ok (h : GK nu G) (ox : okn (g_n G) x) (oy : okn (g_n G) y) (hl : sval nu x = sval nu y) : ∃ G2, y_eqT G x y = some G2 ∧ NK nu G nu G2 := by
  have bx := itv_ok h.1 x
  have by' := itv_ok h.1 y
  unfold y_eqT
  dsimp only
  have k1 := know2 (x := x) (y := y) (a := nmax (itv G x).1 (itv G y).1) (b := nmin (itv G x).2 (itv G y).2) (c := nmax (itv G x).1 (itv G y).1) (d := nmin (itv G x).2 (itv G y).2) h (nmax_le bx.1 (by omega)) (nmin_ge bx.2 (by omega)) (nmax_le (by omega) by'.1) (nmin_ge (by omega) by'.2)
  obtain ⟨G2, e2, k2⟩ := y_fact_ok (x := x) (y := y) (k := 0) k1.1 (okn_nk ox k1) (okn_nk oy k1) (by omega)
  obtain ⟨G3, e3, k3⟩ := y_fact_ok (x := y) (y := x) (k := 0) k2.1 (okn_nk (okn_nk oy k1) k2) (okn_nk (okn_nk ox k1) k2) (by omega)
  rw [e2]
  exact ⟨G3, e3, nk_trans k1 (nk_trans k2 k3)⟩
theorem y_neq_ok (f : Bool) (h : GK nu G) (ox : okn (g_n G) x) (oy : okn (g_n G) y) (hl : sval nu x ≠ sval nu y) : ∃ q, q ∈ y_neq G x y f ∧ (q.1 = f ∧ NK nu G nu q.2) := by
  have bx := itv_ok h.1 x
  have by' := itv_ok h.1 y
  unfold y_neq
  dsimp only
  cases e1 : Nat.beq (itv G y).1 (itv G y).2
  · rw [cond_false]
    cases e2 : Nat.beq (itv G x).1 (itv G x).2
    · rw [cond_false]
      cases e3 : y_le G x y 0 2
      · rw [cond_false]
        cases e4 : y_le G y x 0 2
        · rw [cond_false]
          rcases Nat.lt_or_gt_of_ne hl with g | g
          · obtain ⟨G2, k1, k2⟩ := y_ltT_ok h ox oy g
            exact ⟨(f, G2), List.mem_append_left _ (oL_mem k1), rfl, k2⟩
          · obtain ⟨G2, k1, k2⟩ := y_ltT_ok h oy ox g
            exact ⟨(f, G2), List.mem_append_right _ (oL_mem k1), rfl, k2⟩
        · have := y_le_ok h oy ox e4
          obtain ⟨G2, k1, k2⟩ := y_ltT_ok h oy ox (by omega)
          exact ⟨(f, G2), oL_mem k1, rfl, k2⟩
      · have := y_le_ok h ox oy e3
        obtain ⟨G2, k1, k2⟩ := y_ltT_ok h ox oy (by omega)
        exact ⟨(f, G2), oL_mem k1, rfl, k2⟩
    · rw [cond_true]
      have g := beqt e2
      rcases Nat.lt_or_gt_of_ne hl with k | k
      · refine ⟨(f, _), List.mem_append_right _ ?_, rfl, nk_know (v := y) (lo := nmax (itv G y).1 ((itv G x).1 + 1)) (hi := (itv G y).2) h (nmax_le by'.1 (by omega)) by'.2⟩
        rw [Nat.ble_eq_true_of_le (show (itv G x).1 + 1 ≤ (itv G y).2 by omega)]
        exact List.mem_cons_self
      · refine ⟨(f, _), List.mem_append_left _ ?_, rfl, nk_know (v := y) (lo := (itv G y).1) (hi := nmin (itv G y).2 ((itv G x).1 - 1)) h by'.1 (nmin_ge by'.2 (by omega))⟩
        rw [Nat.ble_eq_true_of_le (show (itv G y).1 + 1 ≤ (itv G x).1 by omega)]
        exact List.mem_cons_self
  · rw [cond_true]
    have g := beqt e1
    rcases Nat.lt_or_gt_of_ne hl with k | k
    · refine ⟨(f, _), List.mem_append_left _ ?_, rfl, nk_know (v := x) (lo := (itv G x).1) (hi := nmin (itv G x).2 ((itv G y).1 - 1)) h bx.1 (nmin_ge bx.2 (by omega))⟩
      rw [Nat.ble_eq_true_of_le (show (itv G x).1 + 1 ≤ (itv G y).1 by omega)]
      exact List.mem_cons_self
    · refine ⟨(f, _), List.mem_append_right _ ?_, rfl, nk_know (v := x) (lo := nmax (itv G x).1 ((itv G y).1 + 1)) (hi := (itv G x).2) h (nmax_le bx.1 (by omega)) bx.2⟩
      rw [Nat.ble_eq_true_of_le (show (itv G y).1 + 1 ≤ (itv G x).2 by omega)]
      exact List.mem_cons_self
theorem or2 {p q : Bool} (h : (p || q) = true) : p = true ∨ q = true := by
  cases p
  · exact Or.inr h
  · exact Or.inl rfl
theorem y_eq_ok (t f : Bool) (h : GK nu G) (ox : okn (g_n G) x) (oy : okn (g_n G) y) : ∃ q, q ∈ y_eq G x y t f ∧ (q.1 = (if sval nu x = sval nu y then t else f) ∧ NK nu G nu q.2) := by
  have bx := itv_ok h.1 x
  have by' := itv_ok h.1 y
  have last : ∃ q, q ∈ oL t (y_eqT G x y) ++ y_neq G x y f ∧ (q.1 = (if sval nu x = sval nu y then t else f) ∧ NK nu G nu q.2) := by
    by_cases hl : sval nu x = sval nu y
    · obtain ⟨G2, k1, k2⟩ := y_eqT_ok h ox oy hl
      exact ⟨(t, G2), List.mem_append_left _ (oL_mem k1), (if_pos hl).symm, k2⟩
    · obtain ⟨q, k1, k2, k3⟩ := y_neq_ok f h ox oy hl
      exact ⟨q, List.mem_append_right _ k1, by rw [k2, if_neg hl], k3⟩
  unfold y_eq
  dsimp only
  cases e1 : veq x y
  · rw [cond_false]
    cases e2 : Nat.ble ((itv G x).2 + 1) (itv G y).1 || Nat.ble ((itv G y).2 + 1) (itv G x).1
    · rw [cond_false]
      cases e3 : Nat.beq (itv G x).1 (itv G x).2 && (Nat.beq (itv G y).1 (itv G y).2 && Nat.beq (itv G x).1 (itv G y).1)
      · rw [cond_false]
        cases e4 : isN x && isN y
        · rw [cond_false]; exact last
        · rw [cond_true]
          cases e5 : y_le G x y 1 2 || y_le G y x 1 2
          · rw [cond_false]
            cases e6 : y_le G x y 0 2 && y_le G y x 0 2
            · rw [cond_false]; exact last
            · obtain ⟨f1, f2⟩ := and2 e6
              have := y_le_ok h ox oy f1
              have := y_le_ok h oy ox f2
              exact ⟨(t, G), List.mem_cons_self, (if_pos (by omega)).symm, nk_refl h⟩
          · refine ⟨(f, G), List.mem_cons_self, (if_neg ?_).symm, nk_refl h⟩
            rcases or2 e5 with f1 | f1
            · have := y_le_ok h ox oy f1; omega
            · have := y_le_ok h oy ox f1; omega
      · obtain ⟨f1, f2⟩ := and2 e3
        obtain ⟨f2, f3⟩ := and2 f2
        have := beqt f1
        have := beqt f2
        have := beqt f3
        exact ⟨(t, G), List.mem_cons_self, (if_pos (by omega)).symm, nk_refl h⟩
    · refine ⟨(f, G), List.mem_cons_self, (if_neg ?_).symm, nk_refl h⟩
      rcases or2 e2 with f1 | f1
      · have := blet f1; omega
      · have := blet f1; omega
  · have := veq_ok e1
    subst this
    exact ⟨(t, G), List.mem_cons_self, (if_pos rfl).symm, nk_refl h⟩
theorem y_cond_ok {k : Nat} {X Y : Int32} {l : List (Bool × SG)} (h : GK nu G) (hx : IV nu (g_n G) x X) (hy : IV nu (g_n G) y Y) (hs : y_cond k x y G = some l) : ∃ q, q ∈ l ∧ (icond k X Y = some q.1 ∧ NK nu G nu q.2) := by
  obtain ⟨ix, ox, ex⟩ := hx
  obtain ⟨iy, oy, ey⟩ := hy
  have hE : X = Y ↔ sval nu x = sval nu y := ⟨fun e => by rw [← ex, ← ey, e], fun e => i2n_inj (by rw [ex, ey, e])⟩
  have hL : X < Y ↔ sval nu x < sval nu y := by rw [i_lt, ex, ey]
  have hL' : Y < X ↔ sval nu y < sval nu x := by rw [i_lt, ex, ey]
  have hG : Y ≤ X ↔ ¬ sval nu x < sval nu y := by rw [i_le, ex, ey]; omega
  have hG' : X ≤ Y ↔ ¬ sval nu y < sval nu x := by rw [i_le, ex, ey]; omega
  unfold y_cond at hs
  replace hs := bif_some hs
  obtain ⟨-, hs⟩ := hs
  cases e0 : Nat.beq k 0
  · rw [e0, cond_false] at hs
    cases e1 : Nat.beq k 1
    · rw [e1, cond_false] at hs
      cases e2 : Nat.beq k 2
      · rw [e2, cond_false] at hs
        cases e3 : Nat.beq k 3
        · rw [e3, cond_false] at hs
          cases e4 : Nat.beq k 4
          · rw [e4, cond_false] at hs
            replace hs := bif_some hs
            obtain ⟨e5, hs⟩ := hs
            have := beqt e5; subst this
            obtain ⟨q, q1, q2, q3⟩ := y_lt_ok (x := y) (y := x) false true h oy ox
            refine ⟨q, by rw [← Option.some.inj hs]; exact q1, ?_, q3⟩
            show some (decide (X ≤ Y)) = some q.1
            rw [q2]
            by_cases hc : sval nu y < sval nu x
            · rw [if_pos hc, decide_eq_false fun e => hG'.mp e hc]
            · rw [if_neg hc, decide_eq_true (hG'.mpr hc)]
          · rw [e4, cond_true] at hs
            have := beqt e4; subst this
            obtain ⟨q, q1, q2, q3⟩ := y_lt_ok (x := y) (y := x) true false h oy ox
            refine ⟨q, by rw [← Option.some.inj hs]; exact q1, ?_, q3⟩
            show some (decide (Y < X)) = some q.1
            rw [q2]
            by_cases hc : sval nu y < sval nu x
            · rw [if_pos hc, decide_eq_true (hL'.mpr hc)]
            · rw [if_neg hc, decide_eq_false fun e => hc (hL'.mp e)]
        · rw [e3, cond_true] at hs
          have := beqt e3; subst this
          obtain ⟨q, q1, q2, q3⟩ := y_lt_ok (x := x) (y := y) false true h ox oy
          refine ⟨q, by rw [← Option.some.inj hs]; exact q1, ?_, q3⟩
          show some (decide (Y ≤ X)) = some q.1
          rw [q2]
          by_cases hc : sval nu x < sval nu y
          · rw [if_pos hc, decide_eq_false fun e => hG.mp e hc]
          · rw [if_neg hc, decide_eq_true (hG.mpr hc)]
      · rw [e2, cond_true] at hs
        have := beqt e2; subst this
        obtain ⟨q, q1, q2, q3⟩ := y_lt_ok (x := x) (y := y) true false h ox oy
        refine ⟨q, by rw [← Option.some.inj hs]; exact q1, ?_, q3⟩
        show some (decide (X < Y)) = some q.1
        rw [q2]
        by_cases hc : sval nu x < sval nu y
        · rw [if_pos hc, decide_eq_true (hL.mpr hc)]
        · rw [if_neg hc, decide_eq_false fun e => hc (hL.mp e)]
    · rw [e1, cond_true] at hs
      have := beqt e1; subst this
      obtain ⟨q, q1, q2, q3⟩ := y_eq_ok (x := x) (y := y) false true h ox oy
      refine ⟨q, by rw [← Option.some.inj hs]; exact q1, ?_, q3⟩
      show some (decide (¬ X = Y)) = some q.1
      rw [q2]
      by_cases hc : sval nu x = sval nu y
      · rw [if_pos hc, decide_eq_false (p := ¬ X = Y) (fun e => e (hE.mpr hc))]
      · rw [if_neg hc, decide_eq_true (p := ¬ X = Y) (fun e => hc (hE.mp e))]
  · rw [e0, cond_true] at hs
    have := beqt e0; subst this
    obtain ⟨q, q1, q2, q3⟩ := y_eq_ok (x := x) (y := y) true false h ox oy
    refine ⟨q, by rw [← Option.some.inj hs]; exact q1, ?_, q3⟩
    show some (decide (X = Y)) = some q.1
    rw [q2]
    by_cases hc : sval nu x = sval nu y
    · rw [if_pos hc, decide_eq_true (hE.mpr hc)]
    · rw [if_neg hc, decide_eq_false fun e => hc (hE.mp e)]
end
