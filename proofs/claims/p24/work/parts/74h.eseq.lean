/-! ===== equality; all comparisons ===== -/
theorem qe_bif_some {α : Type} {c : Bool} {x : Option α} {r : α} (h : (bif c then x else none) = some r) : c = true ∧ x = some r := by
  cases c
  · exact absurd h (by intro h; cases h)
  · exact ⟨rfl, h⟩
section
variable {al0 nu : Nat → Nat} {n a b c d : Nat} {x y : qe_SV} {X Y : Int32} {G : qe_SG}
theorem qe_s_eq_ok (t f : Bool) (hg : qe_GK nu G) (hx : qe_SVm al0 nu n (qe_g_n G) x (.int X)) (hy : qe_SVm al0 nu n (qe_g_n G) y (.int Y)) (ix : a ≤ qe_i2n X ∧ qe_i2n X ≤ b) (iy : c ≤ qe_i2n Y ∧ qe_i2n Y ≤ d) :
    ∃ q, q ∈ qe_s_eq x y a b c d G t f ∧ (q.1 = (if X = Y then t else f) ∧ qe_Same nu G q.2) := by
  obtain ⟨x1, x2⟩ := ix
  obtain ⟨y1, y2⟩ := iy
  unfold qe_s_eq
  cases hb : Nat.beq x.1 1 && qe_veq x y
  · rw [cond_false]
    by_cases h : X = Y
    · have hi : qe_i2n X = qe_i2n Y := by rw [h]
      have k1 := qe_s_know_ok (lo := qe_nmax a c) (hi := qe_nmin b d) hg hx (qe_nmax_le x1 (by omega)) (qe_nmin_le x2 (by omega))
      have k2 := qe_s_know_ok (lo := qe_nmax a c) (hi := qe_nmin b d) k1.1 (qe_sv_n hy k1) (qe_nmax_le (by omega) y1) (qe_nmin_le (by omega) y2)
      have e : (Nat.ble a d && Nat.ble c b) = true := by
        rw [Nat.ble_eq_true_of_le (show a ≤ d by omega), Nat.ble_eq_true_of_le (show c ≤ b by omega)]; rfl
      refine ⟨(t, _), List.mem_append_left _ ?_, (if_pos h).symm, qe_same_trans k1 k2⟩
      rw [e]; exact List.mem_cons_self
    · have hi : qe_i2n X ≠ qe_i2n Y := fun e => h (qe_i2n_inj e)
      rw [if_neg h]
      cases hc : Nat.beq c d
      · rw [cond_false]
        cases ha : Nat.beq a b
        · exact ⟨(f, G), List.mem_append_right _ List.mem_cons_self, rfl, qe_same_refl hg⟩
        · have := qe_beqt ha
          rw [cond_true]
          rcases Nat.lt_or_ge (qe_i2n Y) a with h1 | h1
          · have e : Nat.ble (c + 1) a = true := Nat.ble_eq_true_of_le (by omega)
            have k := qe_s_know_ok (lo := c) (hi := qe_nmin d (a - 1)) hg hy y1 (qe_nmin_le y2 (by omega))
            refine ⟨(f, _), List.mem_append_right _ (List.mem_append_left _ ?_), rfl, k⟩
            rw [e]; exact List.mem_cons_self
          · have e : Nat.ble (a + 1) d = true := Nat.ble_eq_true_of_le (by omega)
            have k := qe_s_know_ok (lo := qe_nmax c (a + 1)) (hi := d) hg hy (qe_nmax_le y1 (by omega)) y2
            refine ⟨(f, _), List.mem_append_right _ (List.mem_append_right _ ?_), rfl, k⟩
            rw [e]; exact List.mem_cons_self
      · have := qe_beqt hc
        rw [cond_true]
        rcases Nat.lt_or_ge (qe_i2n X) c with h1 | h1
        · have e : Nat.ble (a + 1) c = true := Nat.ble_eq_true_of_le (by omega)
          have k := qe_s_know_ok (lo := a) (hi := qe_nmin b (c - 1)) hg hx x1 (qe_nmin_le x2 (by omega))
          refine ⟨(f, _), List.mem_append_right _ (List.mem_append_left _ ?_), rfl, k⟩
          rw [e]; exact List.mem_cons_self
        · have e : Nat.ble (c + 1) b = true := Nat.ble_eq_true_of_le (by omega)
          have k := qe_s_know_ok (lo := qe_nmax a (c + 1)) (hi := b) hg hx (qe_nmax_le x1 (by omega)) x2
          refine ⟨(f, _), List.mem_append_right _ (List.mem_append_right _ ?_), rfl, k⟩
          rw [e]; exact List.mem_cons_self
  · rw [cond_true]
    obtain ⟨f1, f2⟩ := qe_and2 hb
    have hxy := qe_veq_ok f2
    have g1 := qe_beqt f1
    have vx := qe_sv_val hx (by unfold qe_fixd; rw [g1]; rfl)
    have vy := qe_sv_val hy (by unfold qe_fixd; rw [← hxy, g1]; rfl)
    rw [← hxy] at vy
    have h : X = Y := qe_i2n_inj (vx.1.trans vy.1.symm)
    exact ⟨(t, G), List.mem_cons_self, (if_pos h).symm, qe_same_refl hg⟩
theorem qe_i_lt (X Y : Int32) : X < Y ↔ qe_i2n X < qe_i2n Y := by
  rw [Int32.lt_iff_toInt_lt]
  have h1 := qe_i2n_z X
  have h2 := qe_i2n_z Y
  omega
theorem qe_i_le (X Y : Int32) : X ≤ Y ↔ qe_i2n X ≤ qe_i2n Y := by
  rw [Int32.le_iff_toInt_le]
  have h1 := qe_i2n_z X
  have h2 := qe_i2n_z Y
  omega
theorem qe_s_cond_ok {k : Nat} {l : List (Bool × qe_SG)} (hg : qe_GK nu G) (hx : qe_SVm al0 nu n (qe_g_n G) x (.int X)) (hy : qe_SVm al0 nu n (qe_g_n G) y (.int Y)) (h : qe_s_cond k x y G = some l) :
    ∃ q, q ∈ l ∧ (icond k X Y = some q.1 ∧ qe_Same nu G q.2) := by
  have ix := qe_sv_itv hx hg.1
  have iy := qe_sv_itv hy hg.1
  unfold qe_s_cond at h
  replace h := qe_bif_some h
  obtain ⟨h0, h⟩ := h
  dsimp only at h
  cases e0 : Nat.beq k 0
  · rw [e0, cond_false] at h
    cases e1 : Nat.beq k 1
    · rw [e1, cond_false] at h
      cases e2 : Nat.beq k 2
      · rw [e2, cond_false] at h
        cases e3 : Nat.beq k 3
        · rw [e3, cond_false] at h
          cases e4 : Nat.beq k 4
          · rw [e4, cond_false] at h
            replace h := qe_bif_some h
            obtain ⟨e5, h⟩ := h
            have := qe_beqt e5; subst this
            obtain ⟨q, h1, h2, h3⟩ := qe_s_lt_ok false true hg hy hx iy ix
            refine ⟨q, by rw [← Option.some.inj h]; exact h1, ?_, h3⟩
            show some (decide (X ≤ Y)) = some q.1
            rw [h2]
            by_cases hc : qe_i2n Y < qe_i2n X
            · rw [if_pos hc, decide_eq_false (fun e => by have := (qe_i_le X Y).1 e; omega)]
            · rw [if_neg hc, decide_eq_true ((qe_i_le X Y).2 (by omega))]
          · rw [e4, cond_true] at h
            have := qe_beqt e4; subst this
            obtain ⟨q, h1, h2, h3⟩ := qe_s_lt_ok true false hg hy hx iy ix
            refine ⟨q, by rw [← Option.some.inj h]; exact h1, ?_, h3⟩
            show some (decide (Y < X)) = some q.1
            rw [h2]
            by_cases hc : qe_i2n Y < qe_i2n X
            · rw [if_pos hc, decide_eq_true ((qe_i_lt Y X).2 hc)]
            · rw [if_neg hc, decide_eq_false (fun e => hc ((qe_i_lt Y X).1 e))]
        · rw [e3, cond_true] at h
          have := qe_beqt e3; subst this
          obtain ⟨q, h1, h2, h3⟩ := qe_s_lt_ok false true hg hx hy ix iy
          refine ⟨q, by rw [← Option.some.inj h]; exact h1, ?_, h3⟩
          show some (decide (Y ≤ X)) = some q.1
          rw [h2]
          by_cases hc : qe_i2n X < qe_i2n Y
          · rw [if_pos hc, decide_eq_false (fun e => by have := (qe_i_le Y X).1 e; omega)]
          · rw [if_neg hc, decide_eq_true ((qe_i_le Y X).2 (by omega))]
      · rw [e2, cond_true] at h
        have := qe_beqt e2; subst this
        obtain ⟨q, h1, h2, h3⟩ := qe_s_lt_ok true false hg hx hy ix iy
        refine ⟨q, by rw [← Option.some.inj h]; exact h1, ?_, h3⟩
        show some (decide (X < Y)) = some q.1
        rw [h2]
        by_cases hc : qe_i2n X < qe_i2n Y
        · rw [if_pos hc, decide_eq_true ((qe_i_lt X Y).2 hc)]
        · rw [if_neg hc, decide_eq_false (fun e => hc ((qe_i_lt X Y).1 e))]
    · rw [e1, cond_true] at h
      have := qe_beqt e1; subst this
      obtain ⟨q, h1, h2, h3⟩ := qe_s_eq_ok false true hg hx hy ix iy
      refine ⟨q, by rw [← Option.some.inj h]; exact h1, ?_, h3⟩
      show some (decide (¬ X = Y)) = some q.1
      rw [h2]
      by_cases hc : X = Y
      · rw [if_pos hc, decide_eq_false (fun e => e hc)]
      · rw [if_neg hc, decide_eq_true hc]
  · rw [e0, cond_true] at h
    have := qe_beqt e0; subst this
    obtain ⟨q, h1, h2, h3⟩ := qe_s_eq_ok true false hg hx hy ix iy
    refine ⟨q, by rw [← Option.some.inj h]; exact h1, ?_, h3⟩
    show some (decide (X = Y)) = some q.1
    rw [h2]
    by_cases hc : X = Y
    · rw [if_pos hc, decide_eq_true hc]
    · rw [if_neg hc, decide_eq_false hc]
end
