/-! ===== equality; all comparisons ===== -/
theorem bif_some {α : Type} {c : Bool} {x : Option α} {r : α} (h : (bif c then x else none) = some r) : c = true ∧ x = some r := by
  cases c
  · exact absurd h (by intro h; cases h)
  · exact ⟨rfl, h⟩
section
variable {al0 nu : Nat → Nat} {n a b c d : Nat} {x y : SV} {X Y : Int32} {G : SG}
theorem s_eq_ok (t f : Bool) (hg : GK nu G) (hx : SVm al0 nu n (g_n G) x (.int X)) (hy : SVm al0 nu n (g_n G) y (.int Y)) (ix : a ≤ i2n X ∧ i2n X ≤ b) (iy : c ≤ i2n Y ∧ i2n Y ≤ d) :
    ∃ q, q ∈ s_eq x y a b c d G t f ∧ (q.1 = (if X = Y then t else f) ∧ Same nu G q.2) := by
  obtain ⟨x1, x2⟩ := ix
  obtain ⟨y1, y2⟩ := iy
  unfold s_eq
  cases hb : Nat.beq x.1 1 && veq x y
  · rw [cond_false]
    by_cases h : X = Y
    · have hi : i2n X = i2n Y := by rw [h]
      have k1 := s_know_ok (lo := nmax a c) (hi := nmin b d) hg hx (nmax_le x1 (by omega)) (nmin_le x2 (by omega))
      have k2 := s_know_ok (lo := nmax a c) (hi := nmin b d) k1.1 (sv_n hy k1) (nmax_le (by omega) y1) (nmin_le (by omega) y2)
      have e : (Nat.ble a d && Nat.ble c b) = true := by
        rw [Nat.ble_eq_true_of_le (show a ≤ d by omega), Nat.ble_eq_true_of_le (show c ≤ b by omega)]; rfl
      refine ⟨(t, _), List.mem_append_left _ ?_, (if_pos h).symm, same_trans k1 k2⟩
      rw [e]; exact List.mem_cons_self
    · have hi : i2n X ≠ i2n Y := fun e => h (i2n_inj e)
      rw [if_neg h]
      cases hc : Nat.beq c d
      · rw [cond_false]
        cases ha : Nat.beq a b
        · exact ⟨(f, G), List.mem_append_right _ List.mem_cons_self, rfl, same_refl hg⟩
        · have := beqt ha
          rw [cond_true]
          rcases Nat.lt_or_ge (i2n Y) a with h1 | h1
          · have e : Nat.ble (c + 1) a = true := Nat.ble_eq_true_of_le (by omega)
            have k := s_know_ok (lo := c) (hi := nmin d (a - 1)) hg hy y1 (nmin_le y2 (by omega))
            refine ⟨(f, _), List.mem_append_right _ (List.mem_append_left _ ?_), rfl, k⟩
            rw [e]; exact List.mem_cons_self
          · have e : Nat.ble (a + 1) d = true := Nat.ble_eq_true_of_le (by omega)
            have k := s_know_ok (lo := nmax c (a + 1)) (hi := d) hg hy (nmax_le y1 (by omega)) y2
            refine ⟨(f, _), List.mem_append_right _ (List.mem_append_right _ ?_), rfl, k⟩
            rw [e]; exact List.mem_cons_self
      · have := beqt hc
        rw [cond_true]
        rcases Nat.lt_or_ge (i2n X) c with h1 | h1
        · have e : Nat.ble (a + 1) c = true := Nat.ble_eq_true_of_le (by omega)
          have k := s_know_ok (lo := a) (hi := nmin b (c - 1)) hg hx x1 (nmin_le x2 (by omega))
          refine ⟨(f, _), List.mem_append_right _ (List.mem_append_left _ ?_), rfl, k⟩
          rw [e]; exact List.mem_cons_self
        · have e : Nat.ble (c + 1) b = true := Nat.ble_eq_true_of_le (by omega)
          have k := s_know_ok (lo := nmax a (c + 1)) (hi := b) hg hx (nmax_le x1 (by omega)) x2
          refine ⟨(f, _), List.mem_append_right _ (List.mem_append_right _ ?_), rfl, k⟩
          rw [e]; exact List.mem_cons_self
  · rw [cond_true]
    obtain ⟨f1, f2⟩ := and2 hb
    have hxy := veq_ok f2
    have g1 := beqt f1
    have vx := sv_val hx (by unfold fixd; rw [g1]; rfl)
    have vy := sv_val hy (by unfold fixd; rw [← hxy, g1]; rfl)
    rw [← hxy] at vy
    have h : X = Y := i2n_inj (vx.1.trans vy.1.symm)
    exact ⟨(t, G), List.mem_cons_self, (if_pos h).symm, same_refl hg⟩
theorem i_lt (X Y : Int32) : X < Y ↔ i2n X < i2n Y := by
  rw [Int32.lt_iff_toInt_lt]
  have h1 := i2n_z X
  have h2 := i2n_z Y
  omega
theorem i_le (X Y : Int32) : X ≤ Y ↔ i2n X ≤ i2n Y := by
  rw [Int32.le_iff_toInt_le]
  have h1 := i2n_z X
  have h2 := i2n_z Y
  omega
theorem s_cond_ok {k : Nat} {l : List (Bool × SG)} (hg : GK nu G) (hx : SVm al0 nu n (g_n G) x (.int X)) (hy : SVm al0 nu n (g_n G) y (.int Y)) (h : s_cond k x y G = some l) :
    ∃ q, q ∈ l ∧ (icond k X Y = some q.1 ∧ Same nu G q.2) := by
  have ix := sv_itv hx hg.1
  have iy := sv_itv hy hg.1
  unfold s_cond at h
  replace h := bif_some h
  obtain ⟨h0, h⟩ := h
  dsimp only at h
  cases e0 : Nat.beq k 0
  · rw [e0, cond_false] at h
    cases e1 : Nat.beq k 1
    · rw [e1, cond_false] at h
      cases e2 : Nat.beq k 2
      · rw [e2, cond_false] at h
        cases e3 : Nat.beq k 3
        · rw [e3, cond_false] at h
          cases e4 : Nat.beq k 4
          · rw [e4, cond_false] at h
            replace h := bif_some h
            obtain ⟨e5, h⟩ := h
            have := beqt e5; subst this
            obtain ⟨q, h1, h2, h3⟩ := s_lt_ok false true hg hy hx iy ix
            refine ⟨q, by rw [← Option.some.inj h]; exact h1, ?_, h3⟩
            show some (decide (X ≤ Y)) = some q.1
            rw [h2]
            by_cases hc : i2n Y < i2n X
            · rw [if_pos hc, decide_eq_false (fun e => by have := (i_le X Y).1 e; omega)]
            · rw [if_neg hc, decide_eq_true ((i_le X Y).2 (by omega))]
          · rw [e4, cond_true] at h
            have := beqt e4; subst this
            obtain ⟨q, h1, h2, h3⟩ := s_lt_ok true false hg hy hx iy ix
            refine ⟨q, by rw [← Option.some.inj h]; exact h1, ?_, h3⟩
            show some (decide (Y < X)) = some q.1
            rw [h2]
            by_cases hc : i2n Y < i2n X
            · rw [if_pos hc, decide_eq_true ((i_lt Y X).2 hc)]
            · rw [if_neg hc, decide_eq_false (fun e => hc ((i_lt Y X).1 e))]
        · rw [e3, cond_true] at h
          have := beqt e3; subst this
          obtain ⟨q, h1, h2, h3⟩ := s_lt_ok false true hg hx hy ix iy
          refine ⟨q, by rw [← Option.some.inj h]; exact h1, ?_, h3⟩
          show some (decide (Y ≤ X)) = some q.1
          rw [h2]
          by_cases hc : i2n X < i2n Y
          · rw [if_pos hc, decide_eq_false (fun e => by have := (i_le Y X).1 e; omega)]
          · rw [if_neg hc, decide_eq_true ((i_le Y X).2 (by omega))]
      · rw [e2, cond_true] at h
        have := beqt e2; subst this
        obtain ⟨q, h1, h2, h3⟩ := s_lt_ok true false hg hx hy ix iy
        refine ⟨q, by rw [← Option.some.inj h]; exact h1, ?_, h3⟩
        show some (decide (X < Y)) = some q.1
        rw [h2]
        by_cases hc : i2n X < i2n Y
        · rw [if_pos hc, decide_eq_true ((i_lt X Y).2 hc)]
        · rw [if_neg hc, decide_eq_false (fun e => hc ((i_lt X Y).1 e))]
    · rw [e1, cond_true] at h
      have := beqt e1; subst this
      obtain ⟨q, h1, h2, h3⟩ := s_eq_ok false true hg hx hy ix iy
      refine ⟨q, by rw [← Option.some.inj h]; exact h1, ?_, h3⟩
      show some (decide (¬ X = Y)) = some q.1
      rw [h2]
      by_cases hc : X = Y
      · rw [if_pos hc, decide_eq_false (fun e => e hc)]
      · rw [if_neg hc, decide_eq_true hc]
  · rw [e0, cond_true] at h
    have := beqt e0; subst this
    obtain ⟨q, h1, h2, h3⟩ := s_eq_ok true false hg hx hy ix iy
    refine ⟨q, by rw [← Option.some.inj h]; exact h1, ?_, h3⟩
    show some (decide (X = Y)) = some q.1
    rw [h2]
    by_cases hc : X = Y
    · rw [if_pos hc, decide_eq_true hc]
    · rw [if_neg hc, decide_eq_false hc]
end
