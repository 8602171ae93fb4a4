/-! ===== comparisons ===== -/
noncomputable def qe_Same (nu : Nat → Nat) (G G' : qe_SG) : Prop := qe_GK nu G' ∧ (qe_g_n G' = qe_g_n G ∧ (qe_g_h G' = qe_g_h G ∧ qe_g_u G' = qe_g_u G))
theorem qe_same_refl {nu : Nat → Nat} {G : qe_SG} (h : qe_GK nu G) : qe_Same nu G G := ⟨h, rfl, rfl, rfl⟩
theorem qe_same_trans {nu : Nat → Nat} {G G' G'' : qe_SG} (h : qe_Same nu G G') (h2 : qe_Same nu G' G'') : qe_Same nu G G'' := ⟨h2.1, h2.2.1.trans h.2.1, h2.2.2.1.trans h.2.2.1, h2.2.2.2.trans h.2.2.2⟩
theorem qe_same_ext {nu : Nat → Nat} {G G' : qe_SG} (h : qe_Same nu G G') : qe_Ext nu G nu G' := ⟨fun _ _ => rfl, Nat.le_of_eq h.2.1.symm, h.2.2.1, h.2.2.2⟩
theorem qe_env_know {nu : Nat → Nat} {e : List (Nat × Nat × Nat)} {m lo hi : Nat} (h : qe_EnvN nu e) (h1 : lo ≤ nu m) (h2 : nu m ≤ hi) : qe_EnvN nu ((m, lo, hi) :: e) := by
  intro i
  rw [qe_e_find]
  cases hb : Nat.beq m i
  · exact h i
  · have := qe_beqt hb
    subst this
    exact ⟨h1, h2⟩
theorem qe_s_know_ok {al0 nu : Nat → Nat} {n m lo hi : Nat} {v : qe_SV} {X : Int32} {G : qe_SG} (hg : qe_GK nu G) (hv : qe_SVm al0 nu n m v (.int X)) (h1 : lo ≤ qe_i2n X) (h2 : qe_i2n X ≤ hi) : qe_Same nu G (qe_s_know G v lo hi) := by
  unfold qe_s_know
  cases hb : Nat.beq v.1 1
  · exact qe_same_refl hg
  · rw [cond_true]
    rcases hv with ⟨e, _⟩ | ⟨_, _, e⟩
    · rw [e] at hb; exact Bool.noConfusion hb
    · exact ⟨⟨qe_env_know hg.1 (by rw [← e]; exact h1) (by rw [← e]; exact h2), hg.2⟩, rfl, rfl, rfl⟩
theorem qe_nmin_le {a b x : Nat} (h1 : x ≤ a) (h2 : x ≤ b) : x ≤ qe_nmin a b := by unfold qe_nmin; cases Nat.ble a b <;> assumption
theorem qe_nmax_le {a b x : Nat} (h1 : a ≤ x) (h2 : b ≤ x) : qe_nmax a b ≤ x := by unfold qe_nmax; cases Nat.ble a b <;> assumption
theorem qe_blef {a b : Nat} (h : Nat.ble a b = false) : b < a := by
  by_cases hc : a ≤ b
  · rw [Nat.ble_eq_true_of_le hc] at h; exact Bool.noConfusion h
  · omega
theorem qe_s_fact_ok {al0 nu : Nat → Nat} {n b : Nat} {x y : qe_SV} {X Y : Int32} {G : qe_SG} (hg : qe_GK nu G) (hx : qe_SVm al0 nu n (qe_g_n G) x (.int X)) (hy : qe_SVm al0 nu n (qe_g_n G) y (.int Y))
    (h1 : b = 1 → qe_i2n X < qe_i2n Y) (h0 : b = 0 → qe_i2n Y ≤ qe_i2n X) : qe_Same nu G (qe_s_fact G x y b) := by
  unfold qe_s_fact
  cases hb : Nat.beq x.1 1 && Nat.beq y.1 1
  · exact qe_same_refl hg
  · rw [cond_true]
    obtain ⟨f1, f2⟩ := qe_and2 hb
    have g1 := qe_beqt f1
    have g2 := qe_beqt f2
    have vx := qe_sv_val hx (by unfold qe_fixd; rw [g1]; rfl)
    have vy := qe_sv_val hy (by unfold qe_fixd; rw [g2]; rfl)
    refine ⟨⟨hg.1, ?_⟩, rfl, rfl, rfl⟩
    intro d hd
    rcases List.mem_cons.mp hd with rfl | hd
    · refine ⟨vx.2, vy.2, .inl ⟨rfl, ?_, ?_⟩⟩
      · intro e; rw [← vx.1, ← vy.1]; exact h1 e
      · intro e; rw [← vx.1, ← vy.1]; exact h0 e
    · exact hg.2 d hd
theorem qe_sv_n {al0 nu : Nat → Nat} {n : Nat} {s : qe_SV} {v : Value} {G G' : qe_SG} (h : qe_SVm al0 nu n (qe_g_n G) s v) (hs : qe_Same nu G G') : qe_SVm al0 nu n (qe_g_n G') s v := by
  rw [hs.2.1]; exact h
section
variable {al0 nu : Nat → Nat} {n a b c d : Nat} {x y : qe_SV} {X Y : Int32} {G : qe_SG}
theorem qe_s_ltn_ok (t f : Bool) (hg : qe_GK nu G) (hx : qe_SVm al0 nu n (qe_g_n G) x (.int X)) (hy : qe_SVm al0 nu n (qe_g_n G) y (.int Y)) (ix : a ≤ qe_i2n X ∧ qe_i2n X ≤ b) (iy : c ≤ qe_i2n Y ∧ qe_i2n Y ≤ d) :
    ∃ q, q ∈ qe_s_ltn x y a b c d G t f ∧ (q.1 = (if qe_i2n X < qe_i2n Y then t else f) ∧ qe_Same nu G q.2) := by
  obtain ⟨x1, x2⟩ := ix
  obtain ⟨y1, y2⟩ := iy
  by_cases h : qe_i2n X < qe_i2n Y
  · have e : Nat.ble (a + 1) d = true := Nat.ble_eq_true_of_le (by omega)
    have k1 := qe_s_know_ok (lo := a) (hi := qe_nmin b (d - 1)) hg hx x1 (qe_nmin_le x2 (by omega))
    have k2 := qe_s_know_ok (lo := qe_nmax c (a + 1)) (hi := d) k1.1 (qe_sv_n hy k1) (qe_nmax_le y1 (by omega)) y2
    have k12 := qe_same_trans k1 k2
    have k3 := qe_s_fact_ok (b := 1) k12.1 (qe_sv_n hx k12) (qe_sv_n hy k12) (fun _ => h) (fun e => absurd e (by omega))
    refine ⟨(t, _), ?_, ?_, qe_same_trans k12 k3⟩
    · unfold qe_s_ltn
      rw [e]
      exact List.mem_append_left _ List.mem_cons_self
    · rw [if_pos h]
  · have e : Nat.ble c b = true := Nat.ble_eq_true_of_le (by omega)
    have k1 := qe_s_know_ok (lo := qe_nmax a c) (hi := b) hg hx (qe_nmax_le x1 (by omega)) x2
    have k2 := qe_s_know_ok (lo := c) (hi := qe_nmin d b) k1.1 (qe_sv_n hy k1) y1 (qe_nmin_le y2 (by omega))
    have k12 := qe_same_trans k1 k2
    have k3 := qe_s_fact_ok (b := 0) k12.1 (qe_sv_n hx k12) (qe_sv_n hy k12) (fun e => absurd e (by omega)) (fun _ => by omega)
    refine ⟨(f, _), ?_, ?_, qe_same_trans k12 k3⟩
    · unfold qe_s_ltn
      rw [e]
      exact List.mem_append_right _ List.mem_cons_self
    · rw [if_neg h]
theorem qe_s_lt_ok (t f : Bool) (hg : qe_GK nu G) (hx : qe_SVm al0 nu n (qe_g_n G) x (.int X)) (hy : qe_SVm al0 nu n (qe_g_n G) y (.int Y)) (ix : a ≤ qe_i2n X ∧ qe_i2n X ≤ b) (iy : c ≤ qe_i2n Y ∧ qe_i2n Y ≤ d) :
    ∃ q, q ∈ qe_s_lt x y a b c d G t f ∧ (q.1 = (if qe_i2n X < qe_i2n Y then t else f) ∧ qe_Same nu G q.2) := by
  have hn := qe_s_ltn_ok t f hg hx hy ix iy
  unfold qe_s_lt
  cases hb : Nat.beq x.1 1 && Nat.beq y.1 1
  · exact hn
  · rw [cond_true]
    obtain ⟨f1, f2⟩ := qe_and2 hb
    have g1 := qe_beqt f1
    have g2 := qe_beqt f2
    have vx := qe_sv_val hx (by unfold qe_fixd; rw [g1]; rfl)
    have vy := qe_sv_val hy (by unfold qe_fixd; rw [g2]; rfl)
    cases hd : qe_s_def (qe_g_d G) 100 x y with
    | none => exact hn
    | some e =>
      dsimp only
      obtain ⟨_, _, w⟩ := hg.2 _ (qe_s_def_ok hd)
      rcases w with ⟨_, w1, w0⟩ | ⟨w, _⟩
      · cases e1 : Nat.beq e 1
        · rw [cond_false]
          cases e0 : Nat.beq e 0
          · exact hn
          · rw [cond_true]
            have := w0 (qe_beqt e0)
            dsimp only at this
            rw [← vx.1, ← vy.1] at this
            exact ⟨_, List.mem_cons_self, (if_neg (by omega)).symm, qe_same_refl hg⟩
        · rw [cond_true]
          have := w1 (qe_beqt e1)
          dsimp only at this
          rw [← vx.1, ← vy.1] at this
          exact ⟨_, List.mem_cons_self, (if_pos this).symm, qe_same_refl hg⟩
      · exact absurd w (by dsimp only; omega)
end
