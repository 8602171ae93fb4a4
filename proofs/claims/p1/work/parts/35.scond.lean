/-! ===== comparisons ===== -/
noncomputable def Same (nu : Nat → Nat) (G G' : SG) : Prop := GK nu G' ∧ (g_n G' = g_n G ∧ (g_h G' = g_h G ∧ g_u G' = g_u G))
theorem same_refl {nu : Nat → Nat} {G : SG} (h : GK nu G) : Same nu G G := ⟨h, rfl, rfl, rfl⟩
theorem same_trans {nu : Nat → Nat} {G G' G'' : SG} (h : Same nu G G') (h2 : Same nu G' G'') : Same nu G G'' := ⟨h2.1, h2.2.1.trans h.2.1, h2.2.2.1.trans h.2.2.1, h2.2.2.2.trans h.2.2.2⟩
theorem same_ext {nu : Nat → Nat} {G G' : SG} (h : Same nu G G') : Ext nu G nu G' := ⟨fun _ _ => rfl, Nat.le_of_eq h.2.1.symm, h.2.2.1, h.2.2.2⟩
theorem env_know {nu : Nat → Nat} {e : List (Nat × Nat × Nat)} {m lo hi : Nat} (h : EnvN nu e) (h1 : lo ≤ nu m) (h2 : nu m ≤ hi) : EnvN nu ((m, lo, hi) :: e) := by
  intro i
  rw [e_find]
  cases hb : Nat.beq m i
  · exact h i
  · have := beqt hb
    subst this
    exact ⟨h1, h2⟩
theorem s_know_ok {al0 nu : Nat → Nat} {n m lo hi : Nat} {v : SV} {X : Int32} {G : SG} (hg : GK nu G) (hv : SVm al0 nu n m v (.int X)) (h1 : lo ≤ i2n X) (h2 : i2n X ≤ hi) : Same nu G (s_know G v lo hi) := by
  unfold s_know
  cases hb : Nat.beq v.1 1
  · exact same_refl hg
  · rw [cond_true]
    rcases hv with ⟨e, _⟩ | ⟨_, _, e⟩
    · rw [e] at hb; exact Bool.noConfusion hb
    · exact ⟨⟨env_know hg.1 (by rw [← e]; exact h1) (by rw [← e]; exact h2), hg.2⟩, rfl, rfl, rfl⟩
theorem nmin_le {a b x : Nat} (h1 : x ≤ a) (h2 : x ≤ b) : x ≤ nmin a b := by unfold nmin; cases Nat.ble a b <;> assumption
theorem nmax_le {a b x : Nat} (h1 : a ≤ x) (h2 : b ≤ x) : nmax a b ≤ x := by unfold nmax; cases Nat.ble a b <;> assumption
theorem blef {a b : Nat} (h : Nat.ble a b = false) : b < a := by
  by_cases hc : a ≤ b
  · rw [Nat.ble_eq_true_of_le hc] at h; exact Bool.noConfusion h
  · omega
theorem s_fact_ok {al0 nu : Nat → Nat} {n b : Nat} {x y : SV} {X Y : Int32} {G : SG} (hg : GK nu G) (hx : SVm al0 nu n (g_n G) x (.int X)) (hy : SVm al0 nu n (g_n G) y (.int Y))
    (h1 : b = 1 → i2n X < i2n Y) (h0 : b = 0 → i2n Y ≤ i2n X) : Same nu G (s_fact G x y b) := by
  unfold s_fact
  cases hb : Nat.beq x.1 1 && Nat.beq y.1 1
  · exact same_refl hg
  · rw [cond_true]
    obtain ⟨f1, f2⟩ := and2 hb
    have g1 := beqt f1
    have g2 := beqt f2
    have vx := sv_val hx (by unfold fixd; rw [g1]; rfl)
    have vy := sv_val hy (by unfold fixd; rw [g2]; rfl)
    refine ⟨⟨hg.1, ?_⟩, rfl, rfl, rfl⟩
    intro d hd
    rcases List.mem_cons.mp hd with rfl | hd
    · refine ⟨vx.2, vy.2, .inl ⟨rfl, ?_, ?_⟩⟩
      · intro e; rw [← vx.1, ← vy.1]; exact h1 e
      · intro e; rw [← vx.1, ← vy.1]; exact h0 e
    · exact hg.2 d hd
theorem sv_n {al0 nu : Nat → Nat} {n : Nat} {s : SV} {v : Value} {G G' : SG} (h : SVm al0 nu n (g_n G) s v) (hs : Same nu G G') : SVm al0 nu n (g_n G') s v := by
  rw [hs.2.1]; exact h
section
variable {al0 nu : Nat → Nat} {n a b c d : Nat} {x y : SV} {X Y : Int32} {G : SG}
theorem s_ltn_ok (t f : Bool) (hg : GK nu G) (hx : SVm al0 nu n (g_n G) x (.int X)) (hy : SVm al0 nu n (g_n G) y (.int Y)) (ix : a ≤ i2n X ∧ i2n X ≤ b) (iy : c ≤ i2n Y ∧ i2n Y ≤ d) :
    ∃ q, q ∈ s_ltn x y a b c d G t f ∧ (q.1 = (if i2n X < i2n Y then t else f) ∧ Same nu G q.2) := by
  obtain ⟨x1, x2⟩ := ix
  obtain ⟨y1, y2⟩ := iy
  by_cases h : i2n X < i2n Y
  · have e : Nat.ble (a + 1) d = true := Nat.ble_eq_true_of_le (by omega)
    have k1 := s_know_ok (lo := a) (hi := nmin b (d - 1)) hg hx x1 (nmin_le x2 (by omega))
    have k2 := s_know_ok (lo := nmax c (a + 1)) (hi := d) k1.1 (sv_n hy k1) (nmax_le y1 (by omega)) y2
    have k12 := same_trans k1 k2
    have k3 := s_fact_ok (b := 1) k12.1 (sv_n hx k12) (sv_n hy k12) (fun _ => h) (fun e => absurd e (by omega))
    refine ⟨(t, _), ?_, ?_, same_trans k12 k3⟩
    · unfold s_ltn
      rw [e]
      exact List.mem_append_left _ List.mem_cons_self
    · rw [if_pos h]
  · have e : Nat.ble c b = true := Nat.ble_eq_true_of_le (by omega)
    have k1 := s_know_ok (lo := nmax a c) (hi := b) hg hx (nmax_le x1 (by omega)) x2
    have k2 := s_know_ok (lo := c) (hi := nmin d b) k1.1 (sv_n hy k1) y1 (nmin_le y2 (by omega))
    have k12 := same_trans k1 k2
    have k3 := s_fact_ok (b := 0) k12.1 (sv_n hx k12) (sv_n hy k12) (fun e => absurd e (by omega)) (fun _ => by omega)
    refine ⟨(f, _), ?_, ?_, same_trans k12 k3⟩
    · unfold s_ltn
      rw [e]
      exact List.mem_append_right _ List.mem_cons_self
    · rw [if_neg h]
theorem s_lt_ok (t f : Bool) (hg : GK nu G) (hx : SVm al0 nu n (g_n G) x (.int X)) (hy : SVm al0 nu n (g_n G) y (.int Y)) (ix : a ≤ i2n X ∧ i2n X ≤ b) (iy : c ≤ i2n Y ∧ i2n Y ≤ d) :
    ∃ q, q ∈ s_lt x y a b c d G t f ∧ (q.1 = (if i2n X < i2n Y then t else f) ∧ Same nu G q.2) := by
  have hn := s_ltn_ok t f hg hx hy ix iy
  unfold s_lt
  cases hb : Nat.beq x.1 1 && Nat.beq y.1 1
  · exact hn
  · rw [cond_true]
    obtain ⟨f1, f2⟩ := and2 hb
    have g1 := beqt f1
    have g2 := beqt f2
    have vx := sv_val hx (by unfold fixd; rw [g1]; rfl)
    have vy := sv_val hy (by unfold fixd; rw [g2]; rfl)
    cases hd : s_def (g_d G) 100 x y with
    | none => exact hn
    | some e =>
      dsimp only
      obtain ⟨_, _, w⟩ := hg.2 _ (s_def_ok hd)
      rcases w with ⟨_, w1, w0⟩ | ⟨w, _⟩
      · cases e1 : Nat.beq e 1
        · rw [cond_false]
          cases e0 : Nat.beq e 0
          · exact hn
          · rw [cond_true]
            have := w0 (beqt e0)
            dsimp only at this
            rw [← vx.1, ← vy.1] at this
            exact ⟨_, List.mem_cons_self, (if_neg (by omega)).symm, same_refl hg⟩
        · rw [cond_true]
          have := w1 (beqt e1)
          dsimp only at this
          rw [← vx.1, ← vy.1] at this
          exact ⟨_, List.mem_cons_self, (if_pos this).symm, same_refl hg⟩
      · exact absurd w (by dsimp only; omega)
end
