/-! ===== names, what is known of them, and an int operation ===== -/
noncomputable def qe_sval (nu : Nat → Nat) (s : qe_SV) : Nat := bif Nat.beq s.1 0 then s.2.1 else nu s.2.1
noncomputable def qe_okn (m : Nat) (s : qe_SV) : Prop := s.1 = 0 ∨ (s.1 = 1 ∧ s.2.1 < m)
noncomputable def qe_Dok (nu : Nat → Nat) (m : Nat) (q : Nat × Nat × qe_SV × qe_SV) : Prop := qe_okn m q.2.2.1 ∧ (qe_okn m q.2.2.2 ∧
  ((q.2.1 = 100 ∧ ((q.1 = 1 → qe_sval nu q.2.2.1 < qe_sval nu q.2.2.2) ∧ (q.1 = 0 → qe_sval nu q.2.2.2 ≤ qe_sval nu q.2.2.1))) ∨
   (q.2.1 < 100 ∧ (q.1 < m ∧ ∃ x y z, qe_i2n x = qe_sval nu q.2.2.1 ∧ (qe_i2n y = qe_sval nu q.2.2.2 ∧ (ibin q.2.1 x y = some z ∧ qe_i2n z = nu q.1))))))
noncomputable def qe_Dfs (nu : Nat → Nat) (m : Nat) (l : List (Nat × Nat × qe_SV × qe_SV)) : Prop := ∀ q, q ∈ l → qe_Dok nu m q
noncomputable def qe_GK (nu : Nat → Nat) (G : qe_SG) : Prop := qe_EnvN nu (qe_g_e G) ∧ qe_Dfs nu (qe_g_n G) (qe_g_d G)
noncomputable def qe_Ext (nu : Nat → Nat) (G : qe_SG) (nu' : Nat → Nat) (G' : qe_SG) : Prop := (∀ i, i < qe_g_n G → nu' i = nu i) ∧ (qe_g_n G ≤ qe_g_n G' ∧ (qe_g_h G' = qe_g_h G ∧ qe_g_u G' = qe_g_u G))
noncomputable def qe_nset (nu : Nat → Nat) (m v : Nat) : Nat → Nat := fun i => if i = m then v else nu i
theorem qe_nset_at (nu : Nat → Nat) (m v : Nat) : qe_nset nu m v m = v := if_pos rfl
theorem qe_nset_lt {nu : Nat → Nat} {m v i : Nat} (h : i < m) : qe_nset nu m v i = nu i := if_neg (by omega)
theorem qe_env_up {nu : Nat → Nat} {e : List (Nat × Nat × Nat)} {m v lo hi : Nat} (h : qe_EnvN nu e) (h1 : lo ≤ v) (h2 : v ≤ hi) : qe_EnvN (qe_nset nu m v) ((m, lo, hi) :: e) := by
  intro i
  by_cases hi' : i = m
  · subst hi'
    rw [qe_nset_at]
    have : qe_e_find i ((i, lo, hi) :: e) = (lo, hi) := by unfold qe_e_find; rw [Nat.beq_refl]; rfl
    rw [this]; exact ⟨h1, h2⟩
  · have e1 : qe_nset nu m v i = nu i := if_neg hi'
    have e2 : qe_e_find i ((m, lo, hi) :: e) = qe_e_find i e := by
      rw [qe_e_find]
      cases hb : Nat.beq m i
      · rfl
      · exact absurd (qe_beqt hb).symm hi'
    rw [e1, e2]; exact h i
theorem qe_sval_up {nu nu' : Nat → Nat} {m : Nat} {s : qe_SV} (h : qe_okn m s) (hu : ∀ i, i < m → nu' i = nu i) : qe_sval nu' s = qe_sval nu s := by
  unfold qe_sval
  rcases h with h | ⟨h, h2⟩
  · rw [h]; rfl
  · rw [h]; exact hu _ h2
theorem qe_okn_up {m m' : Nat} {s : qe_SV} (h : qe_okn m s) (hm : m ≤ m') : qe_okn m' s := by
  rcases h with h | ⟨h, h2⟩
  · exact .inl h
  · exact .inr ⟨h, by omega⟩
theorem qe_dok_up {nu nu' : Nat → Nat} {m m' : Nat} {q : Nat × Nat × qe_SV × qe_SV} (h : qe_Dok nu m q) (hm : m ≤ m') (hu : ∀ i, i < m → nu' i = nu i) : qe_Dok nu' m' q := by
  obtain ⟨h1, h2, h3⟩ := h
  refine ⟨qe_okn_up h1 hm, qe_okn_up h2 hm, ?_⟩
  rw [qe_sval_up h1 hu, qe_sval_up h2 hu]
  rcases h3 with h3 | ⟨h4, h5, h6⟩
  · exact .inl h3
  · refine .inr ⟨h4, by omega, ?_⟩
    rw [hu _ h5]; exact h6
theorem qe_sv_val {al0 nu : Nat → Nat} {n m : Nat} {s : qe_SV} {x : Int32} (h : qe_SVm al0 nu n m s (.int x)) (hf : qe_fixd s = true) : qe_i2n x = qe_sval nu s ∧ qe_okn m s := by
  unfold qe_fixd at hf
  unfold qe_sval
  rcases h with ⟨h1, h2, h3⟩ | ⟨h1, h2, h3⟩
  · rw [h1] at hf ⊢
    have := qe_beqt (show Nat.beq s.2.1 s.2.2 = true from hf)
    exact ⟨by show qe_i2n x = s.2.1; omega, .inl h1⟩
  · rw [h1]
    exact ⟨h3, .inr ⟨h1, h2⟩⟩
theorem qe_veq_ok {u v : qe_SV} (h : qe_veq u v = true) : u = v := by
  obtain ⟨h1, h2⟩ := qe_and2 h
  obtain ⟨h2, h3⟩ := qe_and2 h2
  exact Prod.ext (qe_beqt h1) (Prod.ext (qe_beqt h2) (qe_beqt h3))
theorem qe_s_def_ok {l : List (Nat × Nat × qe_SV × qe_SV)} {k : Nat} {x y : qe_SV} {i : Nat} (h : qe_s_def l k x y = some i) : (i, k, x, y) ∈ l := by
  induction l with
  | nil => exact absurd h (by intro h; cases h)
  | cons q r ih =>
    unfold qe_s_def at h
    cases hb : Nat.beq q.2.1 k && (qe_veq q.2.2.1 x && qe_veq q.2.2.2 y)
    · rw [hb, cond_false] at h
      exact List.mem_cons_of_mem _ (ih h)
    · rw [hb, cond_true] at h
      obtain ⟨h1, h2⟩ := qe_and2 hb
      obtain ⟨h2, h3⟩ := qe_and2 h2
      have : q = (i, k, x, y) := Prod.ext (Option.some.inj h) (Prod.ext (qe_beqt h1) (Prod.ext (qe_veq_ok h2) (qe_veq_ok h3)))
      rw [this]; exact List.mem_cons_self
theorem qe_ext_refl (nu : Nat → Nat) (G : qe_SG) : qe_Ext nu G nu G := ⟨fun _ _ => rfl, Nat.le_refl _, rfl, rfl⟩
theorem qe_sk_ok {al0 nu : Nat → Nat} {n m r : Nat} {z : Int32} (h : qe_i2n z = r) : qe_SVm al0 nu n m (qe_sk r) (.int z) := .inl ⟨rfl, by show r ≤ _; omega, by show _ ≤ r; omega⟩
theorem qe_itv_ok {al0 nu : Nat → Nat} {n m : Nat} {v : qe_SV} {z : Int32} (h : v.1 = 0 ∧ (v.2.1 ≤ qe_i2n z ∧ qe_i2n z ≤ v.2.2)) : qe_SVm al0 nu n m v (.int z) := .inl h
theorem qe_ibin_lt {k : Nat} {x y z : Int32} (h : ibin k x y = some z) : k < 100 := by
  unfold ibin at h
  split at h <;> first | omega | exact absurd h (by intro h; cases h)
theorem qe_s_bin_ok {al0 nu : Nat → Nat} {n k : Nat} {x y v : qe_SV} {X Y : Int32} {G G' : qe_SG} (hg : qe_GK nu G) (hx : qe_SVm al0 nu n (qe_g_n G) x (.int X)) (hy : qe_SVm al0 nu n (qe_g_n G) y (.int Y))
    (h : qe_s_bin k x y G = some (v, G')) : ∃ nu' z, ibin k X Y = some z ∧ (qe_SVm al0 nu' n (qe_g_n G') v (.int z) ∧ (qe_GK nu' G' ∧ qe_Ext nu G nu' G')) := by
  have ix := qe_sv_itv hx hg.1
  have iy := qe_sv_itv hy hg.1
  unfold qe_s_bin at h
  cases h0 : qe_isI x && qe_isI y
  · rw [h0, cond_false] at h; exact absurd h (by intro h; cases h)
  rw [h0, cond_true] at h
  generalize qe_itv G x = p at h ix
  generalize qe_itv G y = q at h iy
  dsimp only at h
  cases h1 : Nat.beq p.1 p.2 && Nat.beq q.1 q.2
  · rw [h1, cond_false] at h
    cases h2 : Nat.beq k 0 && (Nat.beq p.1 2147483648 && Nat.beq p.2 2147483648)
    · rw [h2, cond_false] at h
      cases h3 : Nat.ble k 1 && (Nat.beq q.1 2147483648 && Nat.beq q.2 2147483648)
      · rw [h3, cond_false] at h
        cases h4 : qe_bnd k p.1 p.2 q.1 q.2 with
        | none => rw [h4] at h; exact absurd h (by intro h; cases h)
        | some w =>
          rw [h4] at h
          obtain ⟨z, hz, hw⟩ := qe_bnd_ok h4 ix iy
          dsimp only at h
          cases h5 : qe_fixd x && qe_fixd y
          · rw [h5, cond_false] at h
            have e := Option.some.inj h
            have e1 : w = v := congrArg Prod.fst e
            have e2 : G = G' := congrArg Prod.snd e
            subst e1; subst e2
            exact ⟨nu, z, hz, qe_itv_ok hw, hg, qe_ext_refl _ _⟩
          · rw [h5, cond_true] at h
            obtain ⟨f1, f2⟩ := qe_and2 h5
            have vx := qe_sv_val hx f1
            have vy := qe_sv_val hy f2
            cases h6 : qe_s_def (qe_g_d G) k x y with
            | some i =>
              rw [h6] at h
              have e := Option.some.inj h
              have e1 : ((1, i, 0) : qe_SV) = v := congrArg Prod.fst e
              have e2 : G = G' := congrArg Prod.snd e
              subst e1; subst e2
              refine ⟨nu, z, hz, ?_, hg, qe_ext_refl _ _⟩
              obtain ⟨_, _, d⟩ := hg.2 _ (qe_s_def_ok h6)
              rcases d with ⟨d, _⟩ | ⟨_, d1, X', Y', Z', d2, d3, d4, d5⟩
              · have : k = 100 := d
                subst this
                exact absurd hz (by intro h; cases h)
              · have a1 : X' = X := qe_i2n_inj (d2.trans vx.1.symm)
                have a2 : Y' = Y := qe_i2n_inj (d3.trans vy.1.symm)
                subst a1; subst a2
                have a3 : Z' = z := Option.some.inj (d4.symm.trans hz)
                subst a3
                exact .inr ⟨rfl, d1, d5⟩
            | none =>
              rw [h6] at h
              have e := Option.some.inj h
              have e1 : qe_s_name G = v := congrArg Prod.fst e
              have e2 := congrArg Prod.snd e
              dsimp only at e2
              subst e1; subst e2
              have hu : ∀ i, i < qe_g_n G → qe_nset nu (qe_g_n G) (qe_i2n z) i = nu i := fun i hi => qe_nset_lt hi
              refine ⟨qe_nset nu (qe_g_n G) (qe_i2n z), z, hz, .inr ⟨rfl, Nat.lt_succ_self _, (qe_nset_at _ _ _).symm⟩, ⟨qe_env_up hg.1 hw.2.1 hw.2.2, ?_⟩, hu, Nat.le_succ _, rfl, rfl⟩
              intro d hd
              rcases List.mem_cons.mp hd with rfl | hd
              · refine ⟨qe_okn_up vx.2 (Nat.le_succ _), qe_okn_up vy.2 (Nat.le_succ _), .inr ⟨?_, Nat.lt_succ_self _, X, Y, z, ?_, ?_, hz, (qe_nset_at _ _ _).symm⟩⟩
                · exact qe_ibin_lt hz
                · rw [qe_sval_up vx.2 hu]; exact vx.1
                · rw [qe_sval_up vy.2 hu]; exact vy.1
              · exact qe_dok_up (hg.2 d hd) (Nat.le_succ _) hu
      · rw [h3, cond_true] at h
        obtain ⟨f1, f2⟩ := qe_and2 h3
        obtain ⟨f2, f3⟩ := qe_and2 f2
        have e := Option.some.inj h
        have e1 : x = v := congrArg Prod.fst e
        have e2 : G = G' := congrArg Prod.snd e
        subst e1; subst e2
        have g1 := qe_blet f1
        have g2 := qe_beqt f2
        have g3 := qe_beqt f3
        have hY : Y = 0 := (qe_i2n_zero Y).1 (by omega)
        subst hY
        have hk : k = 0 ∨ k = 1 := by omega
        refine ⟨nu, X, ?_, hx, hg, qe_ext_refl _ _⟩
        rcases hk with rfl | rfl
        · show some (X + 0) = some X
          rw [Int32.add_zero]
        · show some (X - 0) = some X
          rw [Int32.sub_zero]
    · rw [h2, cond_true] at h
      obtain ⟨f1, f2⟩ := qe_and2 h2
      obtain ⟨f2, f3⟩ := qe_and2 f2
      have e := Option.some.inj h
      have e1 : y = v := congrArg Prod.fst e
      have e2 : G = G' := congrArg Prod.snd e
      subst e1; subst e2
      have g1 := qe_beqt f1
      have g2 := qe_beqt f2
      have g3 := qe_beqt f3
      have hX : X = 0 := (qe_i2n_zero X).1 (by omega)
      subst hX; subst g1
      refine ⟨nu, Y, ?_, hy, hg, qe_ext_refl _ _⟩
      show some (0 + Y) = some Y
      rw [Int32.zero_add]
  · rw [h1, cond_true] at h
    obtain ⟨f1, f2⟩ := qe_and2 h1
    have g1 := qe_beqt f1
    have g2 := qe_beqt f2
    have a1 : p.1 = qe_i2n X := by omega
    have a2 : q.1 = qe_i2n Y := by omega
    rw [a1, a2] at h
    cases hk : qe_kbin k (qe_i2n X) (qe_i2n Y) with
    | none => rw [hk] at h; exact absurd h (by intro h; cases h)
    | some r =>
      rw [hk] at h
      obtain ⟨z, hz, hr⟩ := qe_kbin_ok hk
      have e := Option.some.inj h
      have e1 : qe_sk r = v := congrArg Prod.fst e
      have e2 : G = G' := congrArg Prod.snd e
      subst e1; subst e2
      exact ⟨nu, z, hz, qe_sk_ok hr, hg, qe_ext_refl _ _⟩
