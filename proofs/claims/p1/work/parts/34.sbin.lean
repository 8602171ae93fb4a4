/-! ===== names, what is known of them, and an int operation ===== -/
noncomputable def sval (nu : Nat → Nat) (s : SV) : Nat := bif Nat.beq s.1 0 then s.2.1 else nu s.2.1
noncomputable def okn (m : Nat) (s : SV) : Prop := s.1 = 0 ∨ (s.1 = 1 ∧ s.2.1 < m)
noncomputable def Dok (nu : Nat → Nat) (m : Nat) (q : Nat × Nat × SV × SV) : Prop := okn m q.2.2.1 ∧ (okn m q.2.2.2 ∧
  ((q.2.1 = 100 ∧ ((q.1 = 1 → sval nu q.2.2.1 < sval nu q.2.2.2) ∧ (q.1 = 0 → sval nu q.2.2.2 ≤ sval nu q.2.2.1))) ∨
   (q.2.1 < 100 ∧ (q.1 < m ∧ ∃ x y z, i2n x = sval nu q.2.2.1 ∧ (i2n y = sval nu q.2.2.2 ∧ (ibin q.2.1 x y = some z ∧ i2n z = nu q.1))))))
noncomputable def Dfs (nu : Nat → Nat) (m : Nat) (l : List (Nat × Nat × SV × SV)) : Prop := ∀ q, q ∈ l → Dok nu m q
noncomputable def GK (nu : Nat → Nat) (G : SG) : Prop := EnvN nu (g_e G) ∧ Dfs nu (g_n G) (g_d G)
noncomputable def Ext (nu : Nat → Nat) (G : SG) (nu' : Nat → Nat) (G' : SG) : Prop := (∀ i, i < g_n G → nu' i = nu i) ∧ (g_n G ≤ g_n G' ∧ (g_h G' = g_h G ∧ g_u G' = g_u G))
noncomputable def nset (nu : Nat → Nat) (m v : Nat) : Nat → Nat := fun i => if i = m then v else nu i
theorem nset_at (nu : Nat → Nat) (m v : Nat) : nset nu m v m = v := if_pos rfl
theorem nset_lt {nu : Nat → Nat} {m v i : Nat} (h : i < m) : nset nu m v i = nu i := if_neg (by omega)
theorem env_up {nu : Nat → Nat} {e : List (Nat × Nat × Nat)} {m v lo hi : Nat} (h : EnvN nu e) (h1 : lo ≤ v) (h2 : v ≤ hi) : EnvN (nset nu m v) ((m, lo, hi) :: e) := by
  intro i
  by_cases hi' : i = m
  · subst hi'
    rw [nset_at]
    have : e_find i ((i, lo, hi) :: e) = (lo, hi) := by unfold e_find; rw [Nat.beq_refl]; rfl
    rw [this]; exact ⟨h1, h2⟩
  · have e1 : nset nu m v i = nu i := if_neg hi'
    have e2 : e_find i ((m, lo, hi) :: e) = e_find i e := by
      rw [e_find]
      cases hb : Nat.beq m i
      · rfl
      · exact absurd (beqt hb).symm hi'
    rw [e1, e2]; exact h i
theorem sval_up {nu nu' : Nat → Nat} {m : Nat} {s : SV} (h : okn m s) (hu : ∀ i, i < m → nu' i = nu i) : sval nu' s = sval nu s := by
  unfold sval
  rcases h with h | ⟨h, h2⟩
  · rw [h]; rfl
  · rw [h]; exact hu _ h2
theorem okn_up {m m' : Nat} {s : SV} (h : okn m s) (hm : m ≤ m') : okn m' s := by
  rcases h with h | ⟨h, h2⟩
  · exact .inl h
  · exact .inr ⟨h, by omega⟩
theorem dok_up {nu nu' : Nat → Nat} {m m' : Nat} {q : Nat × Nat × SV × SV} (h : Dok nu m q) (hm : m ≤ m') (hu : ∀ i, i < m → nu' i = nu i) : Dok nu' m' q := by
  obtain ⟨h1, h2, h3⟩ := h
  refine ⟨okn_up h1 hm, okn_up h2 hm, ?_⟩
  rw [sval_up h1 hu, sval_up h2 hu]
  rcases h3 with h3 | ⟨h4, h5, h6⟩
  · exact .inl h3
  · refine .inr ⟨h4, by omega, ?_⟩
    rw [hu _ h5]; exact h6
theorem sv_val {al0 nu : Nat → Nat} {n m : Nat} {s : SV} {x : Int32} (h : SVm al0 nu n m s (.int x)) (hf : fixd s = true) : i2n x = sval nu s ∧ okn m s := by
  unfold fixd at hf
  unfold sval
  rcases h with ⟨h1, h2, h3⟩ | ⟨h1, h2, h3⟩
  · rw [h1] at hf ⊢
    have := beqt (show Nat.beq s.2.1 s.2.2 = true from hf)
    exact ⟨by show i2n x = s.2.1; omega, .inl h1⟩
  · rw [h1]
    exact ⟨h3, .inr ⟨h1, h2⟩⟩
theorem veq_ok {u v : SV} (h : veq u v = true) : u = v := by
  obtain ⟨h1, h2⟩ := and2 h
  obtain ⟨h2, h3⟩ := and2 h2
  exact Prod.ext (beqt h1) (Prod.ext (beqt h2) (beqt h3))
theorem s_def_ok {l : List (Nat × Nat × SV × SV)} {k : Nat} {x y : SV} {i : Nat} (h : s_def l k x y = some i) : (i, k, x, y) ∈ l := by
  induction l with
  | nil => exact absurd h (by intro h; cases h)
  | cons q r ih =>
    unfold s_def at h
    cases hb : Nat.beq q.2.1 k && (veq q.2.2.1 x && veq q.2.2.2 y)
    · rw [hb, cond_false] at h
      exact List.mem_cons_of_mem _ (ih h)
    · rw [hb, cond_true] at h
      obtain ⟨h1, h2⟩ := and2 hb
      obtain ⟨h2, h3⟩ := and2 h2
      have : q = (i, k, x, y) := Prod.ext (Option.some.inj h) (Prod.ext (beqt h1) (Prod.ext (veq_ok h2) (veq_ok h3)))
      rw [this]; exact List.mem_cons_self
theorem ext_refl (nu : Nat → Nat) (G : SG) : Ext nu G nu G := ⟨fun _ _ => rfl, Nat.le_refl _, rfl, rfl⟩
theorem sk_ok {al0 nu : Nat → Nat} {n m r : Nat} {z : Int32} (h : i2n z = r) : SVm al0 nu n m (sk r) (.int z) := .inl ⟨rfl, by show r ≤ _; omega, by show _ ≤ r; omega⟩
theorem itv_ok {al0 nu : Nat → Nat} {n m : Nat} {v : SV} {z : Int32} (h : v.1 = 0 ∧ (v.2.1 ≤ i2n z ∧ i2n z ≤ v.2.2)) : SVm al0 nu n m v (.int z) := .inl h
theorem ibin_lt {k : Nat} {x y z : Int32} (h : ibin k x y = some z) : k < 100 := by
  unfold ibin at h
  split at h <;> first | omega | exact absurd h (by intro h; cases h)
theorem s_bin_ok {al0 nu : Nat → Nat} {n k : Nat} {x y v : SV} {X Y : Int32} {G G' : SG} (hg : GK nu G) (hx : SVm al0 nu n (g_n G) x (.int X)) (hy : SVm al0 nu n (g_n G) y (.int Y))
    (h : s_bin k x y G = some (v, G')) : ∃ nu' z, ibin k X Y = some z ∧ (SVm al0 nu' n (g_n G') v (.int z) ∧ (GK nu' G' ∧ Ext nu G nu' G')) := by
  have ix := sv_itv hx hg.1
  have iy := sv_itv hy hg.1
  unfold s_bin at h
  cases h0 : isI x && isI y
  · rw [h0, cond_false] at h; exact absurd h (by intro h; cases h)
  rw [h0, cond_true] at h
  generalize itv G x = p at h ix
  generalize itv G y = q at h iy
  dsimp only at h
  cases h1 : Nat.beq p.1 p.2 && Nat.beq q.1 q.2
  · rw [h1, cond_false] at h
    cases h2 : Nat.beq k 0 && (Nat.beq p.1 2147483648 && Nat.beq p.2 2147483648)
    · rw [h2, cond_false] at h
      cases h3 : Nat.ble k 1 && (Nat.beq q.1 2147483648 && Nat.beq q.2 2147483648)
      · rw [h3, cond_false] at h
        cases h4 : bnd k p.1 p.2 q.1 q.2 with
        | none => rw [h4] at h; exact absurd h (by intro h; cases h)
        | some w =>
          rw [h4] at h
          obtain ⟨z, hz, hw⟩ := bnd_ok h4 ix iy
          dsimp only at h
          cases h5 : fixd x && fixd y
          · rw [h5, cond_false] at h
            have e := Option.some.inj h
            have e1 : w = v := congrArg Prod.fst e
            have e2 : G = G' := congrArg Prod.snd e
            subst e1; subst e2
            exact ⟨nu, z, hz, itv_ok hw, hg, ext_refl _ _⟩
          · rw [h5, cond_true] at h
            obtain ⟨f1, f2⟩ := and2 h5
            have vx := sv_val hx f1
            have vy := sv_val hy f2
            cases h6 : s_def (g_d G) k x y with
            | some i =>
              rw [h6] at h
              have e := Option.some.inj h
              have e1 : ((1, i, 0) : SV) = v := congrArg Prod.fst e
              have e2 : G = G' := congrArg Prod.snd e
              subst e1; subst e2
              refine ⟨nu, z, hz, ?_, hg, ext_refl _ _⟩
              obtain ⟨_, _, d⟩ := hg.2 _ (s_def_ok h6)
              rcases d with ⟨d, _⟩ | ⟨_, d1, X', Y', Z', d2, d3, d4, d5⟩
              · have : k = 100 := d
                subst this
                exact absurd hz (by intro h; cases h)
              · have a1 : X' = X := i2n_inj (d2.trans vx.1.symm)
                have a2 : Y' = Y := i2n_inj (d3.trans vy.1.symm)
                subst a1; subst a2
                have a3 : Z' = z := Option.some.inj (d4.symm.trans hz)
                subst a3
                exact .inr ⟨rfl, d1, d5⟩
            | none =>
              rw [h6] at h
              have e := Option.some.inj h
              have e1 : s_name G = v := congrArg Prod.fst e
              have e2 := congrArg Prod.snd e
              dsimp only at e2
              subst e1; subst e2
              have hu : ∀ i, i < g_n G → nset nu (g_n G) (i2n z) i = nu i := fun i hi => nset_lt hi
              refine ⟨nset nu (g_n G) (i2n z), z, hz, .inr ⟨rfl, Nat.lt_succ_self _, (nset_at _ _ _).symm⟩, ⟨env_up hg.1 hw.2.1 hw.2.2, ?_⟩, hu, Nat.le_succ _, rfl, rfl⟩
              intro d hd
              rcases List.mem_cons.mp hd with rfl | hd
              · refine ⟨okn_up vx.2 (Nat.le_succ _), okn_up vy.2 (Nat.le_succ _), .inr ⟨?_, Nat.lt_succ_self _, X, Y, z, ?_, ?_, hz, (nset_at _ _ _).symm⟩⟩
                · exact ibin_lt hz
                · rw [sval_up vx.2 hu]; exact vx.1
                · rw [sval_up vy.2 hu]; exact vy.1
              · exact dok_up (hg.2 d hd) (Nat.le_succ _) hu
      · rw [h3, cond_true] at h
        obtain ⟨f1, f2⟩ := and2 h3
        obtain ⟨f2, f3⟩ := and2 f2
        have e := Option.some.inj h
        have e1 : x = v := congrArg Prod.fst e
        have e2 : G = G' := congrArg Prod.snd e
        subst e1; subst e2
        have g1 := blet f1
        have g2 := beqt f2
        have g3 := beqt f3
        have hY : Y = 0 := (i2n_zero Y).1 (by omega)
        subst hY
        have hk : k = 0 ∨ k = 1 := by omega
        refine ⟨nu, X, ?_, hx, hg, ext_refl _ _⟩
        rcases hk with rfl | rfl
        · show some (X + 0) = some X
          rw [Int32.add_zero]
        · show some (X - 0) = some X
          rw [Int32.sub_zero]
    · rw [h2, cond_true] at h
      obtain ⟨f1, f2⟩ := and2 h2
      obtain ⟨f2, f3⟩ := and2 f2
      have e := Option.some.inj h
      have e1 : y = v := congrArg Prod.fst e
      have e2 : G = G' := congrArg Prod.snd e
      subst e1; subst e2
      have g1 := beqt f1
      have g2 := beqt f2
      have g3 := beqt f3
      have hX : X = 0 := (i2n_zero X).1 (by omega)
      subst hX; subst g1
      refine ⟨nu, Y, ?_, hy, hg, ext_refl _ _⟩
      show some (0 + Y) = some Y
      rw [Int32.zero_add]
  · rw [h1, cond_true] at h
    obtain ⟨f1, f2⟩ := and2 h1
    have g1 := beqt f1
    have g2 := beqt f2
    have a1 : p.1 = i2n X := by omega
    have a2 : q.1 = i2n Y := by omega
    rw [a1, a2] at h
    cases hk : kbin k (i2n X) (i2n Y) with
    | none => rw [hk] at h; exact absurd h (by intro h; cases h)
    | some r =>
      rw [hk] at h
      obtain ⟨z, hz, hr⟩ := kbin_ok hk
      have e := Option.some.inj h
      have e1 : sk r = v := congrArg Prod.fst e
      have e2 : G = G' := congrArg Prod.snd e
      subst e1; subst e2
      exact ⟨nu, z, hz, sk_ok hr, hg, ext_refl _ _⟩
