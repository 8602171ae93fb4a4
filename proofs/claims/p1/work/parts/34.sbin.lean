/-! ===== names, what is known of them, and an int operation ===== -/
noncomputable def sval (nu : Nat → Nat) (s : SV) : Nat := bif Nat.beq s.1 0 then s.2.1 else nu s.2.1
noncomputable def okn (m : Nat) (s : SV) : Prop := s.1 = 0 ∨ (s.1 = 1 ∧ s.2.1 < m)
noncomputable def Dok (nu : Nat → Nat) (m : Nat) (q : Nat × Nat × SV × SV) : Prop := okn m q.2.2.1 ∧ (okn m q.2.2.2 ∧
  ((q.2.1 = 100 ∧ ((q.1 = 1 → sval nu q.2.2.1 < sval nu q.2.2.2) ∧ (q.1 = 0 → sval nu q.2.2.2 ≤ sval nu q.2.2.1))) ∨
   (q.2.1 < 100 ∧ (q.1 < m ∧ ∃ x y z, i2n x = sval nu q.2.2.1 ∧ (i2n y = sval nu q.2.2.2 ∧ (ibin q.2.1 x y = some z ∧ i2n z = nu q.1))))))
noncomputable def Dfs (nu : Nat → Nat) (m : Nat) (l : List (Nat × Nat × SV × SV)) : Prop := ∀ q, q ∈ l → Dok nu m q
noncomputable def GK (nu : Nat → Nat) (G : SG) : Prop := Env nu (g_e G) ∧ Dfs nu (g_n G) (g_d G)
noncomputable def Ext (nu : Nat → Nat) (G : SG) (nu' : Nat → Nat) (G' : SG) : Prop := (∀ i, i < g_n G → nu' i = nu i) ∧ (g_n G ≤ g_n G' ∧ (g_h G' = g_h G ∧ g_u G' = g_u G))
noncomputable def nset (nu : Nat → Nat) (m v : Nat) : Nat → Nat := fun i => if i = m then v else nu i
theorem nset_at (nu : Nat → Nat) (m v : Nat) : nset nu m v m = v := if_pos rfl
theorem nset_lt {nu : Nat → Nat} {m v i : Nat} (h : i < m) : nset nu m v i = nu i := if_neg (by omega)
theorem env_up {nu : Nat → Nat} {e : List (Nat × Nat × Nat)} {m v lo hi : Nat} (h : Env nu e) (h1 : lo ≤ v) (h2 : v ≤ hi) : Env (nset nu m v) ((m, lo, hi) :: e) := by
  intro i
  by_cases hi' : i = m
  · subst hi'
    rw [nset_at]
    have : e_find i ((i, lo, hi) :: e) = (lo, hi) := by unfold e_find; rw [Nat.beq_refl]; rfl
    rw [this]; exact ⟨h1, h2⟩
  · have e1 : nset nu m v i = nu i := if_neg hi'
    have e2 : e_find i ((m, lo, hi) :: e) = e_find i e := by
      rw [e_find]
      cases hb : Nat.beq m i
      · rfl
      · exact absurd (beqt hb).symm hi'
    rw [e1, e2]; exact h i
theorem sval_up {nu nu' : Nat → Nat} {m : Nat} {s : SV} (h : okn m s) (hu : ∀ i, i < m → nu' i = nu i) : sval nu' s = sval nu s := by
  unfold sval
  rcases h with h | ⟨h, h2⟩
  · rw [h]; rfl
  · rw [h]; exact hu _ h2
theorem okn_up {m m' : Nat} {s : SV} (h : okn m s) (hm : m ≤ m') : okn m' s := by
  rcases h with h | ⟨h, h2⟩
  · exact .inl h
  · exact .inr ⟨h, by omega⟩
theorem dok_up {nu nu' : Nat → Nat} {m m' : Nat} {q : Nat × Nat × SV × SV} (h : Dok nu m q) (hm : m ≤ m') (hu : ∀ i, i < m → nu' i = nu i) : Dok nu' m' q := by
  obtain ⟨h1, h2, h3⟩ := h
  refine ⟨okn_up h1 hm, okn_up h2 hm, ?_⟩
  rw [sval_up h1 hu, sval_up h2 hu]
  rcases h3 with h3 | ⟨h4, h5, h6⟩
  · exact .inl h3
  · refine .inr ⟨h4, by omega, ?_⟩
    rw [hu _ h5]; exact h6
theorem sv_val {al0 nu : Nat → Nat} {n m : Nat} {s : SV} {x : Int32} (h : SVm al0 nu n m s (.int x)) (hf : fixd s = true) : i2n x = sval nu s ∧ okn m s := by
  unfold fixd at hf
  unfold sval
  rcases h with ⟨h1, h2, h3⟩ | ⟨h1, h2, h3⟩
  · rw [h1] at hf ⊢
    have := beqt (show Nat.beq s.2.1 s.2.2 = true from hf)
    exact ⟨by show i2n x = s.2.1; omega, .inl h1⟩
  · rw [h1]
    exact ⟨h3, .inr ⟨h1, h2⟩⟩
theorem veq_ok {u v : SV} (h : veq u v = true) : u = v := by
  obtain ⟨h1, h2⟩ := and2 h
  obtain ⟨h2, h3⟩ := and2 h2
  exact Prod.ext (beqt h1) (Prod.ext (beqt h2) (beqt h3))
theorem s_def_ok {l : List (Nat × Nat × SV × SV)} {k : Nat} {x y : SV} {i : Nat} (h : s_def l k x y = some i) : (i, k, x, y) ∈ l := by
  induction l with
  | nil => exact absurd h (by intro h; cases h)
  | cons q r ih =>
    unfold s_def at h
    cases hb : Nat.beq q.2.1 k && (veq q.2.2.1 x && veq q.2.2.2 y)
    · rw [hb, cond_false] at h
      exact List.mem_cons_of_mem _ (ih h)
    · rw [hb, cond_true] at h
      obtain ⟨h1, h2⟩ := and2 hb
      obtain ⟨h2, h3⟩ := and2 h2
      have : q = (i, k, x, y) := Prod.ext (Option.some.inj h) (Prod.ext (beqt h1) (Prod.ext (veq_ok h2) (veq_ok h3)))
      rw [this]; exact List.mem_cons_self
