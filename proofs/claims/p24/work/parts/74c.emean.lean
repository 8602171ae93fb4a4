/-! ===== what the symbolic machine's things stand for ===== -/
noncomputable def qe_i2n (x : Int32) : Nat := (x.toInt + 2147483648).toNat
noncomputable def qe_l2n (x : Int64) : Nat := (x.toInt + 9223372036854775808).toNat
theorem qe_i2n_z (x : Int32) : (qe_i2n x : Int) = x.toInt + 2147483648 := by
  have h1 := x.le_toInt
  unfold qe_i2n
  omega
theorem qe_i2n_lt (x : Int32) : qe_i2n x < 4294967296 := by
  have h1 := x.toInt_lt
  have h2 := qe_i2n_z x
  omega
theorem qe_i2n_inj {x y : Int32} (h : qe_i2n x = qe_i2n y) : x = y := by
  have h1 := qe_i2n_z x
  have h2 := qe_i2n_z y
  exact Int32.toInt_inj.mp (by omega)
/-- where object k lies -/
noncomputable def qe_al (σ : Nat → Nat) (b base k : Nat) : Nat := bif Nat.ble 7 k then base + (k - 7) else bif Nat.beq k 6 then b else σ k
/-- n objects, m names -/
noncomputable def qe_SVm (al0 : Nat → Nat) (nu : Nat → Nat) (n m : Nat) (s : qe_SV) (v : Value) : Prop := match v with
  | .int x => (s.1 = 0 ∧ (s.2.1 ≤ qe_i2n x ∧ qe_i2n x ≤ s.2.2)) ∨ (s.1 = 1 ∧ (s.2.1 < m ∧ qe_i2n x = nu s.2.1))
  | .long x => (s.1 = 2 ∧ qe_l2n x = s.2.1) ∨ s.1 = 3
  | .null => s.1 = 4
  | .ref q => s.1 = 5 ∧ (s.2.1 < n ∧ q = al0 s.2.1)
  | _ => False
noncomputable def qe_EnvN (nu : Nat → Nat) (e : List (Nat × Nat × Nat)) : Prop := ∀ i, (qe_e_find i e).1 ≤ nu i ∧ nu i ≤ (qe_e_find i e).2
theorem qe_sv_int {al0 nu : Nat → Nat} {n m : Nat} {s : qe_SV} {v : Value} (h : qe_SVm al0 nu n m s v) (hi : qe_isI s = true) : ∃ x, v = .int x := by
  have h1 : s.1 ≤ 1 := Nat.le_of_ble_eq_true hi
  cases v with
  | int x => exact ⟨x, rfl⟩
  | long x => rcases h with h | h <;> omega
  | null => change s.1 = 4 at h; omega
  | ref q => have := h.1; omega
  | _ => exact h.elim
theorem qe_sv_itv {al0 nu : Nat → Nat} {n m : Nat} {G : qe_SG} {s : qe_SV} {x : Int32} (h : qe_SVm al0 nu n m s (.int x)) (he : qe_EnvN nu (qe_g_e G)) : (qe_itv G s).1 ≤ qe_i2n x ∧ qe_i2n x ≤ (qe_itv G s).2 := by
  rcases h with ⟨h1, h2⟩ | ⟨h1, h2⟩
  · have : qe_itv G s = s.2 := by unfold qe_itv; rw [h1]; rfl
    rw [this]; exact h2
  · have : qe_itv G s = qe_e_find s.2.1 (qe_g_e G) := by unfold qe_itv; rw [h1]; rfl
    rw [this, h2.2]; exact he _
/-- more objects, more names -/
theorem qe_sv_more {al0 nu nu' : Nat → Nat} {n m n' m' : Nat} {s : qe_SV} {v : Value} (h : qe_SVm al0 nu n m s v) (hn : n ≤ n') (hm : m ≤ m') (hu : ∀ i, i < m → nu' i = nu i) : qe_SVm al0 nu' n' m' s v := by
  cases v with
  | int x => rcases h with h | ⟨h1, h2, h3⟩
             · exact .inl h
             · exact .inr ⟨h1, by omega, by rw [hu _ h2]; exact h3⟩
  | long x => exact h
  | null => exact h
  | ref q => exact ⟨h.1, Nat.lt_of_lt_of_le h.2.1 hn, h.2.2⟩
  | _ => exact h.elim
