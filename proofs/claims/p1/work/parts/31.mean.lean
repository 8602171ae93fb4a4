/-! ===== what the symbolic machine's things stand for ===== -/
noncomputable def i2n (x : Int32) : Nat := (x.toInt + 2147483648).toNat
noncomputable def l2n (x : Int64) : Nat := (x.toInt + 9223372036854775808).toNat
theorem i2n_z (x : Int32) : (i2n x : Int) = x.toInt + 2147483648 := by
  have h1 := x.le_toInt
  unfold i2n
  omega
theorem i2n_lt (x : Int32) : i2n x < 4294967296 := by
  have h1 := x.toInt_lt
  have h2 := i2n_z x
  omega
theorem i2n_inj {x y : Int32} (h : i2n x = i2n y) : x = y := by
  have h1 := i2n_z x
  have h2 := i2n_z y
  exact Int32.toInt_inj.mp (by omega)
/-- where object k lies -/
noncomputable def al (σ : Nat → Nat) (b base k : Nat) : Nat := bif Nat.ble 7 k then base + (k - 7) else bif Nat.beq k 6 then b else σ k
/-- n objects, m names -/
noncomputable def SVm (al0 : Nat → Nat) (nu : Nat → Nat) (n m : Nat) (s : SV) (v : Value) : Prop := match v with
  | .int x => (s.1 = 0 ∧ (s.2.1 ≤ i2n x ∧ i2n x ≤ s.2.2)) ∨ (s.1 = 1 ∧ (s.2.1 < m ∧ i2n x = nu s.2.1))
  | .long x => (s.1 = 2 ∧ l2n x = s.2.1) ∨ s.1 = 3
  | .null => s.1 = 4
  | .ref q => s.1 = 5 ∧ (s.2.1 < n ∧ q = al0 s.2.1)
  | _ => False
noncomputable def EnvN (nu : Nat → Nat) (e : List (Nat × Nat × Nat)) : Prop := ∀ i, (e_find i e).1 ≤ nu i ∧ nu i ≤ (e_find i e).2
theorem sv_int {al0 nu : Nat → Nat} {n m : Nat} {s : SV} {v : Value} (h : SVm al0 nu n m s v) (hi : isI s = true) : ∃ x, v = .int x := by
  have h1 : s.1 ≤ 1 := Nat.le_of_ble_eq_true hi
  cases v with
  | int x => exact ⟨x, rfl⟩
  | long x => rcases h with h | h <;> omega
  | null => change s.1 = 4 at h; omega
  | ref q => have := h.1; omega
  | _ => exact h.elim
theorem sv_itv {al0 nu : Nat → Nat} {n m : Nat} {G : SG} {s : SV} {x : Int32} (h : SVm al0 nu n m s (.int x)) (he : EnvN nu (g_e G)) : (itv G s).1 ≤ i2n x ∧ i2n x ≤ (itv G s).2 := by
  rcases h with ⟨h1, h2⟩ | ⟨h1, h2⟩
  · have : itv G s = s.2 := by unfold itv; rw [h1]; rfl
    rw [this]; exact h2
  · have : itv G s = e_find s.2.1 (g_e G) := by unfold itv; rw [h1]; rfl
    rw [this, h2.2]; exact he _
/-- more objects, more names -/
theorem sv_more {al0 nu nu' : Nat → Nat} {n m n' m' : Nat} {s : SV} {v : Value} (h : SVm al0 nu n m s v) (hn : n ≤ n') (hm : m ≤ m') (hu : ∀ i, i < m → nu' i = nu i) : SVm al0 nu' n' m' s v := by
  cases v with
  | int x => rcases h with h | ⟨h1, h2, h3⟩
             · exact .inl h
             · exact .inr ⟨h1, by omega, by rw [hu _ h2]; exact h3⟩
  | long x => exact h
  | null => exact h
  | ref q => exact ⟨h.1, Nat.lt_of_lt_of_le h.2.1 hn, h.2.2⟩
  | _ => exact h.elim
