/-! ===== int operations on numbers ===== -/
theorem qe_bm32 (z : Int) : (z.bmod 4294967296 + 2147483648) = (z + 2147483648) % 4294967296 := by
  unfold Int.bmod
  simp only []
  split <;> omega
theorem qe_i2n_of {z : Int32} {w : Int} (h : z.toInt = w.bmod (2 ^ 32)) : (qe_i2n z : Int) = (w + 2147483648) % 4294967296 := by
  have h1 := qe_i2n_z z
  rw [h] at h1
  rw [h1]
  exact qe_bm32 w
theorem qe_kb_add (x y : Int32) : qe_i2n (x + y) = (qe_i2n x + qe_i2n y + 2147483648) % 4294967296 := by
  have h := qe_i2n_of (Int32.toInt_add x y)
  have h1 := qe_i2n_z x
  have h2 := qe_i2n_z y
  omega
theorem qe_kb_sub (x y : Int32) : qe_i2n (x - y) = (qe_i2n x + 6442450944 - qe_i2n y) % 4294967296 := by
  have h := qe_i2n_of (Int32.toInt_sub x y)
  have h1 := qe_i2n_z x
  have h2 := qe_i2n_z y
  have h3 := qe_i2n_lt y
  omega
theorem qe_kb_mul (x y : Int32) : qe_i2n (x * y) = (qe_i2n x * qe_i2n y + (8589934592 - qe_i2n x - qe_i2n y) * 2147483648 + 4611686020574871552) % 4294967296 := by
  have h := qe_i2n_of (Int32.toInt_mul x y)
  have h1 := qe_i2n_z x
  have h2 := qe_i2n_z y
  have h3 := qe_i2n_lt x
  have h4 := qe_i2n_lt y
  have h5 : ((qe_i2n x * qe_i2n y : Nat) : Int) = x.toInt * y.toInt + 2147483648 * x.toInt + 2147483648 * y.toInt + 4611686018427387904 := by
    rw [Int.natCast_mul, h1, h2, Int.add_mul, Int.mul_add, Int.mul_add]
    omega
  generalize qe_i2n x * qe_i2n y = p at h5 ⊢
  generalize x.toInt * y.toInt = q at h5 h
  omega
theorem qe_zi_i2n (x : Int32) : qe_zi x.toInt = qe_i2n x := by
  have h := qe_i2n_z x
  have h2 := x.le_toInt
  unfold qe_zi
  split
  · rename_i n e
    rw [e] at h
    have : (Int.ofNat n : Int) = (n : Int) := rfl
    omega
  · rename_i n e
    rw [e] at h
    have : Int.negSucc n = -((n : Int) + 1) := by omega
    omega
theorem qe_of_i2n (x : Int32) : Int32.ofInt ((qe_i2n x : Int) - 2147483648) = x := by
  have h := qe_i2n_z x
  rw [h, show x.toInt + 2147483648 - 2147483648 = x.toInt from by omega]
  exact Int32.ofInt_toInt x
theorem qe_i2n_zero (y : Int32) : qe_i2n y = 2147483648 ↔ y = 0 := by
  have h0 : qe_i2n (0 : Int32) = 2147483648 := by decide +kernel
  constructor
  · intro h; exact qe_i2n_inj (h.trans h0.symm)
  · intro h; rw [h, h0]
theorem qe_beqf {a b : Nat} (h : Nat.beq a b = false) : a ≠ b := fun e => by rw [e, Nat.beq_refl] at h; exact Bool.noConfusion h
theorem qe_kbin_ok {k : Nat} {x y : Int32} {r : Nat} (h : qe_kbin k (qe_i2n x) (qe_i2n y) = some r) : ∃ z, ibin k x y = some z ∧ qe_i2n z = r := by
  unfold qe_kbin at h
  cases e0 : Nat.beq k 0
  · rw [e0, cond_false] at h
    cases e1 : Nat.beq k 1
    · rw [e1, cond_false] at h
      cases e2 : Nat.beq k 2
      · rw [e2, cond_false] at h
        cases e3 : Nat.beq k 3
        · rw [e3, cond_false] at h
          cases e4 : Nat.beq k 4
          · rw [e4, cond_false] at h
            cases e9 : Nat.ble k 9
            · rw [e9, cond_false] at h; exact absurd h (by intro h; cases h)
            · rw [e9, cond_true] at h
              have hk := Nat.le_of_ble_eq_true e9
              have n3 := qe_beqf e3
              have n4 := qe_beqf e4
              unfold qe_kbin.ibinz at h
              rw [qe_of_i2n, qe_of_i2n] at h
              have hs : ∃ z, ibin k x y = some z := by
                have n0 := qe_beqf e0
                have n1 := qe_beqf e1
                have n2 := qe_beqf e2
                obtain rfl | rfl | rfl | rfl | rfl : k = 5 ∨ k = 6 ∨ k = 7 ∨ k = 8 ∨ k = 9 := by omega
                all_goals exact ⟨_, rfl⟩
              obtain ⟨z, hz⟩ := hs
              rw [hz] at h
              exact ⟨z, hz, by rw [← qe_zi_i2n]; exact Option.some.inj h⟩
          · rw [e4, cond_true] at h
            have := Nat.eq_of_beq_eq_true e4; subst this
            cases e5 : Nat.beq (qe_i2n y) 2147483648
            · rw [e5, cond_false] at h
              have hy : y ≠ 0 := fun e => qe_beqf e5 ((qe_i2n_zero y).2 e)
              unfold qe_kbin.ibin4 at h
              rw [qe_of_i2n, qe_of_i2n] at h
              refine ⟨x - x / y * y, ?_, by rw [← qe_zi_i2n]; exact Option.some.inj h⟩
              exact if_neg hy
            · rw [e5, cond_true] at h; exact absurd h (by intro h; cases h)
        · rw [e3, cond_true] at h
          have := Nat.eq_of_beq_eq_true e3; subst this
          cases e5 : Nat.beq (qe_i2n y) 2147483648
          · rw [e5, cond_false] at h
            have hy : y ≠ 0 := fun e => qe_beqf e5 ((qe_i2n_zero y).2 e)
            unfold qe_kbin.ibin3 at h
            rw [qe_of_i2n, qe_of_i2n] at h
            refine ⟨x / y, ?_, by rw [← qe_zi_i2n]; exact Option.some.inj h⟩
            exact if_neg hy
          · rw [e5, cond_true] at h; exact absurd h (by intro h; cases h)
      · rw [e2, cond_true] at h
        have := Nat.eq_of_beq_eq_true e2; subst this
        exact ⟨x * y, rfl, by rw [qe_kb_mul]; exact Option.some.inj h⟩
    · rw [e1, cond_true] at h
      have := Nat.eq_of_beq_eq_true e1; subst this
      exact ⟨x - y, rfl, by rw [qe_kb_sub]; exact Option.some.inj h⟩
  · rw [e0, cond_true] at h
    have := Nat.eq_of_beq_eq_true e0; subst this
    exact ⟨x + y, rfl, by rw [qe_kb_add]; exact Option.some.inj h⟩
