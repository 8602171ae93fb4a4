/-! ===== bounds of int operations ===== -/
theorem qe_bm_id {w : Int} (h1 : -2147483648 ≤ w) (h2 : w < 2147483648) : w.bmod (2 ^ 32) = w := by
  have := qe_bm32 w
  have h3 : w.bmod 4294967296 = w.bmod (2 ^ 32) := rfl
  rw [← h3]
  omega
theorem qe_dv_ok {x y : Int32} (hx : 2147483648 ≤ qe_i2n x) (hy : 2147483649 ≤ qe_i2n y) : (x / y).toInt = x.toInt / y.toInt ∧ (0 ≤ x.toInt / y.toInt ∧ x.toInt / y.toInt ≤ x.toInt) := by
  have h1 := qe_i2n_z x
  have h2 := qe_i2n_z y
  have h3 := qe_i2n_lt x
  have hn : 0 ≤ x.toInt := by omega
  have hp : 0 < y.toInt := by omega
  have e1 : 0 ≤ x.toInt / y.toInt := Int.ediv_nonneg hn (by omega)
  have e2 : x.toInt / y.toInt ≤ x.toInt := Int.ediv_le_self _ hn
  refine ⟨?_, e1, e2⟩
  rw [Int32.toInt_div, Int.tdiv_eq_ediv_of_nonneg hn]
  exact qe_bm_id (by omega) (by omega)
theorem qe_md_ok {x y : Int32} (hx : 2147483648 ≤ qe_i2n x) (hy : 2147483649 ≤ qe_i2n y) : (x - x / y * y).toInt = x.toInt % y.toInt := by
  have h1 := qe_i2n_z x
  have h2 := qe_i2n_z y
  have h3 := qe_i2n_lt x
  have hn : 0 ≤ x.toInt := by omega
  have hp : 0 < y.toInt := by omega
  obtain ⟨e1, e2, e3⟩ := qe_dv_ok hx hy
  have e4 := Int.emod_add_mul_ediv x.toInt y.toInt
  have e5 := Int.emod_nonneg x.toInt (show y.toInt ≠ 0 by omega)
  have e6 := Int.emod_lt_of_pos x.toInt hp
  have e8 : x.toInt / y.toInt * y.toInt = y.toInt * (x.toInt / y.toInt) := Int.mul_comm _ _
  have e9 : 0 ≤ x.toInt / y.toInt * y.toInt := Int.mul_nonneg e2 (by omega)
  have e7 : (x / y * y).toInt = x.toInt / y.toInt * y.toInt := by
    rw [Int32.toInt_mul, e1]
    exact qe_bm_id (by omega) (by omega)
  rw [Int32.toInt_sub, e7]
  have : x.toInt - x.toInt / y.toInt * y.toInt = x.toInt % y.toInt := by omega
  rw [this]
  exact qe_bm_id (by omega) (by omega)
theorem qe_i_nat (x : Int32) : x.toInt = if 2 * x.toBitVec.toNat < 4294967296 then (x.toBitVec.toNat : Int) else (x.toBitVec.toNat : Int) - 4294967296 := BitVec.toInt_eq_toNat_cond x.toBitVec
theorem qe_and_ok {x y : Int32} (hy : 0 ≤ y.toInt) : 0 ≤ (x &&& y).toInt ∧ (x &&& y).toInt ≤ y.toInt := by
  have h1 := qe_i_nat y
  have h2 := qe_i_nat (x &&& y)
  have h3 : (x &&& y).toBitVec.toNat = x.toBitVec.toNat &&& y.toBitVec.toNat := by
    rw [Int32.toBitVec_and, BitVec.toNat_and]
  have h4 : (x &&& y).toBitVec.toNat ≤ y.toBitVec.toNat := by rw [h3]; exact Nat.and_le_right
  have h5 := y.toBitVec.isLt
  split at h1 <;> split at h2 <;> omega
theorem qe_and_ok' {x y : Int32} (hx : 0 ≤ x.toInt) : 0 ≤ (x &&& y).toInt ∧ (x &&& y).toInt ≤ x.toInt := by
  have h1 := qe_i_nat x
  have h2 := qe_i_nat (x &&& y)
  have h3 : (x &&& y).toBitVec.toNat = x.toBitVec.toNat &&& y.toBitVec.toNat := by
    rw [Int32.toBitVec_and, BitVec.toNat_and]
  have h4 : (x &&& y).toBitVec.toNat ≤ x.toBitVec.toNat := by rw [h3]; exact Nat.and_le_left
  have h5 := x.toBitVec.isLt
  split at h1 <;> split at h2 <;> omega
theorem qe_mul_ok {x y : Int32} {b d : Nat} (hx : 2147483648 ≤ qe_i2n x) (hy : 2147483648 ≤ qe_i2n y) (hb : qe_i2n x ≤ b) (hd : qe_i2n y ≤ d) (hm : (b - 2147483648) * (d - 2147483648) ≤ 2147483647) :
    (qe_i2n x - 2147483648) * (qe_i2n y - 2147483648) ≤ (b - 2147483648) * (d - 2147483648) ∧ qe_i2n (x * y) = (qe_i2n x - 2147483648) * (qe_i2n y - 2147483648) + 2147483648 := by
  have h0 : (qe_i2n x - 2147483648) * (qe_i2n y - 2147483648) ≤ (b - 2147483648) * (d - 2147483648) := Nat.mul_le_mul (by omega) (by omega)
  refine ⟨h0, ?_⟩
  have h1 := qe_i2n_z x
  have h2 := qe_i2n_z y
  have h3 := qe_i2n_of (Int32.toInt_mul x y)
  have h4 : (((qe_i2n x - 2147483648) * (qe_i2n y - 2147483648) : Nat) : Int) = x.toInt * y.toInt := by
    rw [Int.natCast_mul, show ((qe_i2n x - 2147483648 : Nat) : Int) = x.toInt by omega, show ((qe_i2n y - 2147483648 : Nat) : Int) = y.toInt by omega]
  rw [← h4] at h3
  have h6 := Nat.le_trans h0 hm
  clear h0 hm h4
  generalize (qe_i2n x - 2147483648) * (qe_i2n y - 2147483648) = p at h3 h6 ⊢
  omega
theorem qe_beqt {a b : Nat} (h : Nat.beq a b = true) : a = b := Nat.eq_of_beq_eq_true h
theorem qe_blet {a b : Nat} (h : Nat.ble a b = true) : a ≤ b := Nat.le_of_ble_eq_true h
theorem qe_sfull_ok (z : Int32) : qe_sfull.1 = 0 ∧ (qe_sfull.2.1 ≤ qe_i2n z ∧ qe_i2n z ≤ qe_sfull.2.2) := ⟨rfl, Nat.zero_le _, Nat.le_of_lt_succ (qe_i2n_lt z)⟩
theorem qe_and2 {p q : Bool} (h : (p && q) = true) : p = true ∧ q = true := by
  cases p <;> cases q <;> first | exact ⟨rfl, rfl⟩ | exact Bool.noConfusion h
theorem qe_bnd_ok {k a b c d : Nat} {x y : Int32} {v : qe_SV} (h : qe_bnd k a b c d = some v) (hx : a ≤ qe_i2n x ∧ qe_i2n x ≤ b) (hy : c ≤ qe_i2n y ∧ qe_i2n y ≤ d) :
    ∃ z, ibin k x y = some z ∧ (v.1 = 0 ∧ (v.2.1 ≤ qe_i2n z ∧ qe_i2n z ≤ v.2.2)) := by
  obtain ⟨hx1, hx2⟩ := hx
  obtain ⟨hy1, hy2⟩ := hy
  have lx := qe_i2n_lt x
  have ly := qe_i2n_lt y
  unfold qe_bnd at h
  cases e0 : Nat.beq k 0
  · rw [e0, cond_false] at h
    cases e1 : Nat.beq k 1
    · rw [e1, cond_false] at h
      cases e2 : Nat.beq k 2
      · rw [e2, cond_false] at h
        cases e3 : Nat.beq k 3
        · rw [e3, cond_false] at h
          cases e4 : Nat.beq k 4
          · rw [e4, cond_false] at h
            cases e5 : Nat.beq k 5
            · rw [e5, cond_false] at h
              cases e9 : Nat.ble k 9
              · rw [e9, cond_false] at h; exact absurd h (by intro h; cases h)
              · rw [e9, cond_true] at h
                have hk := qe_blet e9
                have n0 := qe_beqf e0
                have n1 := qe_beqf e1
                have n2 := qe_beqf e2
                have n3 := qe_beqf e3
                have n4 := qe_beqf e4
                have n5 := qe_beqf e5
                rw [← Option.some.inj h]
                obtain rfl | rfl | rfl | rfl : k = 6 ∨ k = 7 ∨ k = 8 ∨ k = 9 := by omega
                all_goals exact ⟨_, rfl, qe_sfull_ok _⟩
            · rw [e5, cond_true] at h
              have := qe_beqt e5; subst this
              refine ⟨x &&& y, rfl, ?_⟩
              have z1 := qe_i2n_z x
              have z2 := qe_i2n_z y
              have z3 := qe_i2n_z (x &&& y)
              cases f1 : Nat.ble 2147483648 c
              · rw [f1, cond_false] at h
                cases f2 : Nat.ble 2147483648 a
                · rw [f2, cond_false] at h
                  rw [← Option.some.inj h]; exact qe_sfull_ok _
                · rw [f2, cond_true] at h
                  have := qe_blet f2
                  have w := qe_and_ok' (x := x) (y := y) (by omega)
                  rw [← Option.some.inj h]
                  exact ⟨rfl, by show 2147483648 ≤ _; omega, by show _ ≤ b; omega⟩
              · rw [f1, cond_true] at h
                have := qe_blet f1
                have w := qe_and_ok (x := x) (y := y) (by omega)
                rw [← Option.some.inj h]
                exact ⟨rfl, by show 2147483648 ≤ _; omega, by show _ ≤ d; omega⟩
          · rw [e4, cond_true] at h
            have := qe_beqt e4; subst this
            cases f1 : Nat.ble 2147483649 c
            · rw [f1, cond_false] at h; exact absurd h (by intro h; cases h)
            · rw [f1, cond_true] at h
              have g1 := qe_blet f1
              have hy0 : y ≠ 0 := fun e => by have := (qe_i2n_zero y).2 e; omega
              refine ⟨x - x / y * y, if_neg hy0, ?_⟩
              cases f2 : Nat.ble 2147483648 a
              · rw [f2, cond_false] at h
                rw [← Option.some.inj h]; exact qe_sfull_ok _
              · rw [f2, cond_true] at h
                have g2 := qe_blet f2
                have w := qe_md_ok (x := x) (y := y) (by omega) (by omega)
                have z2 := qe_i2n_z y
                have z3 := qe_i2n_z (x - x / y * y)
                have w1 := Int.emod_nonneg x.toInt (show y.toInt ≠ 0 by omega)
                have w2 := Int.emod_lt_of_pos x.toInt (show 0 < y.toInt by omega)
                rw [← Option.some.inj h]
                exact ⟨rfl, by show 2147483648 ≤ _; omega, by show _ ≤ d - 1; omega⟩
        · rw [e3, cond_true] at h
          have := qe_beqt e3; subst this
          cases f1 : Nat.ble 2147483649 c
          · rw [f1, cond_false] at h; exact absurd h (by intro h; cases h)
          · rw [f1, cond_true] at h
            have g1 := qe_blet f1
            have hy0 : y ≠ 0 := fun e => by have := (qe_i2n_zero y).2 e; omega
            refine ⟨x / y, if_neg hy0, ?_⟩
            cases f2 : Nat.ble 2147483648 a
            · rw [f2, cond_false] at h
              rw [← Option.some.inj h]; exact qe_sfull_ok _
            · rw [f2, cond_true] at h
              have g2 := qe_blet f2
              have w := qe_dv_ok (x := x) (y := y) (by omega) (by omega)
              have z2 := qe_i2n_z x
              have z3 := qe_i2n_z (x / y)
              rw [← Option.some.inj h]
              exact ⟨rfl, by show 2147483648 ≤ _; omega, by show _ ≤ b; omega⟩
      · rw [e2, cond_true] at h
        have := qe_beqt e2; subst this
        refine ⟨x * y, rfl, ?_⟩
        cases f : (Nat.ble 2147483648 a && Nat.ble 2147483648 c) && Nat.ble ((b - 2147483648) * (d - 2147483648)) 2147483647
        · rw [f, cond_false] at h
          rw [← Option.some.inj h]; exact qe_sfull_ok _
        · rw [f, cond_true] at h
          obtain ⟨f1, f3⟩ := qe_and2 f
          obtain ⟨f1, f2⟩ := qe_and2 f1
          have g1 := qe_blet f1
          have g2 := qe_blet f2
          have g3 := qe_blet f3
          have w := qe_mul_ok (x := x) (y := y) (by omega) (by omega) hx2 hy2 g3
          have w2 : (a - 2147483648) * (c - 2147483648) ≤ (qe_i2n x - 2147483648) * (qe_i2n y - 2147483648) := Nat.mul_le_mul (by omega) (by omega)
          rw [← Option.some.inj h, w.2]
          exact ⟨rfl, Nat.add_le_add_right w2 _, Nat.add_le_add_right w.1 _⟩
    · rw [e1, cond_true] at h
      have := qe_beqt e1; subst this
      refine ⟨x - y, rfl, ?_⟩
      cases f : Nat.ble d (a + 2147483648) && Nat.ble (b + 2147483648) (c + 4294967295)
      · rw [f, cond_false] at h
        rw [← Option.some.inj h]; exact qe_sfull_ok _
      · rw [f, cond_true] at h
        obtain ⟨f1, f2⟩ := qe_and2 f
        have g1 := qe_blet f1
        have g2 := qe_blet f2
        have w := qe_kb_sub x y
        rw [← Option.some.inj h]
        exact ⟨rfl, by show a + 2147483648 - d ≤ _; omega, by show _ ≤ b + 2147483648 - c; omega⟩
  · rw [e0, cond_true] at h
    have := qe_beqt e0; subst this
    refine ⟨x + y, rfl, ?_⟩
    cases f : Nat.ble 2147483648 (a + c) && Nat.ble (b + d) 6442450943
    · rw [f, cond_false] at h
      rw [← Option.some.inj h]; exact qe_sfull_ok _
    · rw [f, cond_true] at h
      obtain ⟨f1, f2⟩ := qe_and2 f
      have g1 := qe_blet f1
      have g2 := qe_blet f2
      have w := qe_kb_add x y
      rw [← Option.some.inj h]
      exact ⟨rfl, by show a + c - 2147483648 ≤ _; omega, by show _ ≤ b + d - 2147483648; omega⟩
