/-! ===== bounds of int operations ===== -/
theorem bm_id {w : Int} (h1 : -2147483648 ≤ w) (h2 : w < 2147483648) : w.bmod (2 ^ 32) = w := by
  have := bm32 w
  have h3 : w.bmod 4294967296 = w.bmod (2 ^ 32) := rfl
  rw [← h3]
  omega
theorem dv_ok {x y : Int32} (hx : 2147483648 ≤ i2n x) (hy : 2147483649 ≤ i2n y) : (x / y).toInt = x.toInt / y.toInt ∧ (0 ≤ x.toInt / y.toInt ∧ x.toInt / y.toInt ≤ x.toInt) := by
  have h1 := i2n_z x
  have h2 := i2n_z y
  have h3 := i2n_lt x
  have hn : 0 ≤ x.toInt := by omega
  have hp : 0 < y.toInt := by omega
  have e1 : 0 ≤ x.toInt / y.toInt := Int.ediv_nonneg hn (by omega)
  have e2 : x.toInt / y.toInt ≤ x.toInt := Int.ediv_le_self _ hn
  refine ⟨?_, e1, e2⟩
  rw [Int32.toInt_div, Int.tdiv_eq_ediv_of_nonneg hn]
  exact bm_id (by omega) (by omega)
theorem md_ok {x y : Int32} (hx : 2147483648 ≤ i2n x) (hy : 2147483649 ≤ i2n y) : (x - x / y * y).toInt = x.toInt % y.toInt := by
  have h1 := i2n_z x
  have h2 := i2n_z y
  have h3 := i2n_lt x
  have hn : 0 ≤ x.toInt := by omega
  have hp : 0 < y.toInt := by omega
  obtain ⟨e1, e2, e3⟩ := dv_ok hx hy
  have e4 := Int.emod_add_mul_ediv x.toInt y.toInt
  have e5 := Int.emod_nonneg x.toInt (show y.toInt ≠ 0 by omega)
  have e6 := Int.emod_lt_of_pos x.toInt hp
  have e8 : x.toInt / y.toInt * y.toInt = y.toInt * (x.toInt / y.toInt) := Int.mul_comm _ _
  have e9 : 0 ≤ x.toInt / y.toInt * y.toInt := Int.mul_nonneg e2 (by omega)
  have e7 : (x / y * y).toInt = x.toInt / y.toInt * y.toInt := by
    rw [Int32.toInt_mul, e1]
    exact bm_id (by omega) (by omega)
  rw [Int32.toInt_sub, e7]
  have : x.toInt - x.toInt / y.toInt * y.toInt = x.toInt % y.toInt := by omega
  rw [this]
  exact bm_id (by omega) (by omega)
theorem i_nat (x : Int32) : x.toInt = if 2 * x.toBitVec.toNat < 4294967296 then (x.toBitVec.toNat : Int) else (x.toBitVec.toNat : Int) - 4294967296 := BitVec.toInt_eq_toNat_cond x.toBitVec
theorem and_ok {x y : Int32} (hy : 0 ≤ y.toInt) : 0 ≤ (x &&& y).toInt ∧ (x &&& y).toInt ≤ y.toInt := by
  have h1 := i_nat y
  have h2 := i_nat (x &&& y)
  have h3 : (x &&& y).toBitVec.toNat = x.toBitVec.toNat &&& y.toBitVec.toNat := by
    rw [Int32.toBitVec_and, BitVec.toNat_and]
  have h4 : (x &&& y).toBitVec.toNat ≤ y.toBitVec.toNat := by rw [h3]; exact Nat.and_le_right
  have h5 := y.toBitVec.isLt
  split at h1 <;> split at h2 <;> omega
theorem and_ok' {x y : Int32} (hx : 0 ≤ x.toInt) : 0 ≤ (x &&& y).toInt ∧ (x &&& y).toInt ≤ x.toInt := by
  have h1 := i_nat x
  have h2 := i_nat (x &&& y)
  have h3 : (x &&& y).toBitVec.toNat = x.toBitVec.toNat &&& y.toBitVec.toNat := by
    rw [Int32.toBitVec_and, BitVec.toNat_and]
  have h4 : (x &&& y).toBitVec.toNat ≤ x.toBitVec.toNat := by rw [h3]; exact Nat.and_le_left
  have h5 := x.toBitVec.isLt
  split at h1 <;> split at h2 <;> omega
theorem mul_ok {x y : Int32} {b d : Nat} (hx : 2147483648 ≤ i2n x) (hy : 2147483648 ≤ i2n y) (hb : i2n x ≤ b) (hd : i2n y ≤ d) (hm : (b - 2147483648) * (d - 2147483648) ≤ 2147483647) :
    (i2n x - 2147483648) * (i2n y - 2147483648) ≤ (b - 2147483648) * (d - 2147483648) ∧ i2n (x * y) = (i2n x - 2147483648) * (i2n y - 2147483648) + 2147483648 := by
  have h0 : (i2n x - 2147483648) * (i2n y - 2147483648) ≤ (b - 2147483648) * (d - 2147483648) := Nat.mul_le_mul (by omega) (by omega)
  refine ⟨h0, ?_⟩
  have h1 := i2n_z x
  have h2 := i2n_z y
  have h3 := i2n_of (Int32.toInt_mul x y)
  have h4 : (((i2n x - 2147483648) * (i2n y - 2147483648) : Nat) : Int) = x.toInt * y.toInt := by
    rw [Int.natCast_mul, show ((i2n x - 2147483648 : Nat) : Int) = x.toInt by omega, show ((i2n y - 2147483648 : Nat) : Int) = y.toInt by omega]
  rw [← h4] at h3
  have h6 := h0.trans hm
  clear h0 hm h4
  generalize (i2n x - 2147483648) * (i2n y - 2147483648) = p at h3 h6 ⊢
  omega
