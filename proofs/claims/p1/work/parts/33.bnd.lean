/-! ===== bounds of int operations ===== -/
theorem bm_id {w : Int} (h1 : -2147483648 ≤ w) (h2 : w < 2147483648) : w.bmod (2 ^ 32) = w := by
  have := bm32 w
  have h3 : w.bmod 4294967296 = w.bmod (2 ^ 32) := rfl
  rw [← h3]
  omega
theorem dv_ok {x y : Int32} (hx : 2147483648 ≤ i2n x) (hy : 2147483649 ≤ i2n y) : (x / y).toInt = x.toInt / y.toInt ∧ (0 ≤ x.toInt / y.toInt ∧ x.toInt / y.toInt ≤ x.toInt) := by
  have h1 := i2n_z x
  have h2 := i2n_z y
  have h3 := i2n_lt x
  have hn : 0 ≤ x.toInt := by omega
  have hp : 0 < y.toInt := by omega
  have e1 : 0 ≤ x.toInt / y.toInt := Int.ediv_nonneg hn (by omega)
  have e2 : x.toInt / y.toInt ≤ x.toInt := Int.ediv_le_self _ hn
  refine ⟨?_, e1, e2⟩
  rw [Int32.toInt_div, Int.tdiv_eq_ediv_of_nonneg hn]
  exact bm_id (by omega) (by omega)
theorem md_ok {x y : Int32} (hx : 2147483648 ≤ i2n x) (hy : 2147483649 ≤ i2n y) : (x - x / y * y).toInt = x.toInt % y.toInt := by
  have h1 := i2n_z x
  have h2 := i2n_z y
  have h3 := i2n_lt x
  have hn : 0 ≤ x.toInt := by omega
  have hp : 0 < y.toInt := by omega
  obtain ⟨e1, e2, e3⟩ := dv_ok hx hy
  have e4 := Int.emod_add_mul_ediv x.toInt y.toInt
  have e5 := Int.emod_nonneg x.toInt (show y.toInt ≠ 0 by omega)
  have e6 := Int.emod_lt_of_pos x.toInt hp
  have e8 : x.toInt / y.toInt * y.toInt = y.toInt * (x.toInt / y.toInt) := Int.mul_comm _ _
  have e9 : 0 ≤ x.toInt / y.toInt * y.toInt := Int.mul_nonneg e2 (by omega)
  have e7 : (x / y * y).toInt = x.toInt / y.toInt * y.toInt := by
    rw [Int32.toInt_mul, e1]
    exact bm_id (by omega) (by omega)
  rw [Int32.toInt_sub, e7]
  have : x.toInt - x.toInt / y.toInt * y.toInt = x.toInt % y.toInt := by omega
  rw [this]
  exact bm_id (by omega) (by omega)
