/-! ===== int operations on numbers ===== -/
theorem bm32 (z : Int) : (z.bmod 4294967296 + 2147483648) = (z + 2147483648) % 4294967296 := by
  unfold Int.bmod
  simp only []
  split <;> omega
theorem i2n_of {z : Int32} {w : Int} (h : z.toInt = w.bmod (2 ^ 32)) : (i2n z : Int) = (w + 2147483648) % 4294967296 := by
  have h1 := i2n_z z
  rw [h] at h1
  rw [h1]
  exact bm32 w
theorem kb_add (x y : Int32) : i2n (x + y) = (i2n x + i2n y + 2147483648) % 4294967296 := by
  have h := i2n_of (Int32.toInt_add x y)
  have h1 := i2n_z x
  have h2 := i2n_z y
  omega
theorem kb_sub (x y : Int32) : i2n (x - y) = (i2n x + 6442450944 - i2n y) % 4294967296 := by
  have h := i2n_of (Int32.toInt_sub x y)
  have h1 := i2n_z x
  have h2 := i2n_z y
  have h3 := i2n_lt y
  omega
theorem kb_mul (x y : Int32) : i2n (x * y) = (i2n x * i2n y + (8589934592 - i2n x - i2n y) * 2147483648 + 4611686020574871552) % 4294967296 := by
  have h := i2n_of (Int32.toInt_mul x y)
  have h1 := i2n_z x
  have h2 := i2n_z y
  have h3 := i2n_lt x
  have h4 := i2n_lt y
  have h5 : ((i2n x * i2n y : Nat) : Int) = x.toInt * y.toInt + 2147483648 * x.toInt + 2147483648 * y.toInt + 4611686018427387904 := by
    rw [Int.natCast_mul, h1, h2, Int.add_mul, Int.mul_add, Int.mul_add]
    omega
  generalize i2n x * i2n y = p at h5 ⊢
  generalize x.toInt * y.toInt = q at h5 h
  omega
theorem zi_i2n (x : Int32) : zi x.toInt = i2n x := by
  have h := i2n_z x
  have h2 := x.le_toInt
  unfold zi
  split
  · rename_i n e
    rw [e] at h
    have : (Int.ofNat n : Int) = (n : Int) := rfl
    omega
  · rename_i n e
    rw [e] at h
    have : Int.negSucc n = -((n : Int) + 1) := by omega
    omega
theorem of_i2n (x : Int32) : Int32.ofInt ((i2n x : Int) - 2147483648) = x := by
  have h := i2n_z x
  rw [h, show x.toInt + 2147483648 - 2147483648 = x.toInt from by omega]
  exact Int32.ofInt_toInt x
