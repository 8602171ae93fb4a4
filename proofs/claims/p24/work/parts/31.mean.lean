/-! ===== what the symbolic machine's things stand for ===== -/
noncomputable def i2n (x : Int32) : Nat := (x.toInt + 2147483648).toNat
noncomputable def l2n (x : Int64) : Nat := (x.toInt + 9223372036854775808).toNat
theorem i2n_z (x : Int32) : (i2n x : Int) = x.toInt + 2147483648 := by
  have h1 := x.le_toInt
  unfold i2n
  omega
theorem i2n_lt (x : Int32) : i2n x < 4294967296 := by
  have h1 := x.toInt_lt
  have h2 := i2n_z x
  omega
theorem i2n_inj {x y : Int32} (h : i2n x = i2n y) : x = y := by
  have h1 := i2n_z x
  have h2 := i2n_z y
  exact Int32.toInt_inj.mp (by omega)
