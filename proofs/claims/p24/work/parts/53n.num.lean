/-! ===== numbers again: longs, small facts ===== -/
theorem l2n_z (x : Int64) : (l2n x : Int) = x.toInt + 9223372036854775808 := by
  have h1 := x.le_toInt
  unfold l2n
  omega
theorem l2n_lt (x : Int64) : l2n x < 18446744073709551616 := by
  have h1 := x.toInt_lt
  have h2 := l2n_z x
  omega
theorem bm64 (z : Int) : (z.bmod 18446744073709551616 + 9223372036854775808) = (z + 9223372036854775808) % 18446744073709551616 := by
  unfold Int.bmod
  simp only []
  split <;> omega
theorem l2n_of {z : Int64} {w : Int} (h : z.toInt = w.bmod (2 ^ 64)) : (l2n z : Int) = (w + 9223372036854775808) % 18446744073709551616 := by
  have h1 := l2n_z z
  rw [h] at h1
  rw [h1]
  exact bm64 w
theorem kl_add (x y : Int64) : l2n (x + y) = (l2n x + l2n y + 9223372036854775808) % 18446744073709551616 := by
  have h := l2n_of (Int64.toInt_add x y)
  have h1 := l2n_z x
  have h2 := l2n_z y
  omega
theorem kl_sub (x y : Int64) : l2n (x - y) = (l2n x + 27670116110564327424 - l2n y) % 18446744073709551616 := by
  have h := l2n_of (Int64.toInt_sub x y)
  have h1 := l2n_z x
  have h2 := l2n_z y
  have h3 := l2n_lt y
  omega
theorem kl_mul (x y : Int64) : l2n (x * y) = (l2n x * l2n y + (36893488147419103232 - l2n x - l2n y) * 9223372036854775808 + 85070591730234615875067023894796828672) % 18446744073709551616 := by
  have h := l2n_of (Int64.toInt_mul x y)
  have h1 := l2n_z x
  have h2 := l2n_z y
  have h3 := l2n_lt x
  have h4 := l2n_lt y
  have h5 : ((l2n x * l2n y : Nat) : Int) = x.toInt * y.toInt + 9223372036854775808 * x.toInt + 9223372036854775808 * y.toInt + 85070591730234615865843651857942052864 := by
    rw [Int.natCast_mul, h1, h2, Int.add_mul, Int.mul_add, Int.mul_add]
    omega
  generalize l2n x * l2n y = p at h5 ⊢
  generalize x.toInt * y.toInt = q at h5 h
  omega
theorem l_inj {x y : Int64} (h : l2n x = l2n y) : x = y := by
  have h1 := l2n_z x
  have h2 := l2n_z y
  exact Int64.toInt_inj.mp (by omega)
theorem l_lt (x y : Int64) : x < y ↔ l2n x < l2n y := by
  rw [Int64.lt_iff_toInt_lt]
  have h1 := l2n_z x
  have h2 := l2n_z y
  omega
theorem c_m1 : i2n (-1 : Int32) = 2147483647 := by decide +kernel
theorem c_0 : i2n (0 : Int32) = 2147483648 := by decide +kernel
theorem c_1 : i2n (1 : Int32) = 2147483649 := by decide +kernel
theorem nI_ok {j : Nat} (h : j < 2147483648) : i2n (nI j) = j + 2147483648 := by
  have h1 := i2n_z (nI j)
  have h2 : (nI j).toInt = j := by
    unfold nI
    exact Int32.toInt_ofNat_of_lt h
  omega
theorem veq_ok {u v : SV} (h : veq u v = true) : u = v := by
  obtain ⟨h1, h2⟩ := and2 h
  obtain ⟨h2, h3⟩ := and2 h2
  exact Prod.ext (beqt h1) (Prod.ext (beqt h2) (beqt h3))
theorem bif_some {α : Type} {c : Bool} {x : Option α} {r : α} (h : (bif c then x else none) = some r) : c = true ∧ x = some r := by
  cases c
  · exact absurd h (by intro h; cases h)
  · exact ⟨rfl, h⟩
theorem i_lt (X Y : Int32) : X < Y ↔ i2n X < i2n Y := by
  rw [Int32.lt_iff_toInt_lt]
  have h1 := i2n_z X
  have h2 := i2n_z Y
  omega
theorem i_le (X Y : Int32) : X ≤ Y ↔ i2n X ≤ i2n Y := by
  rw [Int32.le_iff_toInt_le]
  have h1 := i2n_z X
  have h2 := i2n_z Y
  omega
theorem s_def_ok {l : List (Nat × Nat × SV × SV)} {k : Nat} {x y : SV} {i : Nat} (h : s_def l k x y = some i) : (i, k, x, y) ∈ l := by
  induction l with
  | nil => exact absurd h (by intro h; cases h)
  | cons q r ih =>
    unfold s_def at h
    cases hb : Nat.beq q.2.1 k && (veq q.2.2.1 x && veq q.2.2.2 y)
    · rw [hb, cond_false] at h
      exact List.mem_cons_of_mem _ (ih h)
    · rw [hb, cond_true] at h
      obtain ⟨h1, h2⟩ := and2 hb
      obtain ⟨h2, h3⟩ := and2 h2
      have : q = (i, k, x, y) := Prod.ext (Option.some.inj h) (Prod.ext (beqt h1) (Prod.ext (veq_ok h2) (veq_ok h3)))
      rw [this]; exact List.mem_cons_self
theorem cv_l (x : Int32) : l2n x.toInt64 = i2n x + 9223372034707292160 := by
  have h1 := l2n_z x.toInt64
  have h2 := i2n_z x
  rw [Int32.toInt_toInt64] at h1
  omega
theorem cv_i (x : Int64) : i2n x.toInt32 = (l2n x + 2147483648) % 4294967296 := by
  have h := i2n_of (Int64.toInt_toInt32 x)
  have h1 := l2n_z x
  omega
theorem cv_8 (x : Int32) : 2147483520 ≤ i2n x.toInt8.toInt32 ∧ i2n x.toInt8.toInt32 ≤ 2147483775 := by
  have h := i2n_z x.toInt8.toInt32
  rw [Int8.toInt_toInt32] at h
  have h1 := x.toInt8.le_toInt
  have h2 := x.toInt8.toInt_lt
  omega
theorem cv_16 (x : Int32) : 2147450880 ≤ i2n x.toInt16.toInt32 ∧ i2n x.toInt16.toInt32 ≤ 2147516415 := by
  have h := i2n_z x.toInt16.toInt32
  rw [Int16.toInt_toInt32] at h
  have h1 := x.toInt16.le_toInt
  have h2 := x.toInt16.toInt_lt
  omega
