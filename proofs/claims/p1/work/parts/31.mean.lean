/-! ===== what the symbolic machine's things stand for ===== -/
noncomputable def i2n (x : Int32) : Nat := (x.toInt + 2147483648).toNat
noncomputable def l2n (x : Int64) : Nat := (x.toInt + 9223372036854775808).toNat
theorem i2n_z (x : Int32) : (i2n x : Int) = x.toInt + 2147483648 := by
  have h1 := x.le_toInt
  unfold i2n
  omega
theorem i2n_lt (x : Int32) : i2n x < 4294967296 := by
  have h1 := x.toInt_lt
  have h2 := i2n_z x
  omega
theorem i2n_inj {x y : Int32} (h : i2n x = i2n y) : x = y := by
  have h1 := i2n_z x
  have h2 := i2n_z y
  exact Int32.toInt_inj.mp (by omega)
/-- where object k lies -/
noncomputable def al (σ : Nat → Nat) (b base k : Nat) : Nat := bif Nat.ble 7 k then base + (k - 7) else bif Nat.beq k 6 then b else σ k
inductive SVm (α ν : Nat → Nat) (n : Nat) : SV → Value → Prop
  | itv {a b : Nat} {x : Int32} : a ≤ i2n x → i2n x ≤ b → SVm α ν n (0, a, b) (.int x)
  | nam {i z : Nat} {x : Int32} : i2n x = ν i → SVm α ν n (1, i, z) (.int x)
  | lc {a z : Nat} {x : Int64} : l2n x = a → SVm α ν n (2, a, z) (.long x)
  | la {z w : Nat} {x : Int64} : SVm α ν n (3, z, w) (.long x)
  | nul {z w : Nat} : SVm α ν n (4, z, w) .null
  | obj {k z : Nat} : k < n → SVm α ν n (5, k, z) (.ref (α k))
