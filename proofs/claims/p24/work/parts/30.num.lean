/-! ===== numbers: ints moved up by 2^31, longs by 2^63 ===== -/
abbrev SV : Type := Nat × Nat × Nat
noncomputable def zi (c : Int) : Nat := match c with
  | .ofNat n => n + 2147483648
  | .negSucc n => 2147483647 - n
noncomputable def zl (c : Int) : Nat := match c with
  | .ofNat n => n + 9223372036854775808
  | .negSucc n => 9223372036854775807 - n
noncomputable def sk (c : Nat) : SV := (0, c, 0)
noncomputable def sfull : SV := (0, 0, 4294967295)
noncomputable def nmin (a b : Nat) : Nat := bif Nat.ble a b then a else b
noncomputable def nmax (a b : Nat) : Nat := bif Nat.ble a b then b else a
/-- int operations on constants -/
noncomputable def kbin (k a c : Nat) : Option Nat :=
  bif Nat.beq k 0 then some ((a + c + 2147483648) % 4294967296)
  else bif Nat.beq k 1 then some ((a + 6442450944 - c) % 4294967296)
  else bif Nat.beq k 2 then some ((a * c + (8589934592 - a - c) * 2147483648 + 4611686020574871552) % 4294967296)
  else bif Nat.beq k 3 then (bif Nat.beq c 2147483648 then none else some (zi (ibin3 a c)))
  else bif Nat.beq k 4 then (bif Nat.beq c 2147483648 then none else some (zi (ibin4 a c)))
  else bif Nat.ble k 9 then some (zi (ibinz k a c)) else none
where
  ibin3 (a c : Nat) : Int := ((Int32.ofInt ((a : Int) - 2147483648)) / (Int32.ofInt ((c : Int) - 2147483648))).toInt
  ibin4 (a c : Nat) : Int := ((Int32.ofInt ((a : Int) - 2147483648)) - (Int32.ofInt ((a : Int) - 2147483648)) / (Int32.ofInt ((c : Int) - 2147483648)) * (Int32.ofInt ((c : Int) - 2147483648))).toInt
  ibinz (k a c : Nat) : Int := match ibin k (Int32.ofInt ((a : Int) - 2147483648)) (Int32.ofInt ((c : Int) - 2147483648)) with
    | some r => r.toInt
    | none => 0
/-- bounds of an int operation; a and c, b and d: least and greatest of each side -/
noncomputable def bnd (k a b c d : Nat) : Option SV :=
  bif Nat.beq k 0 then (bif Nat.ble 2147483648 (a + c) && Nat.ble (b + d) 6442450943 then some (0, a + c - 2147483648, b + d - 2147483648) else some sfull)
  else bif Nat.beq k 1 then (bif Nat.ble d (a + 2147483648) && Nat.ble (b + 2147483648) (c + 4294967295) then some (0, a + 2147483648 - d, b + 2147483648 - c) else some sfull)
  else bif Nat.beq k 2 then (bif (Nat.ble 2147483648 a && Nat.ble 2147483648 c) && Nat.ble ((b - 2147483648) * (d - 2147483648)) 2147483647 then some (0, (a - 2147483648) * (c - 2147483648) + 2147483648, (b - 2147483648) * (d - 2147483648) + 2147483648) else some sfull)
  else bif Nat.beq k 3 then (bif Nat.ble 2147483649 c then (bif Nat.ble 2147483648 a then some (0, 2147483648, b) else some sfull) else none)
  else bif Nat.beq k 4 then (bif Nat.ble 2147483649 c then (bif Nat.ble 2147483648 a then some (0, 2147483648, d - 1) else some sfull) else none)
  else bif Nat.beq k 5 then (bif Nat.ble 2147483648 c then some (0, 2147483648, d) else bif Nat.ble 2147483648 a then some (0, 2147483648, b) else some sfull)
  else bif Nat.ble k 9 then some sfull else none
noncomputable def veq (u v : SV) : Bool := Nat.beq u.1 v.1 && (Nat.beq u.2.1 v.2.1 && Nat.beq u.2.2 v.2.2)
