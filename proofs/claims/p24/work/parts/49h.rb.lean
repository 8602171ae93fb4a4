/-! ===== the relation of the texts: what it reads (printed by wip/e2/prt.py) ===== -/
noncomputable def mLawOf : Nat := 180
noncomputable def r5K : List Nat := [1, 2176, 2304, 8320, 8448]
noncomputable def stK : List Nat := [5120, 5248, 5376, 5504, 5632, 5888]
noncomputable def rbK : List Nat := r5K ++ stK ++ [1410, 1427, 3072, 7936, 8064, 8192]
noncomputable def kMty : Nat := 65
noncomputable def kMby : Nat := 66
noncomputable def kMla : Nat := 67
noncomputable def ffS : Nat := 8
noncomputable def ffSl : Nat := 54
noncomputable def ffSz : Nat := 53
noncomputable def ffLk : Nat := 69
noncomputable def ffKf : Nat := 51
noncomputable def ffK : List Nat := [11 * 128 + ffS, ffKf * 128, ffSl * 128, ffSz * 128, ffLk * 128]
