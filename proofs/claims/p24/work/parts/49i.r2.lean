/-! ===== permits, skips and lets (printed by wip/e2/prt.py) ===== -/
noncomputable def useR2 : Bool := true
noncomputable def npH : Nat := 16
noncomputable def mReads : Nat := 181
noncomputable def mHasP : Nat := 171
noncomputable def mFreeF : Nat := 20
noncomputable def mFreeA : Nat := 170
noncomputable def r2K : List Nat := [1410, 1427, 3072, 7936, 8064, 8192]
noncomputable def ffT1 : Nat := 6
noncomputable def ffT2 : Nat := 7
noncomputable def ffT3 : Nat := 9
noncomputable def ffT4 : Nat := 4
noncomputable def ffT0 : Nat := 1
noncomputable def mfork : Bool := false
noncomputable def mIsW : Nat := 59
noncomputable def mIsB : Nat := 197
