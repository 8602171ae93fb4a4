/-! ===== the law's runs ===== -/
theorem law_runs : LawRuns 7 := by
  intro base b σ xs h0 hlen hS
  have hL : xs.length = 0 ∨ xs.length = 1 ∨ xs.length = 2 ∨ xs.length = 3 ∨ xs.length = 4 ∨ xs.length = 5 ∨ xs.length = 6 ∨ xs.length = 7 := by omega
  rcases hL with hL | hL | hL | hL | hL | hL | hL | hL
  · exact law_of hS (rm_L hS hL (by omega)) kl_0
  · exact law_of hS (rm_L hS hL (by omega)) kl_1
  · exact law_of hS (rm_L hS hL (by omega)) kl_2
  · exact law_of hS (rm_L hS hL (by omega)) kl_3
  · exact law_of hS (rm_L hS hL (by omega)) kl_4
  · exact law_of hS (rm_L hS hL (by omega)) kl_5
  · exact law_of hS (rm_L hS hL (by omega)) kl_6
  · have hb : 2147483648 ≤ nuX xs 7 ∧ nuX xs 7 ≤ 2147483711 := by
      have e : nuX xs 7 = i2n (xs.getD 0 0 &&& 63) := if_pos rfl
      have h1 := i2n_z (xs.getD 0 0 &&& 63)
      have h3 : (63 : Int32).toInt = 63 := by decide +kernel
      have h2 := and_ok (x := xs.getD 0 0) (y := 63) (by omega)
      omega
    have f9 : 0 ≤ nuX xs 9 ∧ nuX xs 9 ≤ 4294967295 := ⟨Nat.zero_le _, nuX_lt xs 9⟩
    have f4 : nuX xs 4 ≤ 4294967295 := nuX_lt xs 4
    have f1 : nuX xs 1 ≤ 4294967295 := nuX_lt xs 1
    have hc : nuX xs 7 = 2147483648 ∨ nuX xs 7 = 2147483649 ∨ nuX xs 7 = 2147483650 ∨ nuX xs 7 = 2147483651 ∨ nuX xs 7 = 2147483652 ∨ nuX xs 7 = 2147483653 ∨ nuX xs 7 = 2147483654 ∨ nuX xs 7 = 2147483655 ∨ nuX xs 7 = 2147483656 ∨ nuX xs 7 = 2147483657 ∨ nuX xs 7 = 2147483658 ∨ nuX xs 7 = 2147483659 ∨ nuX xs 7 = 2147483660 ∨ nuX xs 7 = 2147483661 ∨ nuX xs 7 = 2147483662 ∨ nuX xs 7 = 2147483663 ∨ nuX xs 7 = 2147483664 ∨ nuX xs 7 = 2147483665 ∨ nuX xs 7 = 2147483666 ∨ nuX xs 7 = 2147483667 ∨ nuX xs 7 = 2147483668 ∨ nuX xs 7 = 2147483669 ∨ nuX xs 7 = 2147483670 ∨ nuX xs 7 = 2147483671 ∨ nuX xs 7 = 2147483672 ∨ nuX xs 7 = 2147483673 ∨ nuX xs 7 = 2147483674 ∨ nuX xs 7 = 2147483675 ∨ nuX xs 7 = 2147483676 ∨ nuX xs 7 = 2147483677 ∨ nuX xs 7 = 2147483678 ∨ nuX xs 7 = 2147483679 ∨ nuX xs 7 = 2147483680 ∨ nuX xs 7 = 2147483681 ∨ nuX xs 7 = 2147483682 ∨ nuX xs 7 = 2147483683 ∨ nuX xs 7 = 2147483684 ∨ nuX xs 7 = 2147483685 ∨ nuX xs 7 = 2147483686 ∨ nuX xs 7 = 2147483687 ∨ nuX xs 7 = 2147483688 ∨ nuX xs 7 = 2147483689 ∨ nuX xs 7 = 2147483690 ∨ nuX xs 7 = 2147483691 ∨ nuX xs 7 = 2147483692 ∨ nuX xs 7 = 2147483693 ∨ nuX xs 7 = 2147483694 ∨ nuX xs 7 = 2147483695 ∨ nuX xs 7 = 2147483696 ∨ nuX xs 7 = 2147483697 ∨ nuX xs 7 = 2147483698 ∨ nuX xs 7 = 2147483699 ∨ 2147483700 ≤ nuX xs 7 := by omega
    rcases hc with e | e | e | e | e | e | e | e | e | e | e | e | e | e | e | e | e | e | e | e | e | e | e | e | e | e | e | e | e | e | e | e | e | e | e | e | e | e | e | e | e | e | e | e | e | e | e | e | e | e | e | e | e
    · exact law_of hS (rm_C hS hL (by omega) (by omega) f9.1 f9.2) kc_0
    · exact law_of hS (rm_C hS hL (by omega) (by omega) f9.1 f9.2) kc_1
    · exact law_of hS (rm_C hS hL (by omega) (by omega) f9.1 f9.2) kc_2
    · exact law_of hS (rm_C hS hL (by omega) (by omega) f9.1 f9.2) kc_3
    · exact law_of hS (rm_C hS hL (by omega) (by omega) f9.1 f9.2) kc_4
    · exact law_of hS (rm_C hS hL (by omega) (by omega) f9.1 f9.2) kc_5
    · exact law_of hS (rm_C hS hL (by omega) (by omega) f9.1 f9.2) kc_6
    · exact law_of hS (rm_C hS hL (by omega) (by omega) f9.1 f9.2) kc_7
    · exact law_of hS (rm_C hS hL (by omega) (by omega) f9.1 f9.2) kc_8
    · exact law_of hS (rm_C hS hL (by omega) (by omega) f9.1 f9.2) kc_9
    · exact law_of hS (rm_C hS hL (by omega) (by omega) f9.1 f9.2) kc_10
    · exact law_of hS (rm_C hS hL (by omega) (by omega) f9.1 f9.2) kc_11
    · exact law_of hS (rm_C hS hL (by omega) (by omega) f9.1 f9.2) kc_12
    · exact law_of hS (rm_C hS hL (by omega) (by omega) f9.1 f9.2) kc_13
    · exact law_of hS (rm_C hS hL (by omega) (by omega) f9.1 f9.2) kc_14
    · exact law_of hS (rm_C hS hL (by omega) (by omega) f9.1 f9.2) kc_15
    · exact law_of hS (rm_C hS hL (by omega) (by omega) f9.1 f9.2) kc_16
    · exact law_of hS (rm_C hS hL (by omega) (by omega) f9.1 f9.2) kc_17
    · exact law_of hS (rm_C hS hL (by omega) (by omega) f9.1 f9.2) kc_18
    · exact law_of hS (rm_C hS hL (by omega) (by omega) f9.1 f9.2) kc_19
    · exact law_of hS (rm_C hS hL (by omega) (by omega) f9.1 f9.2) kc_20
    · exact law_of hS (rm_C hS hL (by omega) (by omega) f9.1 f9.2) kc_21
    · exact law_of hS (rm_C hS hL (by omega) (by omega) f9.1 f9.2) kc_22
    · exact law_of hS (rm_C hS hL (by omega) (by omega) f9.1 f9.2) kc_23
    · exact law_of hS (rm_C hS hL (by omega) (by omega) f9.1 f9.2) kc_24
    · exact law_of hS (rm_C hS hL (by omega) (by omega) f9.1 f9.2) kc_25
    · exact law_of hS (rm_C hS hL (by omega) (by omega) f9.1 f9.2) kc_26
    · exact law_of hS (rm_C hS hL (by omega) (by omega) f9.1 f9.2) kc_27
    · have hd : nuX xs 4 ≤ 2147483647 ∨ nuX xs 4 = 2147483648 ∨ nuX xs 4 = 2147483649 ∨ nuX xs 4 = 2147483650 ∨ nuX xs 4 = 2147483651 ∨ 2147483652 ≤ nuX xs 4 := by omega
      rcases hd with g | g | g | g | g | g
      · exact law_of hS (rm_C hS hL (by omega) (by omega) (by omega) (by omega)) kc_28_0
      · exact law_of hS (rm_C hS hL (by omega) (by omega) (by omega) (by omega)) kc_28_1
      · exact law_of hS (rm_C hS hL (by omega) (by omega) (by omega) (by omega)) kc_28_2
      · exact law_of hS (rm_C hS hL (by omega) (by omega) (by omega) (by omega)) kc_28_3
      · exact law_of hS (rm_C hS hL (by omega) (by omega) (by omega) (by omega)) kc_28_4
      · exact law_of hS (rm_C hS hL (by omega) (by omega) (by omega) (by omega)) kc_28_5
    · exact law_of hS (rm_C hS hL (by omega) (by omega) f9.1 f9.2) kc_29
    · exact law_of hS (rm_C hS hL (by omega) (by omega) f9.1 f9.2) kc_30
    · exact law_of hS (rm_C hS hL (by omega) (by omega) f9.1 f9.2) kc_31
    · exact law_of hS (rm_C hS hL (by omega) (by omega) f9.1 f9.2) kc_32
    · exact law_of hS (rm_C hS hL (by omega) (by omega) f9.1 f9.2) kc_33
    · exact law_of hS (rm_C hS hL (by omega) (by omega) f9.1 f9.2) kc_34
    · exact law_of hS (rm_C hS hL (by omega) (by omega) f9.1 f9.2) kc_35
    · exact law_of hS (rm_C hS hL (by omega) (by omega) f9.1 f9.2) kc_36
    · exact law_of hS (rm_C hS hL (by omega) (by omega) f9.1 f9.2) kc_37
    · exact law_of hS (rm_C hS hL (by omega) (by omega) f9.1 f9.2) kc_38
    · exact law_of hS (rm_C hS hL (by omega) (by omega) f9.1 f9.2) kc_39
    · exact law_of hS (rm_C hS hL (by omega) (by omega) f9.1 f9.2) kc_40
    · have hd : nuX xs 1 ≤ 2147483648 ∨ nuX xs 1 = 2147483649 ∨ nuX xs 1 = 2147483650 ∨ nuX xs 1 = 2147483651 ∨ 2147483652 ≤ nuX xs 1 := by omega
      rcases hd with g | g | g | g | g
      · exact law_of hS (rm_C hS hL (by omega) (by omega) (by omega) (by omega)) kc_41_0
      · exact law_of hS (rm_C hS hL (by omega) (by omega) (by omega) (by omega)) kc_41_1
      · exact law_of hS (rm_C hS hL (by omega) (by omega) (by omega) (by omega)) kc_41_2
      · exact law_of hS (rm_C hS hL (by omega) (by omega) (by omega) (by omega)) kc_41_3
      · exact law_of hS (rm_C hS hL (by omega) (by omega) (by omega) (by omega)) kc_41_4
    · have hd : nuX xs 1 ≤ 2147483648 ∨ nuX xs 1 = 2147483649 ∨ nuX xs 1 = 2147483650 ∨ nuX xs 1 = 2147483651 ∨ 2147483652 ≤ nuX xs 1 := by omega
      rcases hd with g | g | g | g | g
      · exact law_of hS (rm_C hS hL (by omega) (by omega) (by omega) (by omega)) kc_42_0
      · exact law_of hS (rm_C hS hL (by omega) (by omega) (by omega) (by omega)) kc_42_1
      · exact law_of hS (rm_C hS hL (by omega) (by omega) (by omega) (by omega)) kc_42_2
      · exact law_of hS (rm_C hS hL (by omega) (by omega) (by omega) (by omega)) kc_42_3
      · exact law_of hS (rm_C hS hL (by omega) (by omega) (by omega) (by omega)) kc_42_4
    · exact law_of hS (rm_C hS hL (by omega) (by omega) f9.1 f9.2) kc_43
    · exact law_of hS (rm_C hS hL (by omega) (by omega) f9.1 f9.2) kc_44
    · exact law_of hS (rm_C hS hL (by omega) (by omega) f9.1 f9.2) kc_45
    · exact law_of hS (rm_C hS hL (by omega) (by omega) f9.1 f9.2) kc_46
    · exact law_of hS (rm_C hS hL (by omega) (by omega) f9.1 f9.2) kc_47
    · exact law_of hS (rm_C hS hL (by omega) (by omega) f9.1 f9.2) kc_48
    · exact law_of hS (rm_C hS hL (by omega) (by omega) f9.1 f9.2) kc_49
    · exact law_of hS (rm_C hS hL (by omega) (by omega) f9.1 f9.2) kc_50
    · exact law_of hS (rm_C hS hL (by omega) (by omega) f9.1 f9.2) kc_51
    · exact law_of hS (rm_C hS hL (by omega) (by omega) f9.1 f9.2) kc_52
