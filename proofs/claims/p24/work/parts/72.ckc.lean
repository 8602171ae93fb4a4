/-! ===== the contracts hold ===== -/
set_option maxRecDepth 100000 in
theorem kcn_0 : cn_ok cn_0 = true := by decide +kernel
set_option maxRecDepth 100000 in
theorem kcn_1 : cn_ok cn_1 = true := by decide +kernel
set_option maxRecDepth 100000 in
theorem kcn_2 : cn_ok cn_2 = true := by decide +kernel
set_option maxRecDepth 100000 in
theorem kcn_3 : cn_ok cn_3 = true := by decide +kernel
set_option maxRecDepth 100000 in
theorem kcn_4 : cn_ok cn_4 = true := by decide +kernel
set_option maxRecDepth 100000 in
theorem kcn_5 : cn_ok cn_5 = true := by decide +kernel
set_option maxRecDepth 100000 in
theorem kcn_6 : cn_ok cn_6 = true := by decide +kernel
set_option maxRecDepth 100000 in
theorem kcn_7 : cn_ok cn_7 = true := by decide +kernel
set_option maxRecDepth 100000 in
theorem kcn_8 : cn_ok cn_8 = true := by decide +kernel
set_option maxRecDepth 100000 in
theorem kcn_9 : cn_ok cn_9 = true := by decide +kernel
set_option maxRecDepth 100000 in
theorem kcn_10 : cn_ok cn_10 = true := by decide +kernel
set_option maxRecDepth 100000 in
theorem kcn_11 : cn_ok cn_11 = true := by decide +kernel
set_option maxRecDepth 100000 in
theorem kcn_12 : cn_ok cn_12 = true := by decide +kernel
set_option maxRecDepth 100000 in
theorem kcn_13 : cn_ok cn_13 = true := by decide +kernel
set_option maxRecDepth 100000 in
theorem kcn_14 : cn_ok cn_14 = true := by decide +kernel
set_option maxRecDepth 100000 in
theorem kcn_15 : cn_ok cn_15 = true := by decide +kernel
set_option maxRecDepth 100000 in
theorem kcn_16 : cn_ok cn_16 = true := by decide +kernel
set_option maxRecDepth 100000 in
theorem kcn_17 : cn_ok cn_17 = true := by decide +kernel
set_option maxRecDepth 100000 in
theorem kcn_18 : cn_ok cn_18 = true := by decide +kernel
set_option maxRecDepth 100000 in
theorem kcn_19 : cn_ok cn_19 = true := by decide +kernel
set_option maxRecDepth 100000 in
theorem kcn_20 : cn_ok cn_20 = true := by decide +kernel
set_option maxRecDepth 100000 in
theorem kcn_21 : cn_ok cn_21 = true := by decide +kernel
set_option maxRecDepth 100000 in
theorem kcn_22 : cn_ok cn_22 = true := by decide +kernel
set_option maxRecDepth 100000 in
theorem kcn_23 : cn_ok cn_23 = true := by decide +kernel
set_option maxRecDepth 100000 in
theorem kcn_24 : cn_ok cn_24 = true := by decide +kernel
set_option maxRecDepth 100000 in
theorem kcn_25 : cn_ok cn_25 = true := by decide +kernel
set_option maxRecDepth 100000 in
theorem kcn_26 : cn_ok cn_26 = true := by decide +kernel
set_option maxRecDepth 100000 in
theorem kcn_27 : cn_ok cn_27 = true := by decide +kernel
set_option maxRecDepth 100000 in
theorem kcn_28 : cn_ok cn_28 = true := by decide +kernel
set_option maxRecDepth 100000 in
theorem kcn_29 : cn_ok cn_29 = true := by decide +kernel
set_option maxRecDepth 100000 in
theorem kcn_30 : cn_ok cn_30 = true := by decide +kernel
set_option maxRecDepth 100000 in
theorem kcn_31 : cn_ok cn_31 = true := by decide +kernel
set_option maxRecDepth 100000 in
theorem kcn_32 : cn_ok cn_32 = true := by decide +kernel
set_option maxRecDepth 100000 in
theorem kcn_33 : cn_ok cn_33 = true := by decide +kernel
set_option maxRecDepth 100000 in
theorem kcn_34 : cn_ok cn_34 = true := by decide +kernel
set_option maxRecDepth 100000 in
theorem kcn_35 : cn_ok cn_35 = true := by decide +kernel
set_option maxRecDepth 100000 in
theorem kcn_36 : cn_ok cn_36 = true := by decide +kernel
set_option maxRecDepth 100000 in
theorem kcn_37 : cn_ok cn_37 = true := by decide +kernel
set_option maxRecDepth 100000 in
theorem kcn_38 : cn_ok cn_38 = true := by decide +kernel
set_option maxRecDepth 100000 in
theorem kcn_39 : cn_ok cn_39 = true := by decide +kernel
set_option maxRecDepth 100000 in
theorem kcn_40 : cn_ok cn_40 = true := by decide +kernel
set_option maxRecDepth 100000 in
theorem kcn_41 : cn_ok cn_41 = true := by decide +kernel
set_option maxRecDepth 100000 in
theorem kcn_42 : cn_ok cn_42 = true := by decide +kernel
set_option maxRecDepth 100000 in
theorem kcn_43 : cn_ok cn_43 = true := by decide +kernel
set_option maxRecDepth 100000 in
theorem kcn_44 : cn_ok cn_44 = true := by decide +kernel
set_option maxRecDepth 100000 in
theorem kcn_45 : cn_ok cn_45 = true := by decide +kernel
set_option maxRecDepth 100000 in
theorem kcn_46 : cn_ok cn_46 = true := by decide +kernel
set_option maxRecDepth 100000 in
theorem kcn_47 : cn_ok cn_47 = true := by decide +kernel
set_option maxRecDepth 100000 in
theorem kcn_48 : cn_ok cn_48 = true := by decide +kernel
set_option maxRecDepth 100000 in
theorem kcn_49 : cn_ok cn_49 = true := by decide +kernel
set_option maxRecDepth 100000 in
theorem kcn_50 : cn_ok cn_50 = true := by decide +kernel
set_option maxRecDepth 100000 in
theorem kcn_51 : cn_ok cn_51 = true := by decide +kernel
set_option maxRecDepth 100000 in
theorem kcn_52 : cn_ok cn_52 = true := by decide +kernel
set_option maxRecDepth 100000 in
theorem kcn_53 : cn_ok cn_53 = true := by decide +kernel
set_option maxRecDepth 100000 in
theorem kcn_54 : cn_ok cn_54 = true := by decide +kernel
set_option maxRecDepth 100000 in
theorem kcn_55 : cn_ok cn_55 = true := by decide +kernel
set_option maxRecDepth 100000 in
theorem kcn_56 : cn_ok cn_56 = true := by decide +kernel
set_option maxRecDepth 100000 in
theorem kcn_57 : cn_ok cn_57 = true := by decide +kernel
set_option maxRecDepth 100000 in
theorem kcn_58 : cn_ok cn_58 = true := by decide +kernel
set_option maxRecDepth 100000 in
theorem kcn_59 : cn_ok cn_59 = true := by decide +kernel
set_option maxRecDepth 100000 in
theorem kcn_60 : cn_ok cn_60 = true := by decide +kernel
set_option maxRecDepth 100000 in
theorem kcn_61 : cn_ok cn_61 = true := by decide +kernel
set_option maxRecDepth 100000 in
theorem kcn_62 : cn_ok cn_62 = true := by decide +kernel
set_option maxRecDepth 100000 in
theorem kcn_63 : cn_ok cn_63 = true := by decide +kernel
set_option maxRecDepth 100000 in
theorem kcn_64 : cn_ok cn_64 = true := by decide +kernel
set_option maxRecDepth 100000 in
theorem kcn_65 : cn_ok cn_65 = true := by decide +kernel
set_option maxRecDepth 100000 in
theorem kcn_66 : cn_ok cn_66 = true := by decide +kernel
set_option maxRecDepth 100000 in
theorem kcn_67 : cn_ok cn_67 = true := by decide +kernel
set_option maxRecDepth 100000 in
theorem kcn_68 : cn_ok cn_68 = true := by decide +kernel
set_option maxRecDepth 100000 in
theorem kcn_69 : cn_ok cn_69 = true := by decide +kernel
set_option maxRecDepth 100000 in
theorem kcn_70 : cn_ok cn_70 = true := by decide +kernel
set_option maxRecDepth 100000 in
theorem kcn_71 : cn_ok cn_71 = true := by decide +kernel
set_option maxRecDepth 100000 in
theorem kcn_72 : cn_ok cn_72 = true := by decide +kernel
set_option maxRecDepth 100000 in
theorem kcn_73 : cn_ok cn_73 = true := by decide +kernel
set_option maxRecDepth 100000 in
theorem kcn_74 : cn_ok cn_74 = true := by decide +kernel
set_option maxRecDepth 100000 in
theorem kcn_75 : cn_ok cn_75 = true := by decide +kernel
set_option maxRecDepth 100000 in
theorem kcn_76 : cn_ok cn_76 = true := by decide +kernel
set_option maxRecDepth 100000 in
theorem kcn_77 : cn_ok cn_77 = true := by decide +kernel
set_option maxRecDepth 100000 in
theorem kcn_78 : cn_ok cn_78 = true := by decide +kernel
set_option maxRecDepth 100000 in
theorem kcn_79 : cn_ok cn_79 = true := by decide +kernel
set_option maxRecDepth 100000 in
theorem kcn_80 : cn_ok cn_80 = true := by decide +kernel
set_option maxRecDepth 100000 in
theorem kcn_81 : cn_ok cn_81 = true := by decide +kernel
set_option maxRecDepth 100000 in
theorem kcn_82 : cn_ok cn_82 = true := by decide +kernel
set_option maxRecDepth 100000 in
theorem kcn_83 : cn_ok cn_83 = true := by decide +kernel
set_option maxRecDepth 100000 in
theorem kcn_84 : cn_ok cn_84 = true := by decide +kernel
set_option maxRecDepth 100000 in
theorem kcn_85 : cn_ok cn_85 = true := by decide +kernel
set_option maxRecDepth 100000 in
theorem kcn_86 : cn_ok cn_86 = true := by decide +kernel
set_option maxRecDepth 100000 in
theorem kcn_87 : cn_ok cn_87 = true := by decide +kernel
set_option maxRecDepth 100000 in
theorem kcn_88 : cn_ok cn_88 = true := by decide +kernel
set_option maxRecDepth 100000 in
theorem kcn_89 : cn_ok cn_89 = true := by decide +kernel
set_option maxRecDepth 100000 in
theorem kcn_90 : cn_ok cn_90 = true := by decide +kernel
set_option maxRecDepth 100000 in
theorem kcn_91 : cn_ok cn_91 = true := by decide +kernel
set_option maxRecDepth 100000 in
theorem kcn_92 : cn_ok cn_92 = true := by decide +kernel
set_option maxRecDepth 100000 in
theorem kcn_93 : cn_ok cn_93 = true := by decide +kernel
set_option maxRecDepth 100000 in
theorem kcn_94 : cn_ok cn_94 = true := by decide +kernel
set_option maxRecDepth 100000 in
theorem kcn_95 : cn_ok cn_95 = true := by decide +kernel
set_option maxRecDepth 100000 in
theorem kcn_96 : cn_ok cn_96 = true := by decide +kernel
set_option maxRecDepth 100000 in
theorem kcn_97 : cn_ok cn_97 = true := by decide +kernel
set_option maxRecDepth 100000 in
theorem kcn_98 : cn_ok cn_98 = true := by decide +kernel
set_option maxRecDepth 100000 in
theorem kcn_99 : cn_ok cn_99 = true := by decide +kernel
set_option maxRecDepth 100000 in
theorem kcn_100 : cn_ok cn_100 = true := by decide +kernel
set_option maxRecDepth 100000 in
theorem kcn_101 : cn_ok cn_101 = true := by decide +kernel
set_option maxRecDepth 100000 in
theorem kcn_102 : cn_ok cn_102 = true := by decide +kernel
set_option maxRecDepth 100000 in
theorem kcn_103 : cn_ok cn_103 = true := by decide +kernel
set_option maxRecDepth 100000 in
theorem kcn_104 : cn_ok cn_104 = true := by decide +kernel
set_option maxRecDepth 100000 in
theorem kcn_105 : cn_ok cn_105 = true := by decide +kernel
set_option maxRecDepth 100000 in
theorem kcn_106 : cn_ok cn_106 = true := by decide +kernel
set_option maxRecDepth 100000 in
theorem kcn_107 : cn_ok cn_107 = true := by decide +kernel
set_option maxRecDepth 100000 in
theorem kcn_108 : cn_ok cn_108 = true := by decide +kernel
set_option maxRecDepth 100000 in
theorem kcn_109 : cn_ok cn_109 = true := by decide +kernel
set_option maxRecDepth 100000 in
theorem kcn_110 : cn_ok cn_110 = true := by decide +kernel
set_option maxRecDepth 100000 in
theorem kcn_111 : cn_ok cn_111 = true := by decide +kernel
set_option maxRecDepth 100000 in
theorem kcn_112 : cn_ok cn_112 = true := by decide +kernel
set_option maxRecDepth 100000 in
theorem kcn_113 : cn_ok cn_113 = true := by decide +kernel
set_option maxRecDepth 100000 in
theorem kcn_114 : cn_ok cn_114 = true := by decide +kernel
set_option maxRecDepth 100000 in
theorem kcn_115 : cn_ok cn_115 = true := by decide +kernel
set_option maxRecDepth 100000 in
theorem kcn_116 : cn_ok cn_116 = true := by decide +kernel
set_option maxRecDepth 100000 in
theorem kcn_117 : cn_ok cn_117 = true := by decide +kernel
set_option maxRecDepth 100000 in
theorem kcn_118 : cn_ok cn_118 = true := by decide +kernel
set_option maxRecDepth 100000 in
theorem kcn_119 : cn_ok cn_119 = true := by decide +kernel
theorem cn_tab : ∀ l, l ∈ cntt → ∀ k, k ∈ l → ∀ C, C ∈ k → cn_ok C = true := by
  unfold cntt
  simp only [List.forall_mem_cons, List.not_mem_nil, false_implies, implies_true, and_true, true_and, kcn_0, kcn_1, kcn_2, kcn_3, kcn_4, kcn_5, kcn_6, kcn_7, kcn_8, kcn_9, kcn_10, kcn_11, kcn_12, kcn_13, kcn_14, kcn_15, kcn_16, kcn_17, kcn_18, kcn_19, kcn_20, kcn_21, kcn_22, kcn_23, kcn_24, kcn_25, kcn_26, kcn_27, kcn_28, kcn_29, kcn_30, kcn_31, kcn_32, kcn_33, kcn_34, kcn_35, kcn_36, kcn_37, kcn_38, kcn_39, kcn_40, kcn_41, kcn_42, kcn_43, kcn_44, kcn_45, kcn_46, kcn_47, kcn_48, kcn_49, kcn_50, kcn_51, kcn_52, kcn_53, kcn_54, kcn_55, kcn_56, kcn_57, kcn_58, kcn_59, kcn_60, kcn_61, kcn_62, kcn_63, kcn_64, kcn_65, kcn_66, kcn_67, kcn_68, kcn_69, kcn_70, kcn_71, kcn_72, kcn_73, kcn_74, kcn_75, kcn_76, kcn_77, kcn_78, kcn_79, kcn_80, kcn_81, kcn_82, kcn_83, kcn_84, kcn_85, kcn_86, kcn_87, kcn_88, kcn_89, kcn_90, kcn_91, kcn_92, kcn_93, kcn_94, kcn_95, kcn_96, kcn_97, kcn_98, kcn_99, kcn_100, kcn_101, kcn_102, kcn_103, kcn_104, kcn_105, kcn_106, kcn_107, kcn_108, kcn_109, kcn_110, kcn_111, kcn_112, kcn_113, kcn_114, kcn_115, kcn_116, kcn_117, kcn_118, kcn_119]
