/-! ===== the contracts hold ===== -/
set_option maxRecDepth 100000 in
theorem cv_0 : cn_ok cn_0 = true := by decide +kernel
set_option maxRecDepth 100000 in
theorem cv_1 : cn_ok cn_1 = true := by decide +kernel
set_option maxRecDepth 100000 in
theorem cv_2 : cn_ok cn_2 = true := by decide +kernel
set_option maxRecDepth 100000 in
theorem cv_3 : cn_ok cn_3 = true := by decide +kernel
set_option maxRecDepth 100000 in
theorem cv_4 : cn_ok cn_4 = true := by decide +kernel
set_option maxRecDepth 100000 in
theorem cv_5 : cn_ok cn_5 = true := by decide +kernel
set_option maxRecDepth 100000 in
theorem cv_6 : cn_ok cn_6 = true := by decide +kernel
set_option maxRecDepth 100000 in
theorem cv_7 : cn_ok cn_7 = true := by decide +kernel
set_option maxRecDepth 100000 in
theorem cv_8 : cn_ok cn_8 = true := by decide +kernel
set_option maxRecDepth 100000 in
theorem cv_9 : cn_ok cn_9 = true := by decide +kernel
set_option maxRecDepth 100000 in
theorem cv_10 : cn_ok cn_10 = true := by decide +kernel
set_option maxRecDepth 100000 in
theorem cv_11 : cn_ok cn_11 = true := by decide +kernel
set_option maxRecDepth 100000 in
theorem cv_12 : cn_ok cn_12 = true := by decide +kernel
set_option maxRecDepth 100000 in
theorem cv_13 : cn_ok cn_13 = true := by decide +kernel
set_option maxRecDepth 100000 in
theorem cv_14 : cn_ok cn_14 = true := by decide +kernel
set_option maxRecDepth 100000 in
theorem cv_15 : cn_ok cn_15 = true := by decide +kernel
set_option maxRecDepth 100000 in
theorem cv_16 : cn_ok cn_16 = true := by decide +kernel
set_option maxRecDepth 100000 in
theorem cv_17 : cn_ok cn_17 = true := by decide +kernel
set_option maxRecDepth 100000 in
theorem cv_18 : cn_ok cn_18 = true := by decide +kernel
set_option maxRecDepth 100000 in
theorem cv_19 : cn_ok cn_19 = true := by decide +kernel
set_option maxRecDepth 100000 in
theorem cv_20 : cn_ok cn_20 = true := by decide +kernel
set_option maxRecDepth 100000 in
theorem cv_21 : cn_ok cn_21 = true := by decide +kernel
set_option maxRecDepth 100000 in
theorem cv_22 : cn_ok cn_22 = true := by decide +kernel
set_option maxRecDepth 100000 in
theorem cv_23 : cn_ok cn_23 = true := by decide +kernel
set_option maxRecDepth 100000 in
theorem cv_24 : cn_ok cn_24 = true := by decide +kernel
set_option maxRecDepth 100000 in
theorem cv_25 : cn_ok cn_25 = true := by decide +kernel
set_option maxRecDepth 100000 in
theorem cv_26 : cn_ok cn_26 = true := by decide +kernel
set_option maxRecDepth 100000 in
theorem cv_27 : cn_ok cn_27 = true := by decide +kernel
set_option maxRecDepth 100000 in
theorem cv_28 : cn_ok cn_28 = true := by decide +kernel
set_option maxRecDepth 100000 in
theorem cv_29 : cn_ok cn_29 = true := by decide +kernel
set_option maxRecDepth 100000 in
theorem cv_30 : cn_ok cn_30 = true := by decide +kernel
set_option maxRecDepth 100000 in
theorem cv_31 : cn_ok cn_31 = true := by decide +kernel
set_option maxRecDepth 100000 in
theorem cv_32 : cn_ok cn_32 = true := by decide +kernel
set_option maxRecDepth 100000 in
theorem cv_33 : cn_ok cn_33 = true := by decide +kernel
set_option maxRecDepth 100000 in
theorem cv_34 : cn_ok cn_34 = true := by decide +kernel
set_option maxRecDepth 100000 in
theorem cv_35 : cn_ok cn_35 = true := by decide +kernel
set_option maxRecDepth 100000 in
theorem cv_36 : cn_ok cn_36 = true := by decide +kernel
set_option maxRecDepth 100000 in
theorem cv_37 : cn_ok cn_37 = true := by decide +kernel
set_option maxRecDepth 100000 in
theorem cv_38 : cn_ok cn_38 = true := by decide +kernel
set_option maxRecDepth 100000 in
theorem cv_39 : cn_ok cn_39 = true := by decide +kernel
set_option maxRecDepth 100000 in
theorem cv_40 : cn_ok cn_40 = true := by decide +kernel
set_option maxRecDepth 100000 in
theorem cv_41 : cn_ok cn_41 = true := by decide +kernel
set_option maxRecDepth 100000 in
theorem cv_42 : cn_ok cn_42 = true := by decide +kernel
set_option maxRecDepth 100000 in
theorem cv_43 : cn_ok cn_43 = true := by decide +kernel
set_option maxRecDepth 100000 in
theorem cv_44 : cn_ok cn_44 = true := by decide +kernel
set_option maxRecDepth 100000 in
theorem cv_45 : cn_ok cn_45 = true := by decide +kernel
set_option maxRecDepth 100000 in
theorem cv_46 : cn_ok cn_46 = true := by decide +kernel
set_option maxRecDepth 100000 in
theorem cv_47 : cn_ok cn_47 = true := by decide +kernel
set_option maxRecDepth 100000 in
theorem cv_48 : cn_ok cn_48 = true := by decide +kernel
set_option maxRecDepth 100000 in
theorem cv_49 : cn_ok cn_49 = true := by decide +kernel
set_option maxRecDepth 100000 in
theorem cv_50 : cn_ok cn_50 = true := by decide +kernel
set_option maxRecDepth 100000 in
theorem cv_51 : cn_ok cn_51 = true := by decide +kernel
set_option maxRecDepth 100000 in
theorem cv_52 : cn_ok cn_52 = true := by decide +kernel
set_option maxRecDepth 100000 in
theorem cv_53 : cn_ok cn_53 = true := by decide +kernel
set_option maxRecDepth 100000 in
theorem cv_54 : cn_ok cn_54 = true := by decide +kernel
set_option maxRecDepth 100000 in
theorem cv_55 : cn_ok cn_55 = true := by decide +kernel
set_option maxRecDepth 100000 in
theorem cv_56 : cn_ok cn_56 = true := by decide +kernel
set_option maxRecDepth 100000 in
theorem cv_57 : cn_ok cn_57 = true := by decide +kernel
set_option maxRecDepth 100000 in
theorem cv_58 : cn_ok cn_58 = true := by decide +kernel
set_option maxRecDepth 100000 in
theorem cv_59 : cn_ok cn_59 = true := by decide +kernel
set_option maxRecDepth 100000 in
theorem cv_60 : cn_ok cn_60 = true := by decide +kernel
set_option maxRecDepth 100000 in
theorem cv_61 : cn_ok cn_61 = true := by decide +kernel
set_option maxRecDepth 100000 in
theorem cv_62 : cn_ok cn_62 = true := by decide +kernel
set_option maxRecDepth 100000 in
theorem cv_63 : cn_ok cn_63 = true := by decide +kernel
set_option maxRecDepth 100000 in
theorem cv_64 : cn_ok cn_64 = true := by decide +kernel
set_option maxRecDepth 100000 in
theorem cv_65 : cn_ok cn_65 = true := by decide +kernel
set_option maxRecDepth 100000 in
theorem cv_66 : cn_ok cn_66 = true := by decide +kernel
set_option maxRecDepth 100000 in
theorem cv_67 : cn_ok cn_67 = true := by decide +kernel
set_option maxRecDepth 100000 in
theorem cv_68 : cn_ok cn_68 = true := by decide +kernel
set_option maxRecDepth 100000 in
theorem cv_69 : cn_ok cn_69 = true := by decide +kernel
set_option maxRecDepth 100000 in
theorem cv_70 : cn_ok cn_70 = true := by decide +kernel
set_option maxRecDepth 100000 in
theorem cv_71 : cn_ok cn_71 = true := by decide +kernel
set_option maxRecDepth 100000 in
theorem cv_72 : cn_ok cn_72 = true := by decide +kernel
set_option maxRecDepth 100000 in
theorem cv_73 : cn_ok cn_73 = true := by decide +kernel
set_option maxRecDepth 100000 in
theorem cv_74 : cn_ok cn_74 = true := by decide +kernel
set_option maxRecDepth 100000 in
theorem cv_75 : cn_ok cn_75 = true := by decide +kernel
set_option maxRecDepth 100000 in
theorem cv_76 : cn_ok cn_76 = true := by decide +kernel
set_option maxRecDepth 100000 in
theorem cv_77 : cn_ok cn_77 = true := by decide +kernel
set_option maxRecDepth 100000 in
theorem cv_78 : cn_ok cn_78 = true := by decide +kernel
set_option maxRecDepth 100000 in
theorem cv_79 : cn_ok cn_79 = true := by decide +kernel
set_option maxRecDepth 100000 in
theorem cv_80 : cn_ok cn_80 = true := by decide +kernel
set_option maxRecDepth 100000 in
theorem cv_81 : cn_ok cn_81 = true := by decide +kernel
set_option maxRecDepth 100000 in
theorem cv_82 : cn_ok cn_82 = true := by decide +kernel
set_option maxRecDepth 100000 in
theorem cv_83 : cn_ok cn_83 = true := by decide +kernel
set_option maxRecDepth 100000 in
theorem cv_84 : cn_ok cn_84 = true := by decide +kernel
set_option maxRecDepth 100000 in
theorem cv_85 : cn_ok cn_85 = true := by decide +kernel
set_option maxRecDepth 100000 in
theorem cv_86 : cn_ok cn_86 = true := by decide +kernel
set_option maxRecDepth 100000 in
theorem cv_87 : cn_ok cn_87 = true := by decide +kernel
set_option maxRecDepth 100000 in
theorem cv_88 : cn_ok cn_88 = true := by decide +kernel
set_option maxRecDepth 100000 in
theorem cv_89 : cn_ok cn_89 = true := by decide +kernel
set_option maxRecDepth 100000 in
theorem cv_90 : cn_ok cn_90 = true := by decide +kernel
set_option maxRecDepth 100000 in
theorem cv_91 : cn_ok cn_91 = true := by decide +kernel
set_option maxRecDepth 100000 in
theorem cv_92 : cn_ok cn_92 = true := by decide +kernel
set_option maxRecDepth 100000 in
theorem cv_93 : cn_ok cn_93 = true := by decide +kernel
set_option maxRecDepth 100000 in
theorem cv_94 : cn_ok cn_94 = true := by decide +kernel
set_option maxRecDepth 100000 in
theorem cv_95 : cn_ok cn_95 = true := by decide +kernel
set_option maxRecDepth 100000 in
theorem cv_96 : cn_ok cn_96 = true := by decide +kernel
set_option maxRecDepth 100000 in
theorem cv_97 : cn_ok cn_97 = true := by decide +kernel
set_option maxRecDepth 100000 in
theorem cv_98 : cn_ok cn_98 = true := by decide +kernel
set_option maxRecDepth 100000 in
theorem cv_99 : cn_ok cn_99 = true := by decide +kernel
set_option maxRecDepth 100000 in
theorem cv_100 : cn_ok cn_100 = true := by decide +kernel
set_option maxRecDepth 100000 in
theorem cv_101 : cn_ok cn_101 = true := by decide +kernel
set_option maxRecDepth 100000 in
theorem cv_102 : cn_ok cn_102 = true := by decide +kernel
set_option maxRecDepth 100000 in
theorem cv_103 : cn_ok cn_103 = true := by decide +kernel
set_option maxRecDepth 100000 in
theorem cv_104 : cn_ok cn_104 = true := by decide +kernel
set_option maxRecDepth 100000 in
theorem cv_105 : cn_ok cn_105 = true := by decide +kernel
set_option maxRecDepth 100000 in
theorem cv_106 : cn_ok cn_106 = true := by decide +kernel
set_option maxRecDepth 100000 in
theorem cv_107 : cn_ok cn_107 = true := by decide +kernel
set_option maxRecDepth 100000 in
theorem cv_108 : cn_ok cn_108 = true := by decide +kernel
set_option maxRecDepth 100000 in
theorem cv_109 : cn_ok cn_109 = true := by decide +kernel
set_option maxRecDepth 100000 in
theorem cv_110 : cn_ok cn_110 = true := by decide +kernel
set_option maxRecDepth 100000 in
theorem cv_111 : cn_ok cn_111 = true := by decide +kernel
set_option maxRecDepth 100000 in
theorem cv_112 : cn_ok cn_112 = true := by decide +kernel
