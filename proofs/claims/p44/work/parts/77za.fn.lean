section
/-! ===== FIND: both sides by hand ===== -/
theorem code_108 : codeOf 108 = [(0, (1, 0, 2)), (1, (1, 1, 0)), (2, (12, 50, 0)), (5, (2, 4, 2)), (7, (1, 4, 2)), (9, (20, 0, 29)), (12, (1, 2, 0)), (13, (12, 43, 0)), (16, (6, 0, 29)), (19, (1, 3, 0)), (20, (0, 0, 0)), (21, (0, 0, 23)), (23, (12, 10, 0)), (26, (6, 1, 32)), (29, (0, 0, -2)), (31, (13, 1, 0)), (32, (0, 0, -1)), (33, (2, 5, 0)), (35, (0, 0, 1000000)), (38, (2, 6, 0)), (40, (0, 0, 0)), (41, (2, 7, 0)), (43, (1, 7, 0)), (45, (1, 0, 2)), (46, (8, 6, 0)), (49, (12, 13, 0)), (52, (5, 3, 123)), (55, (1, 0, 2)), (56, (8, 6, 0)), (59, (1, 7, 0)), (61, (12, 17, 0)), (64, (28, 4, 0)), (67, (2, 8, 2)), (69, (1, 8, 2)), (71, (1, 4, 2)), (73, (8, 21, 0)), (76, (8, 15, 0)), (79, (1, 4, 2)), (81, (8, 21, 0)), (84, (8, 16, 0)), (87, (12, 78, 0)), (90, (2, 9, 0)), (92, (1, 8, 2)), (94, (1, 2, 0)), (95, (1, 3, 0)), (96, (12, 79, 0)), (99, (6, 0, 117)), (102, (1, 9, 0)), (104, (1, 6, 0)), (106, (5, 3, 117)), (109, (1, 9, 0)), (111, (2, 6, 0)), (113, (1, 7, 0)), (115, (2, 5, 0)), (117, (3, 7, 1)), (120, (7, 0, 43)), (123, (1, 5, 0)), (125, (13, 1, 0))] := by decide +kernel
theorem head_108 : codeOf 108 = [(0, (1, 0, 2)), (1, (1, 1, 0)), (2, (12, 50, 0)), (5, (2, 4, 2)), (7, (1, 4, 2)), (9, (20, 0, 29)), (12, (1, 2, 0)), (13, (12, 43, 0)), (16, (6, 0, 29)), (19, (1, 3, 0)), (20, (0, 0, 0)), (21, (0, 0, 23)), (23, (12, 10, 0)), (26, (6, 1, 32))] ++ jump 108 29 := by rw [jump_jmp, code_108]; rfl
theorem j108_29 : jump 108 29 = [(29, (0, 0, -2)), (31, (13, 1, 0))] ++ jump 108 32 := by rw [jump_jmp, jump_jmp, code_108]; rfl
theorem j108_32 : jump 108 32 = [(32, (0, 0, -1)), (33, (2, 5, 0)), (35, (0, 0, 1000000)), (38, (2, 6, 0)), (40, (0, 0, 0)), (41, (2, 7, 0))] ++ jump 108 43 := by rw [jump_jmp, jump_jmp, code_108]; rfl
theorem j108_43 : jump 108 43 = [(43, (1, 7, 0)), (45, (1, 0, 2)), (46, (8, 6, 0)), (49, (12, 13, 0)), (52, (5, 3, 123)), (55, (1, 0, 2)), (56, (8, 6, 0)), (59, (1, 7, 0)), (61, (12, 17, 0)), (64, (28, 4, 0)), (67, (2, 8, 2)), (69, (1, 8, 2)), (71, (1, 4, 2)), (73, (8, 21, 0)), (76, (8, 15, 0)), (79, (1, 4, 2)), (81, (8, 21, 0)), (84, (8, 16, 0)), (87, (12, 78, 0)), (90, (2, 9, 0)), (92, (1, 8, 2)), (94, (1, 2, 0)), (95, (1, 3, 0)), (96, (12, 79, 0)), (99, (6, 0, 117)), (102, (1, 9, 0)), (104, (1, 6, 0)), (106, (5, 3, 117)), (109, (1, 9, 0)), (111, (2, 6, 0)), (113, (1, 7, 0)), (115, (2, 5, 0))] ++ jump 108 117 := by rw [jump_jmp, jump_jmp, code_108]; rfl
theorem j108_117 : jump 108 117 = [(117, (3, 7, 1)), (120, (7, 0, 43))] ++ jump 108 123 := by rw [jump_jmp, jump_jmp, code_108]; rfl
theorem j108_123 : jump 108 123 = [(123, (1, 5, 0)), (125, (13, 1, 0))] := by rw [jump_jmp, code_108]; rfl
theorem code_109 : codeOf 109 = [(0, (1, 0, 2)), (1, (8, 79, 0)), (4, (1, 0, 2)), (5, (8, 80, 0)), (8, (1, 1, 0)), (9, (1, 2, 0)), (10, (12, 80, 0)), (13, (13, 1, 0))] := by decide +kernel
theorem code_110 : codeOf 110 = [(0, (1, 0, 0)), (1, (1, 2, 0)), (2, (4, 1, 0)), (3, (32, 2, 0)), (6, (1, 1, 0)), (7, (1, 3, 0)), (8, (4, 1, 0)), (9, (32, 2, 0)), (12, (4, 0, 0)), (13, (13, 1, 0))] := by decide +kernel
theorem code_111 : codeOf 111 = [(0, (1, 0, 2)), (1, (8, 81, 0)), (4, (1, 1, 0)), (5, (4, 9, 0)), (6, (0, 0, 1)), (7, (4, 5, 0)), (8, (0, 0, 1)), (9, (5, 1, 32)), (12, (1, 0, 2)), (13, (8, 82, 0)), (16, (1, 2, 0)), (17, (5, 4, 32)), (20, (1, 2, 0)), (21, (1, 0, 2)), (22, (8, 83, 0)), (25, (5, 4, 32)), (28, (0, 0, 1)), (29, (7, 0, 33)), (32, (0, 0, 0)), (33, (13, 4, 0))] := by decide +kernel
theorem head_111 : codeOf 111 = [(0, (1, 0, 2)), (1, (8, 81, 0)), (4, (1, 1, 0)), (5, (4, 9, 0)), (6, (0, 0, 1)), (7, (4, 5, 0)), (8, (0, 0, 1)), (9, (5, 1, 32)), (12, (1, 0, 2)), (13, (8, 82, 0)), (16, (1, 2, 0)), (17, (5, 4, 32)), (20, (1, 2, 0)), (21, (1, 0, 2)), (22, (8, 83, 0)), (25, (5, 4, 32)), (28, (0, 0, 1)), (29, (7, 0, 33))] ++ jump 111 32 := by rw [jump_jmp, code_111]; rfl
theorem j111_32 : jump 111 32 = [(32, (0, 0, 0))] ++ jump 111 33 := by rw [jump_jmp, jump_jmp, code_111]; rfl
theorem j111_33 : jump 111 33 = [(33, (13, 4, 0))] := by rw [jump_jmp, code_111]; rfl
theorem code_54 : codeOf 54 = [(0, (1, 0, 0)), (1, (0, 0, 0)), (2, (0, 0, 5)), (3, (12, 10, 0)), (6, (13, 4, 0))] := by decide +kernel
theorem code_236 : codeOf 236 = [(0, (1, 0, 2)), (1, (1, 1, 0)), (2, (12, 148, 0)), (5, (6, 0, 27)), (8, (1, 2, 0)), (9, (0, 0, 0)), (10, (0, 0, 5)), (11, (12, 125, 0)), (14, (6, 0, 27)), (17, (1, 3, 0)), (18, (0, 0, 0)), (19, (0, 0, 23)), (21, (12, 125, 0)), (24, (6, 1, 30)), (27, (0, 0, -2)), (29, (13, 1, 0)), (30, (1, 0, 2)), (31, (8, 106, 0)), (34, (1, 1, 0)), (35, (10, 0, 0)), (36, (2, 4, 0)), (38, (0, 0, -1)), (39, (2, 5, 0)), (41, (0, 0, 0)), (42, (2, 6, 0)), (44, (1, 6, 0)), (46, (1, 0, 2)), (47, (8, 139, 0)), (50, (5, 3, 108)), (53, (1, 0, 2)), (54, (1, 6, 0)), (56, (1, 2, 0)), (57, (1, 3, 0)), (58, (12, 167, 0)), (61, (2, 7, 0)), (63, (1, 7, 0)), (65, (6, 0, 98)), (68, (1, 5, 0)), (70, (0, 0, -1)), (71, (5, 0, 93)), (74, (1, 0, 2)), (75, (1, 4, 0)), (77, (1, 6, 0)), (79, (12, 168, 0)), (82, (1, 0, 2)), (83, (1, 4, 0)), (85, (1, 5, 0)), (87, (12, 168, 0)), (90, (5, 3, 98)), (93, (1, 6, 0)), (95, (7, 0, 100)), (98, (1, 5, 0)), (100, (2, 5, 0)), (102, (3, 6, 1)), (105, (7, 0, 44)), (108, (1, 5, 0)), (110, (13, 1, 0))] := by decide +kernel
theorem head_236 : codeOf 236 = [(0, (1, 0, 2)), (1, (1, 1, 0)), (2, (12, 148, 0)), (5, (6, 0, 27)), (8, (1, 2, 0)), (9, (0, 0, 0)), (10, (0, 0, 5)), (11, (12, 125, 0)), (14, (6, 0, 27)), (17, (1, 3, 0)), (18, (0, 0, 0)), (19, (0, 0, 23)), (21, (12, 125, 0)), (24, (6, 1, 30))] ++ jump 236 27 := by rw [jump_jmp, code_236]; rfl
theorem j236_27 : jump 236 27 = [(27, (0, 0, -2)), (29, (13, 1, 0))] ++ jump 236 30 := by rw [jump_jmp, jump_jmp, code_236]; rfl
theorem j236_30 : jump 236 30 = [(30, (1, 0, 2)), (31, (8, 106, 0)), (34, (1, 1, 0)), (35, (10, 0, 0)), (36, (2, 4, 0)), (38, (0, 0, -1)), (39, (2, 5, 0)), (41, (0, 0, 0)), (42, (2, 6, 0))] ++ jump 236 44 := by rw [jump_jmp, jump_jmp, code_236]; rfl
theorem j236_44 : jump 236 44 = [(44, (1, 6, 0)), (46, (1, 0, 2)), (47, (8, 139, 0)), (50, (5, 3, 108)), (53, (1, 0, 2)), (54, (1, 6, 0)), (56, (1, 2, 0)), (57, (1, 3, 0)), (58, (12, 167, 0)), (61, (2, 7, 0)), (63, (1, 7, 0)), (65, (6, 0, 98)), (68, (1, 5, 0)), (70, (0, 0, -1)), (71, (5, 0, 93)), (74, (1, 0, 2)), (75, (1, 4, 0)), (77, (1, 6, 0)), (79, (12, 168, 0)), (82, (1, 0, 2)), (83, (1, 4, 0)), (85, (1, 5, 0)), (87, (12, 168, 0)), (90, (5, 3, 98))] ++ jump 236 93 := by rw [jump_jmp, jump_jmp, code_236]; rfl
theorem j236_93 : jump 236 93 = [(93, (1, 6, 0)), (95, (7, 0, 100))] ++ jump 236 98 := by rw [jump_jmp, jump_jmp, code_236]; rfl
theorem j236_98 : jump 236 98 = [(98, (1, 5, 0))] ++ jump 236 100 := by rw [jump_jmp, jump_jmp, code_236]; rfl
theorem j236_100 : jump 236 100 = [(100, (2, 5, 0)), (102, (3, 6, 1)), (105, (7, 0, 44))] ++ jump 236 108 := by rw [jump_jmp, jump_jmp, code_236]; rfl
theorem j236_108 : jump 236 108 = [(108, (1, 5, 0)), (110, (13, 1, 0))] := by rw [jump_jmp, code_236]; rfl
theorem code_237 : codeOf 237 = [(0, (1, 0, 2)), (1, (8, 94, 0)), (4, (1, 1, 0)), (5, (10, 0, 0)), (6, (1, 2, 0)), (7, (4, 9, 0)), (8, (0, 0, 1)), (9, (4, 5, 0)), (10, (0, 0, 1)), (11, (5, 1, 37)), (14, (1, 3, 0)), (15, (1, 0, 2)), (16, (8, 95, 0)), (19, (1, 1, 0)), (20, (10, 0, 0)), (21, (1, 0, 2)), (22, (8, 96, 0)), (25, (1, 1, 0)), (26, (10, 0, 0)), (27, (12, 125, 0)), (30, (6, 0, 37)), (33, (0, 0, 1)), (34, (7, 0, 38)), (37, (0, 0, 0)), (38, (13, 4, 0))] := by decide +kernel
theorem head_237 : codeOf 237 = [(0, (1, 0, 2)), (1, (8, 94, 0)), (4, (1, 1, 0)), (5, (10, 0, 0)), (6, (1, 2, 0)), (7, (4, 9, 0)), (8, (0, 0, 1)), (9, (4, 5, 0)), (10, (0, 0, 1)), (11, (5, 1, 37)), (14, (1, 3, 0)), (15, (1, 0, 2)), (16, (8, 95, 0)), (19, (1, 1, 0)), (20, (10, 0, 0)), (21, (1, 0, 2)), (22, (8, 96, 0)), (25, (1, 1, 0)), (26, (10, 0, 0)), (27, (12, 125, 0)), (30, (6, 0, 37)), (33, (0, 0, 1)), (34, (7, 0, 38))] ++ jump 237 37 := by rw [jump_jmp, code_237]; rfl
theorem j237_37 : jump 237 37 = [(37, (0, 0, 0))] ++ jump 237 38 := by rw [jump_jmp, jump_jmp, code_237]; rfl
theorem j237_38 : jump 237 38 = [(38, (13, 4, 0))] := by rw [jump_jmp, code_237]; rfl
theorem code_238 : codeOf 238 = [(0, (1, 0, 2)), (1, (8, 86, 0)), (4, (1, 1, 0)), (5, (10, 0, 0)), (6, (1, 0, 2)), (7, (8, 87, 0)), (10, (1, 1, 0)), (11, (10, 0, 0)), (12, (1, 0, 2)), (13, (8, 92, 0)), (16, (1, 2, 0)), (17, (10, 0, 0)), (18, (1, 0, 2)), (19, (8, 93, 0)), (22, (1, 2, 0)), (23, (10, 0, 0)), (24, (12, 169, 0)), (27, (13, 1, 0))] := by decide +kernel
theorem code_239 : codeOf 239 = [(0, (1, 0, 0)), (1, (1, 2, 0)), (2, (5, 3, 11)), (5, (1, 2, 0)), (6, (1, 0, 0)), (7, (4, 1, 0)), (8, (7, 0, 14)), (11, (1, 0, 0)), (12, (1, 2, 0)), (13, (4, 1, 0)), (14, (2, 4, 0)), (16, (1, 1, 0)), (17, (1, 3, 0)), (18, (5, 3, 27)), (21, (1, 3, 0)), (22, (1, 1, 0)), (23, (4, 1, 0)), (24, (7, 0, 30)), (27, (1, 1, 0)), (28, (1, 3, 0)), (29, (4, 1, 0)), (30, (2, 5, 0)), (32, (1, 4, 0)), (34, (1, 5, 0)), (36, (4, 0, 0)), (37, (13, 1, 0))] := by decide +kernel
theorem head_239 : codeOf 239 = [(0, (1, 0, 0)), (1, (1, 2, 0)), (2, (5, 3, 11)), (5, (1, 2, 0)), (6, (1, 0, 0)), (7, (4, 1, 0)), (8, (7, 0, 14))] ++ jump 239 11 := by rw [jump_jmp, code_239]; rfl
theorem j239_11 : jump 239 11 = [(11, (1, 0, 0)), (12, (1, 2, 0)), (13, (4, 1, 0))] ++ jump 239 14 := by rw [jump_jmp, jump_jmp, code_239]; rfl
theorem j239_14 : jump 239 14 = [(14, (2, 4, 0)), (16, (1, 1, 0)), (17, (1, 3, 0)), (18, (5, 3, 27)), (21, (1, 3, 0)), (22, (1, 1, 0)), (23, (4, 1, 0)), (24, (7, 0, 30))] ++ jump 239 27 := by rw [jump_jmp, jump_jmp, code_239]; rfl
theorem j239_27 : jump 239 27 = [(27, (1, 1, 0)), (28, (1, 3, 0)), (29, (4, 1, 0))] ++ jump 239 30 := by rw [jump_jmp, jump_jmp, code_239]; rfl
theorem j239_30 : jump 239 30 = [(30, (2, 5, 0)), (32, (1, 4, 0)), (34, (1, 5, 0)), (36, (4, 0, 0)), (37, (13, 1, 0))] := by rw [jump_jmp, code_239]; rfl
theorem fi_spa : spec 43 = (0, 1, [(0, 54)]) ∧ (spec 78 = (1, 2, [(4, 109)]) ∧ spec 79 = (1, 2, [(4, 111)])) := by decide +kernel
theorem fi_spb : (spec 80 = (0, 4, [(0, 110)]) ∧ spec 167 = (1, 3, [(11, 237)])) ∧ (spec 168 = (1, 2, [(11, 238)]) ∧ spec 169 = (0, 4, [(0, 239)])) := by decide +kernel
theorem fi_sp : (spec 43 = (0, 1, [(0, 54)]) ∧ (spec 78 = (1, 2, [(4, 109)]) ∧ spec 79 = (1, 2, [(4, 111)]))) ∧ ((spec 80 = (0, 4, [(0, 110)]) ∧ spec 167 = (1, 3, [(11, 237)])) ∧ (spec 168 = (1, 2, [(11, 238)]) ∧ spec 169 = (0, 4, [(0, 239)]))) := ⟨fi_spa, fi_spb⟩
theorem fi_ml : ((1 ≤ mL 54 ∧ 3 ≤ mL 109) ∧ (3 ≤ mL 111 ∧ 4 ≤ mL 110)) ∧ ((4 ≤ mL 237 ∧ 3 ≤ mL 238) ∧ 4 ≤ mL 239) := by decide +kernel
theorem fi_f : ((((fks 21).contains 5 = true ∧ fpos 21 = 2) ∧ ((fks 15).contains 2 = true ∧ fpos 15 = 3)) ∧ (((fks 16).contains 2 = true ∧ fpos 16 = 4) ∧ ((fks 79).contains 4 = true ∧ fpos 79 = 0))) ∧ ((((fks 80).contains 4 = true ∧ fpos 80 = 1) ∧ ((fks 81).contains 4 = true ∧ fpos 81 = 2)) ∧ (((fks 82).contains 4 = true ∧ fpos 82 = 3) ∧ ((fks 83).contains 4 = true ∧ fpos 83 = 4))) := by decide +kernel
theorem fi_g : ((((fks 106).contains 11 = true ∧ fpos 106 = 35) ∧ ((fks 94).contains 11 = true ∧ fpos 94 = 14)) ∧ (((fks 95).contains 11 = true ∧ fpos 95 = 15) ∧ ((fks 96).contains 11 = true ∧ fpos 96 = 16))) ∧ ((((fks 86).contains 11 = true ∧ fpos 86 = 4) ∧ ((fks 87).contains 11 = true ∧ fpos 87 = 5)) ∧ (((fks 92).contains 11 = true ∧ fpos 92 = 12) ∧ ((fks 93).contains 11 = true ∧ fpos 93 = 13))) := by decide +kernel
theorem fi_c : (((ct_at 11 35 = some (7, 69, 0) ∧ cdk 69 = 20) ∧ (ct_at 11 14 = some (7, 57, 0) ∧ cdk 57 = 20)) ∧ ((ct_at 11 15 = some (7, 58, 0) ∧ cdk 58 = 20) ∧ (ct_at 11 16 = some (7, 59, 0) ∧ cdk 59 = 20))) ∧ (((ct_at 11 4 = some (7, 49, 0) ∧ cdk 49 = 20) ∧ (ct_at 11 5 = some (7, 50, 0) ∧ cdk 50 = 20)) ∧ (((ct_at 11 12 = some (7, 55, 0) ∧ cdk 55 = 20) ∧ (ct_at 11 13 = some (7, 56, 0) ∧ cdk 56 = 20)) ∧ (cdm 2 = 0 ∧ (cdk 2 = 2 ∧ 5 ≤ (cd 2).2.2.length)))) := by decide +kernel
theorem fi_t : tgc (5, 0, 2147483650) = 2 := by decide +kernel
theorem cpf_3' : ((cp_at ffT3).1 = 6 ∧ (cp_at ffT3).2.1 = [(5, 0, 2147483650), (69, 1, 2147483648)]) ∧ ((cp_at ffT3).2.2.1 = [[(100, 2147483648, 2147483671), (0, 2147483648, 2147483671)]] ∧ ffT3 < npL) := by decide +kernel
theorem cpf_k1 : ((cp_at ffK1).1 = 3 ∧ (cp_at ffK1).2.1 = [(2, 0, 2147483651), (49, 1, 2147483648)]) ∧ ((cp_at ffK1).2.2.1 = [[(0, 2147483648, 2147483747), (0, 2147483648, 2147483747)]] ∧ ffK1 < npL) := by decide +kernel
theorem cpf_k2 : ((cp_at ffK2).1 = 3 ∧ (cp_at ffK2).2.1 = [(2, 0, 2147483652), (50, 1, 2147483648)]) ∧ ((cp_at ffK2).2.2.1 = [[(0, 2147483648, 2147483747), (0, 2147483648, 2147483747)]] ∧ ffK2 < npL) := by decide +kernel
theorem cpf_p1 : ((cp_at ffP1).1 = 5 ∧ (cp_at ffP1).2.1 = [(4, 0, 2147483648), (55, 1, 2147483648)]) ∧ ((cp_at ffP1).2.2.1 = [[(0, 2147483648, 2147483747), (0, 2147483648, 2147483747)]] ∧ ffP1 < npL) := by decide +kernel
theorem cpf_p2 : ((cp_at ffP2).1 = 5 ∧ (cp_at ffP2).2.1 = [(4, 0, 2147483649), (56, 1, 2147483648)]) ∧ ((cp_at ffP2).2.2.1 = [[(0, 2147483648, 2147483747), (0, 2147483648, 2147483747)]] ∧ ffP2 < npL) := by decide +kernel
theorem cpf_p3 : ((cp_at ffP3).1 = 5 ∧ (cp_at ffP3).2.1 = [(4, 0, 2147483650), (57, 1, 2147483648)]) ∧ ((cp_at ffP3).2.2.1 = [[(0, 2147483648, 2147483711), (0, 2147483648, 2147483711)]] ∧ ffP3 < npL) := by decide +kernel
theorem cpf_p4 : ((cp_at ffP4).1 = 5 ∧ (cp_at ffP4).2.1 = [(4, 0, 2147483651), (58, 1, 2147483648)]) ∧ ((cp_at ffP4).2.2.1 = [[(0, 2147483648, 2147483671), (0, 2147483648, 2147483671)]] ∧ ffP4 < npL) := by decide +kernel
theorem cpf_p5 : ((cp_at ffP5).1 = 5 ∧ (cp_at ffP5).2.1 = [(4, 0, 2147483652), (59, 1, 2147483648)]) ∧ ((cp_at ffP5).2.2.1 = [[(0, 2147483648, 2147483671), (0, 2147483648, 2147483671)]] ∧ ffP5 < npL) := by decide +kernel
noncomputable def PTp (ad : AD) (h : AH) (t : Nat) (p : TPD) : Prop := (((At ad h 4 t 0 (.int (nI p.1.1)) ∧ At ad h 55 0 t (.int (nI p.1.1))) ∧ p.1.1 < 100) ∧ ((At ad h 4 t 1 (.int (nI p.1.2)) ∧ At ad h 56 0 t (.int (nI p.1.2))) ∧ p.1.2 < 100)) ∧ ((At ad h 4 t 2 (.int p.2.1) ∧ At ad h 57 0 t (.int p.2.1)) ∧ ((At ad h 4 t 3 (.int p.2.2.1) ∧ At ad h 58 0 t (.int p.2.2.1)) ∧ (At ad h 4 t 4 (.int p.2.2.2) ∧ At ad h 59 0 t (.int p.2.2.2))))
noncomputable def PKb (ad : AD) (h : AH) (kk : Nat) (x y : Nat) : Prop := ((At ad h 2 kk 3 (.int (nI x)) ∧ At ad h 49 0 kk (.int (nI x))) ∧ x < 100) ∧ ((At ad h 2 kk 4 (.int (nI y)) ∧ At ad h 50 0 kk (.int (nI y))) ∧ y < 100)
noncomputable def PLk (ad : AD) (h : AH) (e : Nat) (x y : Nat) : Prop := ∃ kk qk, ((At ad h 5 e 2 (.ref qk) ∧ ad 2 kk = some qk) ∧ (At ad h 69 0 e (.int (nI kk)) ∧ kk < 24)) ∧ PKb ad h kk x y
noncomputable def FnH (ad : AD) (h : AH) (N T : Nat) (d : Nat → TPD) : Prop := (((N ≤ 60 ∧ T ≤ 6) ∧ (LsE ad h 11 5 N ∧ LsE ad h 10 4 T)) ∧ (At ad h 11 0 33 (.int (nI N)) ∧ At ad h 11 0 11 (.int (nI T)))) ∧ ((∀ e, e < N → ∃ x y, PLk ad h e x y) ∧ ∀ t, t < T → PTp ad h t (d t))
noncomputable def fM (d : Nat → TPD) (x y : Nat) (o : Option Nat) : Nat := match o with
  | none => 1000000
  | some j => miT x y (d j)
noncomputable def fI (o : Option Nat) : Int32 := match o with
  | none => Int32.ofInt (-1)
  | some j => nI j
noncomputable def fN (d : Nat → TPD) (x y : Nat) (s hr : Int32) : Nat → Option Nat
  | 0 => none
  | i + 1 => bif tkB (d i) s hr && decide (miT x y (d i) < fM d x y (fN d x y s hr i)) then some i else fN d x y s hr i
theorem ab_ck : (List.range 100).all (fun a => (List.range 100).all (fun b => decide ((if 0 ≤ nI a - nI b then nI a - nI b else 0 - (nI a - nI b)) = nI (a - b + (b - a))))) = true := by decide +kernel
theorem ab_nI {a b : Nat} (ha : a < 100) (hb : b < 100) : (if 0 ≤ nI a - nI b then nI a - nI b else 0 - (nI a - nI b)) = nI (mA a b) := of_decide_eq_true (List.all_eq_true.mp (List.all_eq_true.mp ab_ck a (List.mem_range.mpr ha)) b (List.mem_range.mpr hb))
theorem sb_ck : (List.range 100).all (fun a => (List.range 100).all (fun b => bif Nat.ble b a then decide (nI a - nI b = nI (a - b)) else true)) = true := by decide +kernel
theorem sb_nI {a b : Nat} (ha : a < 100) (hb : b ≤ a) : nI a - nI b = nI (a - b) := by
  have h := List.all_eq_true.mp (List.all_eq_true.mp sb_ck a (List.mem_range.mpr ha)) b (List.mem_range.mpr (by omega))
  rw [Nat.ble_eq_true_of_le hb, cond_true] at h
  exact of_decide_eq_true h
section
variable {σ : Nat → Nat} {ad : AD} {h : AH} {np N T ox m t i kk x y : Nat} {ex ho : Nat → Nat → Prop} {Q : Option Value → AH → Prop} {s hr e : Int32} {d : Nat → TPD} {p : TPD} {tl : List (Nat × AI)} {L : LV} {S : List Value} {M pc pc1 pc2 pc3 pc4 j : Nat} {c c1 c2 c3 c4 : Int}
theorem mA_lt {a b : Nat} (ha : a < 100) (hb : b < 100) : mA a b < 100 := by
  unfold mA
  omega
theorem fN_lt : ∀ (i j : Nat), fN d x y s hr i = some j → j < i := by
  intro i
  induction i with
  | zero => intro j hj; cases hj
  | succ i ih =>
    intro j hj
    rw [fN] at hj
    cases hb : (tkB (d i) s hr && decide (miT x y (d i) < fM d x y (fN d x y s hr i)))
    · rw [hb, cond_false] at hj
      have := ih j hj
      omega
    · rw [hb, cond_true] at hj
      have := Option.some.inj hj
      omega
theorem rl_abs {X : Int32} (h1 : am_w S ≤ 8) (hk : Rt σ M tl L (.int (if 0 ≤ X then X else 0 - X) :: S) h Q) : Rt σ M ((pc, (32, 2, c)) :: tl) L (.int X :: S) h Q := by
  refine rt_nx ?_ hk
  show s_math 2 L (.int X :: S) h = _
  rw [math2, if_pos h1]
  rfl
theorem X_milesTo {q : Nat} (hT : TS ad h np ex ho) (hq : ad 4 t = some q) (hp : PTp ad h t p) (hx : x < 100) (hy : y < 100) (hQ : Q (some (.int (nI (miT x y p)))) h) : Rt σ 109 (codeOf 109) (am_args 0 [.ref q, .int (nI x), .int (nI y)]) [] h Q := by
  obtain ⟨⟨-, -, f79, f79'⟩, ⟨⟨f80, f80'⟩, -⟩, -⟩ := fi_f
  obtain ⟨-, ⟨s80, -⟩, -⟩ := fi_sp
  obtain ⟨⟨-, -, m110⟩, -⟩ := fi_ml
  obtain ⟨⟨⟨⟨-, c4⟩, -⟩, -⟩, -⟩ := wg_c
  obtain ⟨⟨⟨⟨a1, -⟩, a3⟩, ⟨⟨b1, -⟩, b3⟩⟩, -⟩ := hp
  have mok : am_ok [.int (nI p.1.1), .int (nI p.1.2), .int (nI x), .int (nI y)] 110 = true := by
    unfold am_ok
    rw [decide_eq_true (show ([.int (nI p.1.1), .int (nI p.1.2), .int (nI x), .int (nI y)] : List Value).length ≤ mL 110 from m110)]
    rfl
  have k1 := mA_lt a3 hx
  have k2 := mA_lt b3 hy
  rw [code_109]
  refine rl_load rfl rfl (ra_get hT.1 (by omega) (by omega) hq (by rw [f79']; exact a1) (by rw [c4]; exact f79) (rl_load rfl rfl (ra_get hT.1 (by omega) (by omega) hq (by rw [f80']; exact b1) (by rw [c4]; exact f80) (rl_load rfl rfl (rl_load rfl rfl (rl_calls (as := [.int (nI p.1.1), .int (nI p.1.2), .int (nI x), .int (nI y)]) (r := []) s80 rfl rfl (by show 0 ≤ 8; omega) mok ?_))))))
  rw [code_110]
  refine rl_load rfl rfl (rl_load rfl rfl (rl_bin rfl (rl_abs (by show 0 ≤ 8; omega) (rl_load rfl rfl (rl_load rfl rfl (rl_bin rfl (rl_abs (by show 1 ≤ 8; omega) (rl_bin (z := nI (miT x y p)) ?_ (rl_ret1 (rl_ret1 hQ))))))))))
  show some _ = some _
  rw [ab_nI a3 hx, ab_nI b3 hy, nI_plus (by omega)]
  rfl
theorem X_takes {q : Nat} (hT : TS ad h np ex ho) (hq : ad 4 t = some q) (hp : PTp ad h t p) (hQ : Q (some (.int (bif tkB p s hr then 1 else 0))) h) : Rt σ 111 (codeOf 111) (am_args 0 [.ref q, .int s, .int hr]) [] h Q := by
  obtain ⟨-, ⟨-, f81, f81'⟩, ⟨f82, f82'⟩, f83, f83'⟩ := fi_f
  obtain ⟨⟨⟨⟨-, c4⟩, -⟩, -⟩, -⟩ := wg_c
  obtain ⟨-, ⟨a1, -⟩, ⟨a2, -⟩, a3, -⟩ := hp
  have no : tkB p s hr = false → ∀ L : LV, Rt σ 111 (jump 111 32) L [] h Q := fun hb L => by
    rw [hb, cond_false] at hQ
    rw [j111_32]
    refine rl_const ?_
    rw [j111_33]
    exact rl_ret4 (Or.inl rfl) hQ
  rw [head_111]
  refine rl_load rfl rfl (ra_get hT.1 (by omega) (by omega) hq (by rw [f81']; exact a1) (by rw [c4]; exact f81) (rl_load rfl rfl (rl_bin rfl (rl_const (rl_bin rfl (rl_const ?_))))))
  by_cases b1 : (p.2.1 >>> (s &&& 31)) &&& Int32.ofInt 1 = Int32.ofInt 1
  case neg => exact rl_icmpT (by show some (decide (¬ (p.2.1 >>> (s &&& 31)) &&& Int32.ofInt 1 = Int32.ofInt 1)) = some true; rw [decide_eq_true b1]) (no (by unfold tkB; rw [decide_eq_false b1]; rfl) _)
  refine rl_icmpF (by show some (decide (¬ (p.2.1 >>> (s &&& 31)) &&& Int32.ofInt 1 = Int32.ofInt 1)) = some false; rw [decide_eq_false (fun h => h b1)]) (rl_load rfl rfl (ra_get hT.1 (by omega) (by omega) hq (by rw [f82']; exact a2) (by rw [c4]; exact f82) (rl_load rfl rfl ?_)))
  by_cases b2 : p.2.2.1 ≤ hr
  case neg => exact rl_icmpT (by show some (decide (hr < p.2.2.1)) = some true; rw [decide_eq_true (Int32.not_le.mp b2)]) (no (by unfold tkB; rw [decide_eq_false b2, Bool.false_and, Bool.and_false]) _)
  refine rl_icmpF (by show some (decide (hr < p.2.2.1)) = some false; rw [decide_eq_false (Int32.not_lt.mpr b2)]) (rl_load rfl rfl (rl_load rfl rfl (ra_get hT.1 (by omega) (by omega) hq (by rw [f83']; exact a3) (by rw [c4]; exact f83) ?_)))
  by_cases b3 : hr ≤ p.2.2.2
  case neg => exact rl_icmpT (by show some (decide (p.2.2.2 < hr)) = some true; rw [decide_eq_true (Int32.not_le.mp b3)]) (no (by unfold tkB; rw [decide_eq_false b3, Bool.and_false, Bool.and_false]) _)
  have hy : tkB p s hr = true := by
    unfold tkB
    rw [decide_eq_true b1, decide_eq_true b2, decide_eq_true b3]
    rfl
  rw [hy, cond_true] at hQ
  refine rl_icmpF (by show some (decide (p.2.2.2 < hr)) = some false; rw [decide_eq_false (Int32.not_lt.mpr b3)]) (rl_const (rl_goto ?_))
  show Rt σ 111 (jump 111 33) _ _ _ _
  rw [j111_33]
  exact rl_ret4 (Or.inr rfl) hQ
theorem M_takes (hT : TS ad h np ex ho) (hm : ad 11 0 = some m) (ht : t < 6) (hp : PTp ad h t p) (hQ : Q (some (.int (bif tkB p s hr then 1 else 0))) h) : Rt σ 237 (codeOf 237) (am_args 0 [.ref m, .int (nI t), .int s, .int hr]) [] h Q := by
  obtain ⟨⟨⟨-, f94, f94'⟩, ⟨f95, f95'⟩, f96, f96'⟩, -⟩ := fi_g
  obtain ⟨⟨⟨-, t57, k57⟩, ⟨t58, k58⟩, t59, k59⟩, -⟩ := fi_c
  obtain ⟨-, ⟨-, a1⟩, ⟨-, a2⟩, -, a3⟩ := hp
  have no : tkB p s hr = false → ∀ L : LV, Rt σ 237 (jump 237 37) L [] h Q := fun hb L => by
    rw [hb, cond_false] at hQ
    rw [j237_37]
    refine rl_const ?_
    rw [j237_38]
    exact rl_ret4 (Or.inl rfl) hQ
  rw [head_237]
  refine rl_load rfl rfl (ra_row hT hm (by rw [f94']; exact t57) f94 fun q57 hq57 => rl_load rfl rfl (ra_ald hT.1 (by omega) (by omega) hq57 a1 (by rw [k57]; rfl) (by omega) (rl_load rfl rfl (rl_bin rfl (rl_const (rl_bin rfl (rl_const ?_)))))))
  by_cases b1 : (p.2.1 >>> (s &&& 31)) &&& Int32.ofInt 1 = Int32.ofInt 1
  case neg => exact rl_icmpT (by show some (decide (¬ (p.2.1 >>> (s &&& 31)) &&& Int32.ofInt 1 = Int32.ofInt 1)) = some true; rw [decide_eq_true b1]) (no (by unfold tkB; rw [decide_eq_false b1]; rfl) _)
  refine rl_icmpF (by show some (decide (¬ (p.2.1 >>> (s &&& 31)) &&& Int32.ofInt 1 = Int32.ofInt 1)) = some false; rw [decide_eq_false (fun h => h b1)]) (rl_load rfl rfl (rl_load rfl rfl (ra_row hT hm (by rw [f95']; exact t58) f95 fun q58 hq58 => rl_load rfl rfl (ra_ald hT.1 (by omega) (by omega) hq58 a2 (by rw [k58]; rfl) (by omega) (rl_load rfl rfl (ra_row hT hm (by rw [f96']; exact t59) f96 fun q59 hq59 => rl_load rfl rfl (ra_ald hT.1 (by omega) (by omega) hq59 a3 (by rw [k59]; rfl) (by omega) (min_ok (by show 0 ≤ 8; omega) ?_))))))))
  by_cases b2 : p.2.2.1 ≤ hr ∧ hr ≤ p.2.2.2
  case neg =>
    have e0 : txW hr p.2.2.1 p.2.2.2 = 0 := if_neg b2
    refine rl_ifT (by show some (decide (txW hr p.2.2.1 p.2.2.2 = 0)) = some true; rw [decide_eq_true e0]) (no ?_ _)
    unfold tkB
    rw [decide_eq_true b1, Bool.true_and]
    by_cases b3 : p.2.2.1 ≤ hr
    · rw [decide_eq_true b3, Bool.true_and, decide_eq_false (fun b4 => b2 ⟨b3, b4⟩)]
    · rw [decide_eq_false b3, Bool.false_and]
  have e1 : txW hr p.2.2.1 p.2.2.2 = 1 := if_pos b2
  have hy : tkB p s hr = true := by
    unfold tkB
    rw [decide_eq_true b1, decide_eq_true b2.1, decide_eq_true b2.2]
    rfl
  rw [hy, cond_true] at hQ
  refine rl_ifF (by rw [e1]; rfl) (rl_const (rl_goto ?_))
  show Rt σ 237 (jump 237 38) _ _ _ _
  rw [j237_38]
  exact rl_ret4 (Or.inr rfl) hQ
theorem M_apart {a b u v : Nat} (ha : a < 100) (hb : b < 100) (hu : u < 100) (hv : v < 100) (hQ : Q (some (.int (nI (mA u a + mA v b)))) h) : Rt σ 239 (codeOf 239) (am_args 0 [.int (nI a), .int (nI b), .int (nI u), .int (nI v)]) [] h Q := by
  have k1 := mA_lt hu ha
  have k2 := mA_lt hv hb
  have fin : ∀ L : LV, lv_get 4 L = some (.int (nI (mA u a))) → Rt σ 239 (jump 239 30) L [.int (nI (mA v b))] h Q := fun L l4 => by
    rw [j239_30]
    refine rl_store rfl (rl_load (get_put rfl rfl (by omega) l4) rfl (rl_load rfl rfl (rl_bin (z := nI (mA u a + mA v b)) ?_ (rl_ret1 hQ))))
    show some _ = some _
    rw [nI_plus (by omega)]
  have mid : Rt σ 239 (jump 239 14) (am_args 0 [.int (nI a), .int (nI b), .int (nI u), .int (nI v)]) [.int (nI (mA u a))] h Q := by
    rw [j239_14]
    refine rl_store rfl (rl_load rfl rfl (rl_load rfl rfl ?_))
    by_cases g : v ≤ b
    · refine rl_icmpT (by show some (decide (nI v ≤ nI b)) = some true; rw [decide_eq_true ((tx_le (by omega) (by omega)).mpr g)]) ?_
      show Rt σ 239 (jump 239 27) _ _ _ _
      rw [j239_27]
      refine rl_load rfl rfl (rl_load rfl rfl (rl_bin (z := nI (mA v b)) ?_ (fin _ rfl)))
      show some _ = some _
      rw [sb_nI hb g, show mA v b = b - v by unfold mA; omega]
    · refine rl_icmpF (by show some (decide (nI v ≤ nI b)) = some false; rw [decide_eq_false (fun h => g ((tx_le (by omega) (by omega)).mp h))]) (rl_load rfl rfl (rl_load rfl rfl (rl_bin (z := nI (mA v b)) ?_ (rl_goto (fin _ rfl)))))
      show some _ = some _
      rw [sb_nI hv (by omega), show mA v b = v - b by unfold mA; omega]
  rw [head_239]
  refine rl_load rfl rfl (rl_load rfl rfl ?_)
  by_cases g : u ≤ a
  · refine rl_icmpT (by show some (decide (nI u ≤ nI a)) = some true; rw [decide_eq_true ((tx_le (by omega) (by omega)).mpr g)]) ?_
    show Rt σ 239 (jump 239 11) _ _ _ _
    rw [j239_11]
    refine rl_load rfl rfl (rl_load rfl rfl (rl_bin (z := nI (mA u a)) ?_ mid))
    show some _ = some _
    rw [sb_nI ha g, show mA u a = a - u by unfold mA; omega]
  · refine rl_icmpF (by show some (decide (nI u ≤ nI a)) = some false; rw [decide_eq_false (fun h => g ((tx_le (by omega) (by omega)).mp h))]) (rl_load rfl rfl (rl_load rfl rfl (rl_bin (z := nI (mA u a)) ?_ (rl_goto mid))))
    show some _ = some _
    rw [sb_nI hu (by omega), show mA u a = u - a by unfold mA; omega]
theorem M_toTip (hT : TS ad h np ex ho) (hm : ad 11 0 = some m) (hkk : kk < 24) (hK : PKb ad h kk x y) (ht : t < 6) (hp : PTp ad h t p) (hQ : Q (some (.int (nI (miT x y p)))) h) : Rt σ 238 (codeOf 238) (am_args 0 [.ref m, .int (nI kk), .int (nI t)]) [] h Q := by
  obtain ⟨-, ⟨⟨f86, f86'⟩, f87, f87'⟩, ⟨f92, f92'⟩, f93, f93'⟩ := fi_g
  obtain ⟨-, ⟨⟨t49, k49⟩, t50, k50⟩, ⟨⟨t55, k55⟩, t56, k56⟩, -⟩ := fi_c
  obtain ⟨-, -, -, s169⟩ := fi_sp
  obtain ⟨-, -, m239⟩ := fi_ml
  obtain ⟨⟨⟨⟨-, a2⟩, a3⟩, ⟨-, b2⟩, b3⟩, -⟩ := hp
  obtain ⟨⟨⟨-, x2⟩, x3⟩, ⟨-, y2⟩, y3⟩ := hK
  have mok : am_ok [.int (nI x), .int (nI y), .int (nI p.1.1), .int (nI p.1.2)] 239 = true := by
    unfold am_ok
    rw [decide_eq_true (show ([.int (nI x), .int (nI y), .int (nI p.1.1), .int (nI p.1.2)] : List Value).length ≤ mL 239 from m239)]
    rfl
  rw [code_238]
  exact rl_load rfl rfl (ra_row hT hm (by rw [f86']; exact t49) f86 fun q49 hq49 => rl_load rfl rfl (ra_ald hT.1 (by omega) (by omega) hq49 x2 (by rw [k49]; rfl) (by omega) (rl_load rfl rfl (ra_row hT hm (by rw [f87']; exact t50) f87 fun q50 hq50 => rl_load rfl rfl (ra_ald hT.1 (by omega) (by omega) hq50 y2 (by rw [k50]; rfl) (by omega) (rl_load rfl rfl (ra_row hT hm (by rw [f92']; exact t55) f92 fun q55 hq55 => rl_load rfl rfl (ra_ald hT.1 (by omega) (by omega) hq55 a2 (by rw [k55]; rfl) (by omega) (rl_load rfl rfl (ra_row hT hm (by rw [f93']; exact t56) f93 fun q56 hq56 => rl_load rfl rfl (ra_ald hT.1 (by omega) (by omega) hq56 b2 (by rw [k56]; rfl) (by omega) (rl_calls (as := [.int (nI x), .int (nI y), .int (nI p.1.1), .int (nI p.1.2)]) (r := []) s169 rfl rfl (by show 0 ≤ 8; omega) mok (M_apart x3 y3 a3 b3 (rl_ret1 hQ))))))))))))))
end
end
section
variable {ad : AD} {h : AH} {t x y : Nat} {p : TPD}
theorem mi_lt (hp : PTp ad h t p) (hx : x < 100) (hy : y < 100) : miT x y p < 200 := by
  obtain ⟨⟨⟨-, a3⟩, -, b3⟩, -⟩ := hp
  have k1 := mA_lt a3 hx
  have k2 := mA_lt b3 hy
  unfold miT
  omega
theorem nI_eqn {a b : Nat} (ha : a < 1000) (hb : b < 1000) (hE : nI a = nI b) : a = b := by
  have h1 := congrArg i2n hE
  rw [nI_ok (by omega), nI_ok (by omega)] at h1
  omega
end
