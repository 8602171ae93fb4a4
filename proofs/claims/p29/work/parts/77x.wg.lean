section
/-! ===== weigh, by hand ===== -/
theorem code_79 : codeOf 79 = [(0, (1, 0, 2)), (1, (1, 1, 0)), (2, (12, 50, 0)), (5, (2, 5, 2)), (7, (1, 0, 2)), (8, (1, 2, 0)), (9, (12, 26, 0)), (12, (2, 6, 2)), (14, (1, 5, 2)), (16, (20, 0, 43)), (19, (1, 6, 2)), (21, (20, 0, 43)), (24, (1, 3, 0)), (25, (0, 0, 1)), (26, (0, 0, 3000)), (29, (12, 10, 0)), (32, (6, 0, 43)), (35, (1, 4, 0)), (37, (12, 11, 0)), (40, (6, 1, 46)), (43, (0, 0, -2)), (45, (13, 1, 0)), (46, (1, 5, 2)), (48, (8, 30, 0)), (51, (2, 7, 2)), (53, (1, 7, 2)), (55, (20, 0, 77)), (58, (1, 4, 0)), (60, (1, 0, 2)), (61, (8, 11, 0)), (64, (5, 4, 77)), (67, (1, 7, 2)), (69, (1, 4, 0)), (71, (12, 59, 0)), (74, (6, 1, 80)), (77, (0, 0, -3)), (79, (13, 1, 0)), (80, (1, 7, 2)), (82, (8, 39, 0)), (85, (0, 0, 4)), (86, (5, 2, 92)), (89, (0, 0, -4)), (91, (13, 1, 0)), (92, (1, 7, 2)), (94, (1, 2, 0)), (95, (0, 0, 1)), (96, (1, 3, 0)), (97, (1, 6, 2)), (99, (8, 24, 0)), (102, (4, 1, 0)), (103, (32, 0, 0)), (106, (1, 4, 0)), (108, (12, 60, 0)), (111, (0, 0, 1)), (112, (13, 1, 0))] := by decide +kernel
theorem head_79 : codeOf 79 = [(0, (1, 0, 2)), (1, (1, 1, 0)), (2, (12, 50, 0)), (5, (2, 5, 2)), (7, (1, 0, 2)), (8, (1, 2, 0)), (9, (12, 26, 0)), (12, (2, 6, 2)), (14, (1, 5, 2)), (16, (20, 0, 43)), (19, (1, 6, 2)), (21, (20, 0, 43)), (24, (1, 3, 0)), (25, (0, 0, 1)), (26, (0, 0, 3000)), (29, (12, 10, 0)), (32, (6, 0, 43)), (35, (1, 4, 0)), (37, (12, 11, 0)), (40, (6, 1, 46))] ++ jump 79 43 := by rw [jump_jmp, code_79]; rfl
theorem j79_43 : jump 79 43 = [(43, (0, 0, -2)), (45, (13, 1, 0))] ++ jump 79 46 := by rw [jump_jmp, jump_jmp, code_79]; rfl
theorem j79_46 : jump 79 46 = [(46, (1, 5, 2)), (48, (8, 30, 0)), (51, (2, 7, 2)), (53, (1, 7, 2)), (55, (20, 0, 77)), (58, (1, 4, 0)), (60, (1, 0, 2)), (61, (8, 11, 0)), (64, (5, 4, 77)), (67, (1, 7, 2)), (69, (1, 4, 0)), (71, (12, 59, 0)), (74, (6, 1, 80))] ++ jump 79 77 := by rw [jump_jmp, jump_jmp, code_79]; rfl
theorem j79_77 : jump 79 77 = [(77, (0, 0, -3)), (79, (13, 1, 0))] ++ jump 79 80 := by rw [jump_jmp, jump_jmp, code_79]; rfl
theorem j79_80 : jump 79 80 = [(80, (1, 7, 2)), (82, (8, 39, 0)), (85, (0, 0, 4)), (86, (5, 2, 92)), (89, (0, 0, -4)), (91, (13, 1, 0))] ++ jump 79 92 := by rw [jump_jmp, jump_jmp, code_79]; rfl
theorem j79_92 : jump 79 92 = [(92, (1, 7, 2)), (94, (1, 2, 0)), (95, (0, 0, 1)), (96, (1, 3, 0)), (97, (1, 6, 2)), (99, (8, 24, 0)), (102, (4, 1, 0)), (103, (32, 0, 0)), (106, (1, 4, 0)), (108, (12, 60, 0)), (111, (0, 0, 1)), (112, (13, 1, 0))] := by rw [jump_jmp, code_79]; rfl
theorem code_80 : codeOf 80 = [(0, (1, 0, 2)), (1, (8, 39, 0)), (4, (0, 0, 1)), (5, (4, 1, 0)), (6, (2, 2, 0)), (7, (1, 1, 0)), (8, (1, 0, 2)), (9, (8, 36, 0)), (12, (5, 2, 38)), (15, (1, 2, 0)), (16, (0, 0, 0)), (17, (0, 0, 3)), (18, (12, 10, 0)), (21, (6, 0, 34)), (24, (1, 1, 0)), (25, (1, 0, 2)), (26, (8, 59, 0)), (29, (1, 2, 0)), (30, (10, 0, 0)), (31, (5, 5, 38)), (34, (0, 0, 1)), (35, (7, 0, 39)), (38, (0, 0, 0)), (39, (13, 4, 0))] := by decide +kernel
theorem head_80 : codeOf 80 = [(0, (1, 0, 2)), (1, (8, 39, 0)), (4, (0, 0, 1)), (5, (4, 1, 0)), (6, (2, 2, 0)), (7, (1, 1, 0)), (8, (1, 0, 2)), (9, (8, 36, 0)), (12, (5, 2, 38)), (15, (1, 2, 0)), (16, (0, 0, 0)), (17, (0, 0, 3)), (18, (12, 10, 0)), (21, (6, 0, 34)), (24, (1, 1, 0)), (25, (1, 0, 2)), (26, (8, 59, 0)), (29, (1, 2, 0)), (30, (10, 0, 0)), (31, (5, 5, 38))] ++ jump 80 34 := by rw [jump_jmp, code_80]; rfl
theorem j80_34 : jump 80 34 = [(34, (0, 0, 1)), (35, (7, 0, 39))] ++ jump 80 38 := by rw [jump_jmp, jump_jmp, code_80]; rfl
theorem j80_38 : jump 80 38 = [(38, (0, 0, 0))] ++ jump 80 39 := by rw [jump_jmp, jump_jmp, code_80]; rfl
theorem j80_39 : jump 80 39 = [(39, (13, 4, 0))] := by rw [jump_jmp, code_80]; rfl
theorem code_81 : codeOf 81 = [(0, (1, 0, 2)), (1, (8, 39, 0)), (4, (0, 0, 4)), (5, (5, 3, 48)), (8, (1, 0, 2)), (9, (8, 57, 0)), (12, (1, 0, 2)), (13, (8, 39, 0)), (16, (1, 2, 0)), (17, (11, 0, 0)), (18, (1, 0, 2)), (19, (8, 58, 0)), (22, (1, 0, 2)), (23, (8, 39, 0)), (26, (1, 1, 0)), (27, (11, 0, 0)), (28, (1, 0, 2)), (29, (8, 59, 0)), (32, (1, 0, 2)), (33, (8, 39, 0)), (36, (1, 3, 0)), (37, (11, 0, 0)), (38, (1, 0, 2)), (39, (18, 0, 0)), (40, (8, 39, 0)), (43, (0, 0, 1)), (44, (4, 0, 0)), (45, (9, 39, 0)), (48, (13, 0, 0))] := by decide +kernel
theorem head_81 : codeOf 81 = [(0, (1, 0, 2)), (1, (8, 39, 0)), (4, (0, 0, 4)), (5, (5, 3, 48)), (8, (1, 0, 2)), (9, (8, 57, 0)), (12, (1, 0, 2)), (13, (8, 39, 0)), (16, (1, 2, 0)), (17, (11, 0, 0)), (18, (1, 0, 2)), (19, (8, 58, 0)), (22, (1, 0, 2)), (23, (8, 39, 0)), (26, (1, 1, 0)), (27, (11, 0, 0)), (28, (1, 0, 2)), (29, (8, 59, 0)), (32, (1, 0, 2)), (33, (8, 39, 0)), (36, (1, 3, 0)), (37, (11, 0, 0)), (38, (1, 0, 2)), (39, (18, 0, 0)), (40, (8, 39, 0)), (43, (0, 0, 1)), (44, (4, 0, 0)), (45, (9, 39, 0))] ++ jump 81 48 := by rw [jump_jmp, code_81]; rfl
theorem j81_48 : jump 81 48 = [(48, (13, 0, 0))] := by rw [jump_jmp, code_81]; rfl
theorem code_215 : codeOf 215 = [(0, (1, 0, 2)), (1, (1, 1, 0)), (2, (12, 148, 0)), (5, (6, 0, 35)), (8, (1, 0, 2)), (9, (1, 2, 0)), (10, (12, 134, 0)), (13, (6, 0, 35)), (16, (1, 3, 0)), (17, (0, 0, 1)), (18, (0, 0, 3000)), (21, (12, 125, 0)), (24, (6, 0, 35)), (27, (1, 4, 0)), (29, (12, 126, 0)), (32, (6, 1, 38)), (35, (0, 0, -2)), (37, (13, 1, 0)), (38, (1, 0, 2)), (39, (8, 114, 0)), (42, (1, 1, 0)), (43, (10, 0, 0)), (44, (2, 5, 0)), (46, (1, 0, 2)), (47, (1, 1, 0)), (48, (12, 149, 0)), (51, (6, 1, 97)), (54, (1, 4, 0)), (56, (1, 0, 2)), (57, (8, 111, 0)), (60, (1, 1, 0)), (61, (10, 0, 0)), (62, (5, 2, 97)), (65, (1, 4, 0)), (67, (1, 0, 2)), (68, (8, 140, 0)), (71, (5, 4, 97)), (74, (1, 5, 0)), (76, (6, 5, 100)), (79, (1, 4, 0)), (81, (1, 0, 2)), (82, (8, 117, 0)), (85, (0, 0, 4)), (86, (1, 1, 0)), (87, (4, 2, 0)), (88, (1, 5, 0)), (90, (4, 0, 0)), (91, (0, 0, 1)), (92, (4, 1, 0)), (93, (10, 0, 0)), (94, (5, 4, 100)), (97, (0, 0, -3)), (99, (13, 1, 0)), (100, (1, 5, 0)), (102, (0, 0, 4)), (103, (5, 1, 109)), (106, (0, 0, -4)), (108, (13, 1, 0)), (109, (1, 3, 0)), (110, (1, 0, 2)), (111, (8, 98, 0)), (114, (1, 2, 0)), (115, (10, 0, 0)), (116, (4, 1, 0)), (117, (2, 6, 0)), (119, (1, 0, 2)), (120, (8, 115, 0)), (123, (0, 0, 4)), (124, (1, 1, 0)), (125, (4, 2, 0)), (126, (1, 5, 0)), (128, (4, 0, 0)), (129, (1, 2, 0)), (130, (11, 0, 0)), (131, (1, 0, 2)), (132, (8, 116, 0)), (135, (0, 0, 4)), (136, (1, 1, 0)), (137, (4, 2, 0)), (138, (1, 5, 0)), (140, (4, 0, 0)), (141, (1, 6, 0)), (143, (0, 0, 1)), (144, (5, 3, 151)), (147, (0, 0, 1)), (148, (7, 0, 153)), (151, (1, 6, 0)), (153, (11, 0, 0)), (154, (1, 0, 2)), (155, (8, 117, 0)), (158, (0, 0, 4)), (159, (1, 1, 0)), (160, (4, 2, 0)), (161, (1, 5, 0)), (163, (4, 0, 0)), (164, (1, 4, 0)), (166, (11, 0, 0)), (167, (1, 0, 2)), (168, (8, 114, 0)), (171, (1, 1, 0)), (172, (18, 3, 0)), (173, (10, 0, 0)), (174, (0, 0, 1)), (175, (4, 0, 0)), (176, (11, 0, 0)), (177, (0, 0, 1)), (178, (13, 1, 0))] := by decide +kernel
set_option maxRecDepth 100000 in
theorem head_215 : codeOf 215 = [(0, (1, 0, 2)), (1, (1, 1, 0)), (2, (12, 148, 0)), (5, (6, 0, 35)), (8, (1, 0, 2)), (9, (1, 2, 0)), (10, (12, 134, 0)), (13, (6, 0, 35)), (16, (1, 3, 0)), (17, (0, 0, 1)), (18, (0, 0, 3000)), (21, (12, 125, 0)), (24, (6, 0, 35)), (27, (1, 4, 0)), (29, (12, 126, 0)), (32, (6, 1, 38))] ++ jump 215 35 := by rw [jump_jmp, code_215]; rfl
set_option maxRecDepth 100000 in
theorem j215_35 : jump 215 35 = [(35, (0, 0, -2)), (37, (13, 1, 0))] ++ jump 215 38 := by rw [jump_jmp, jump_jmp, code_215]; rfl
set_option maxRecDepth 100000 in
theorem j215_38 : jump 215 38 = [(38, (1, 0, 2)), (39, (8, 114, 0)), (42, (1, 1, 0)), (43, (10, 0, 0)), (44, (2, 5, 0)), (46, (1, 0, 2)), (47, (1, 1, 0)), (48, (12, 149, 0)), (51, (6, 1, 97)), (54, (1, 4, 0)), (56, (1, 0, 2)), (57, (8, 111, 0)), (60, (1, 1, 0)), (61, (10, 0, 0)), (62, (5, 2, 97)), (65, (1, 4, 0)), (67, (1, 0, 2)), (68, (8, 140, 0)), (71, (5, 4, 97)), (74, (1, 5, 0)), (76, (6, 5, 100)), (79, (1, 4, 0)), (81, (1, 0, 2)), (82, (8, 117, 0)), (85, (0, 0, 4)), (86, (1, 1, 0)), (87, (4, 2, 0)), (88, (1, 5, 0)), (90, (4, 0, 0)), (91, (0, 0, 1)), (92, (4, 1, 0)), (93, (10, 0, 0)), (94, (5, 4, 100))] ++ jump 215 97 := by rw [jump_jmp, jump_jmp, code_215]; rfl
set_option maxRecDepth 100000 in
theorem j215_97 : jump 215 97 = [(97, (0, 0, -3)), (99, (13, 1, 0))] ++ jump 215 100 := by rw [jump_jmp, jump_jmp, code_215]; rfl
set_option maxRecDepth 100000 in
theorem j215_100 : jump 215 100 = [(100, (1, 5, 0)), (102, (0, 0, 4)), (103, (5, 1, 109)), (106, (0, 0, -4)), (108, (13, 1, 0))] ++ jump 215 109 := by rw [jump_jmp, jump_jmp, code_215]; rfl
set_option maxRecDepth 100000 in
theorem j215_109 : jump 215 109 = [(109, (1, 3, 0)), (110, (1, 0, 2)), (111, (8, 98, 0)), (114, (1, 2, 0)), (115, (10, 0, 0)), (116, (4, 1, 0)), (117, (2, 6, 0)), (119, (1, 0, 2)), (120, (8, 115, 0)), (123, (0, 0, 4)), (124, (1, 1, 0)), (125, (4, 2, 0)), (126, (1, 5, 0)), (128, (4, 0, 0)), (129, (1, 2, 0)), (130, (11, 0, 0)), (131, (1, 0, 2)), (132, (8, 116, 0)), (135, (0, 0, 4)), (136, (1, 1, 0)), (137, (4, 2, 0)), (138, (1, 5, 0)), (140, (4, 0, 0)), (141, (1, 6, 0)), (143, (0, 0, 1)), (144, (5, 3, 151)), (147, (0, 0, 1)), (148, (7, 0, 153))] ++ jump 215 151 := by rw [jump_jmp, jump_jmp, code_215]; rfl
set_option maxRecDepth 100000 in
theorem j215_151 : jump 215 151 = [(151, (1, 6, 0))] ++ jump 215 153 := by rw [jump_jmp, jump_jmp, code_215]; rfl
set_option maxRecDepth 100000 in
theorem j215_153 : jump 215 153 = [(153, (11, 0, 0)), (154, (1, 0, 2)), (155, (8, 117, 0)), (158, (0, 0, 4)), (159, (1, 1, 0)), (160, (4, 2, 0)), (161, (1, 5, 0)), (163, (4, 0, 0)), (164, (1, 4, 0)), (166, (11, 0, 0)), (167, (1, 0, 2)), (168, (8, 114, 0)), (171, (1, 1, 0)), (172, (18, 3, 0)), (173, (10, 0, 0)), (174, (0, 0, 1)), (175, (4, 0, 0)), (176, (11, 0, 0)), (177, (0, 0, 1)), (178, (13, 1, 0))] := by rw [jump_jmp, code_215]; rfl
theorem code_201 : codeOf 201 = [(0, (1, 0, 2)), (1, (8, 111, 0)), (4, (1, 1, 0)), (5, (10, 0, 0)), (6, (0, 0, -1)), (7, (5, 1, 14)), (10, (0, 0, 1)), (11, (7, 0, 15)), (14, (0, 0, 0)), (15, (13, 4, 0))] := by decide +kernel
theorem head_201 : codeOf 201 = [(0, (1, 0, 2)), (1, (8, 111, 0)), (4, (1, 1, 0)), (5, (10, 0, 0)), (6, (0, 0, -1)), (7, (5, 1, 14)), (10, (0, 0, 1)), (11, (7, 0, 15))] ++ jump 201 14 := by rw [jump_jmp, code_201]; rfl
theorem j201_14 : jump 201 14 = [(14, (0, 0, 0))] ++ jump 201 15 := by rw [jump_jmp, jump_jmp, code_201]; rfl
theorem j201_15 : jump 201 15 = [(15, (13, 4, 0))] := by rw [jump_jmp, code_201]; rfl
theorem code_200 : codeOf 200 = [(0, (1, 1, 0)), (1, (0, 0, 0)), (2, (1, 0, 2)), (3, (8, 149, 0)), (6, (0, 0, 1)), (7, (4, 1, 0)), (8, (12, 125, 0)), (11, (13, 4, 0))] := by decide +kernel
theorem code_178 : codeOf 178 = [(0, (1, 1, 0)), (1, (0, 0, 0)), (2, (1, 0, 2)), (3, (8, 139, 0)), (6, (0, 0, 1)), (7, (4, 1, 0)), (8, (12, 125, 0)), (11, (13, 4, 0))] := by decide +kernel
theorem code_63 : codeOf 63 = [(0, (1, 1, 0)), (1, (0, 0, 0)), (2, (1, 0, 2)), (3, (8, 7, 0)), (6, (12, 13, 0)), (9, (0, 0, 1)), (10, (4, 1, 0)), (11, (12, 10, 0)), (14, (6, 0, 31)), (17, (1, 0, 2)), (18, (8, 7, 0)), (21, (1, 1, 0)), (22, (12, 17, 0)), (25, (28, 5, 0)), (28, (7, 0, 32)), (31, (19, 0, 0)), (32, (13, 3, 0))] := by decide +kernel
theorem code_32 : codeOf 32 = [(0, (1, 1, 0)), (1, (0, 0, 0)), (2, (1, 0, 2)), (3, (8, 6, 0)), (6, (12, 13, 0)), (9, (0, 0, 1)), (10, (4, 1, 0)), (11, (12, 10, 0)), (14, (6, 0, 31)), (17, (1, 0, 2)), (18, (8, 6, 0)), (21, (1, 1, 0)), (22, (12, 17, 0)), (25, (28, 4, 0)), (28, (7, 0, 32)), (31, (19, 0, 0)), (32, (13, 3, 0))] := by decide +kernel
theorem spec_50 : spec 50 = (1, 1, [(10, 63)]) := by decide +kernel
theorem spec_26 : spec 26 = (1, 1, [(10, 32)]) := by decide +kernel
theorem spec_59 : spec 59 = (1, 1, [(6, 80)]) := by decide +kernel
theorem spec_60 : spec 60 = (1, 3, [(6, 81)]) := by decide +kernel
theorem spec_148 : spec 148 = (1, 1, [(11, 200)]) := by decide +kernel
theorem spec_134 : spec 134 = (1, 1, [(11, 178)]) := by decide +kernel
theorem spec_149 : spec 149 = (1, 1, [(11, 201)]) := by decide +kernel
theorem ml_wg : ((2 ≤ mL 63 ∧ 2 ≤ mL 32) ∧ (2 ≤ mL 80 ∧ 4 ≤ mL 81)) ∧ ((2 ≤ mL 200 ∧ 2 ≤ mL 178) ∧ 2 ≤ mL 201) := by decide +kernel
theorem wg_f : ((((fks 7).contains 10 = true ∧ fpos 7 = 11) ∧ ((fks 6).contains 10 = true ∧ fpos 6 = 10)) ∧ (((fks 30).contains 5 = true ∧ fpos 30 = 7) ∧ (((fks 24).contains 4 = true ∧ fpos 24 = 6) ∧ ((fks 36).contains 6 = true ∧ fpos 36 = 1)))) ∧ (dcode (fr 39).2.2.1 = 0 ∧ (((((fks 149).contains 11 = true ∧ fpos 149 = 33) ∧ ((fks 139).contains 11 = true ∧ fpos 139 = 11)) ∧ (((fks 111).contains 11 = true ∧ fpos 111 = 40) ∧ ((fks 98).contains 11 = true ∧ fpos 98 = 18))) ∧ (((fks 115).contains 11 = true ∧ fpos 115 = 44) ∧ ((fks 116).contains 11 = true ∧ fpos 116 = 45)))) := by decide +kernel
theorem wg_c : (((cdm 4 = 0 ∧ cdk 4 = 4) ∧ (arrI 74 60 = true ∧ cdk 74 = 20)) ∧ (arrI 61 6 = true ∧ cdk 61 = 20)) ∧ (((15, 5, 1, 60) ∈ lstt ∧ (14, 4, 1, 6) ∈ lstt) ∧ ((ct_at 10 11 = some (7, 15, 0) ∧ ct_at 10 10 = some (7, 14, 0)) ∧ (((ct_at 11 40 = some (7, 74, 0) ∧ ct_at 11 18 = some (7, 61, 0)) ∧ (ct_at 11 44 = some (7, 78, 0) ∧ ct_at 11 45 = some (7, 79, 0))) ∧ ((sgl 78 = true ∧ sgl 79 = true) ∧ (sgl 74 = true ∧ sgl 61 = true))))) := by decide +kernel
section
variable {σ : Nat → Nat} {ad ad1 : AD} {h h1 : AH} {np N T d e n s q ox m : Nat} {ex ho : Nat → Nat → Prop} {Q : Option Value → AH → Prop} {k t w o : Int32} {ws ts ds : Nat → Int32}
/-- an object of a list of the class's, by its number -/
theorem X_objAt {M f fl el kd : Nat} (hc : codeOf M = [(0, (1, 1, 0)), (1, (0, 0, 0)), (2, (1, 0, 2)), (3, (8, f, 0)), (6, (12, 13, 0)), (9, (0, 0, 1)), (10, (4, 1, 0)), (11, (12, 10, 0)), (14, (6, 0, 31)), (17, (1, 0, 2)), (18, (8, f, 0)), (21, (1, 1, 0)), (22, (12, 17, 0)), (25, (28, kd, 0)), (28, (7, 0, 32)), (31, (19, 0, 0)), (32, (13, 3, 0))]) (hf : (fks f).contains 10 = true) (hf' : fpos f = fl) (hel : el < 1000) (hkd : cdk el = kd) (hkd2 : kd ≠ 31)
    (hT : TS ad h np ex ho) (hox : ad 10 0 = some ox) (hl : LsE ad h fl el N) (hN : N < 1000) (H1 : ∀ kk q, kk < N → k = nI kk → ad el kk = some q → Q (some (.ref q)) h) (H0 : (∀ kk, kk < N → k ≠ nI kk) → Q (some .null) h) : Rt σ M (codeOf M) (am_args 0 [.ref ox, .int k]) [] h Q := by
  obtain ⟨⟨⟨⟨c1, c2⟩, -⟩, -⟩, -⟩ := pm_c
  obtain ⟨m1, m2⟩ := and2 ml_ff
  obtain ⟨m2, m3⟩ := and2 m2
  obtain ⟨ql, mc, ed, e2, e3, e4⟩ := hl
  have h0 : codeOf M = [(0, (1, 1, 0)), (1, (0, 0, 0)), (2, (1, 0, 2)), (3, (8, f, 0)), (6, (12, 13, 0)), (9, (0, 0, 1)), (10, (4, 1, 0)), (11, (12, 10, 0)), (14, (6, 0, 31)), (17, (1, 0, 2)), (18, (8, f, 0)), (21, (1, 1, 0)), (22, (12, 17, 0)), (25, (28, kd, 0)), (28, (7, 0, 32))] ++ jump M 31 := by rw [jump_jmp, hc]; rfl
  have h31 : jump M 31 = [(31, (19, 0, 0))] ++ jump M 32 := by rw [jump_jmp, jump_jmp, hc]; rfl
  have h32 : jump M 32 = [(32, (13, 3, 0))] := by rw [jump_jmp, hc]; rfl
  rw [h0]
  refine rl_load rfl rfl (rl_const (rl_load rfl rfl (ra_get hT.1 (by omega) (by omega) hox (by rw [hf']; exact e2) (by rw [c2]; exact hf) (rl_callv (as := []) (r := [.int (Int32.ofInt 0), .int k]) spec_13 rfl rfl e3 (by show 2 ≤ 8; omega) (ref_ok (blet m1)) (L_size e3 (rl_const (rl_bin rfl (within_ok (by show 0 ≤ 8; omega) ?_))))))))
  rcases txW_len (k := k) (show N < 2147483648 by omega) with ⟨kk, k1, k2, k3⟩ | ⟨k1, k2⟩
  · rcases e4 with e4 | ⟨bq, us, rfl, e6, e7⟩
    · omega
    · obtain ⟨qk, u1, u2⟩ := e7 kk k1
      have hi := nI_nn (show kk < 2147483648 by omega)
      obtain ⟨-, k', vs, o1, o2, -⟩ := hT.1 el kk qk hel u2
      have ek : k' = kd := by
        rcases o2 with e | ⟨e, -⟩
        · rw [e, hkd]
        · exact absurd (hkd.symm.trans e) hkd2
      subst ek
      refine rl_ifF ?_ (rl_load rfl rfl (ra_get hT.1 (by omega) (by omega) hox (by rw [hf']; exact e2) (by rw [c2]; exact hf) (rl_load rfl rfl (rl_callv (as := [.int k]) (r := []) spec_17 rfl rfl e3 (by show 0 ≤ 8; omega) (two_ok (blet m2)) (L_get (u := qk) e3 e6 (by rw [k2]; exact hi.1) (by rw [k2]; exact (tx_lt (by omega) (by omega)).mpr (by omega)) (by rw [k2, hi.2]; exact u1) (rl_cast o1 (rl_goto ?_)))))))
      · show icond 0 (txW k (nI 0) (nI N - Int32.ofInt 1)) 0 = _
        rw [k3]; rfl
      · show Rt σ M (jump M 32) _ _ _ _
        rw [h32]
        exact rl_ret3 (H1 kk qk k1 k2 u2)
  · refine rl_ifT ?_ ?_
    · show icond 0 (txW k (nI 0) (nI N - Int32.ofInt 1)) 0 = _
      rw [k1]; rfl
    · show Rt σ M (jump M 31) _ _ _ _
      rw [h31]
      refine rl_null ?_
      rw [h32]
      exact rl_ret3n (H0 k2)
/-- what LETS and TIPS say on both sides -/
noncomputable def WgL (ad : AD) (h : AH) (N : Nat) : Prop := ∀ e, e < N → (At ad h 5 e 7 .null ∧ At ad h 74 0 e (.int (Int32.ofInt (-1)))) ∨ ∃ q dl n, (At ad h 5 e 7 (.ref q) ∧ ad 6 e = some q) ∧ ((At ad h 6 e 1 (.int (nI dl)) ∧ At ad h 74 0 e (.int (nI dl))) ∧ ((dl < 400 ∧ n ≤ 4) ∧ (At ad h 6 e 3 (.int (nI n)) ∧ At ad h 77 0 e (.int (nI n)))))
noncomputable def WgT (ad : AD) (h : AH) (T : Nat) : Prop := ∀ t, t < T → ∃ x, (At ad h 4 t 6 (.int x) ∧ At ad h 61 0 t (.int x)) ∧ (2147483598 ≤ i2n x ∧ i2n x ≤ 2147483698)
noncomputable def WgS (ad : AD) (h : AH) (N T d : Nat) : Prop := (((N ≤ 60 ∧ T ≤ 6) ∧ d < 400) ∧ ((LsE ad h 11 5 N ∧ LsE ad h 10 4 T) ∧ ((At ad h 10 0 0 (.int (nI d)) ∧ At ad h 11 0 0 (.int (nI d))) ∧ (At ad h 11 0 33 (.int (nI N)) ∧ At ad h 11 0 11 (.int (nI T)))))) ∧ ((∀ k, ad 5 k ≠ none ↔ k < N) ∧ (WgL ad h N ∧ (WgT ad h T ∧ RLw ad h)))
/-- the reasons to refuse -/
noncomputable def WgB (N T : Nat) (k t w o : Int32) : Prop := ((∀ e, e < N → k ≠ nI e) ∨ ∀ s, s < T → t ≠ nI s) ∨ (txW w (Int32.ofInt 1) (Int32.ofInt 3000) = 0 ∨ txW o (nI 0) (nI 399) = 0)
noncomputable def WgN (d dl n : Nat) (o : Int32) (ds : Nat → Int32) : Prop := nI d < o ∨ (o < nI dl ∨ (0 < n ∧ o ≤ ds (n - 1)))
noncomputable def wgV (w x : Int32) : Int32 := if Int32.ofInt 1 < w - x then w - x else Int32.ofInt 1
/-- the class has written, the model not yet -/
noncomputable def RWh (ad : AD) (h : AH) (e n : Nat) (ws ts ds : Nat → Int32) (w t o : Int32) : Prop := ((∀ e', e' ≠ e → ad 6 e' ≠ none → RWe ad h e') ∧ ((e < 60 ∧ n < 4) ∧ At ad h 6 e 3 (.int (nI (n + 1))))) ∧ (((WRw ad h 25 79 e n 2147483649 2147486698 ws ∧ (WRw ad h 26 78 e n 2147483648 2147483653 ts ∧ WRw ad h 27 80 e n 2147483648 2147484047 ds)) ∧ (At ad h 25 e n (.int w) ∧ (At ad h 26 e n (.int t) ∧ At ad h 27 e n (.int o)))) ∧ ((2147483649 ≤ i2n w ∧ i2n w ≤ 2147486698) ∧ ((2147483648 ≤ i2n t ∧ i2n t ≤ 2147483653) ∧ (2147483648 ≤ i2n o ∧ i2n o ≤ 2147484047))))
/-- what the class's call leaves, by its answer -/
noncomputable def WgP (ad : AD) (k t w o y : Int32) (h : AH) : Prop := ∃ N T d, (((N ≤ 60 ∧ T ≤ 6) ∧ d < 400) ∧ (At ad h 11 0 0 (.int (nI d)) ∧ (At ad h 11 0 33 (.int (nI N)) ∧ At ad h 11 0 11 (.int (nI T))))) ∧
  (((y = Int32.ofInt (-2) ∧ RLw ad h) ∧ WgB N T k t w o) ∨ ∃ e s x, (((e < N ∧ k = nI e) ∧ (s < T ∧ t = nI s)) ∧ ((txW w (Int32.ofInt 1) (Int32.ofInt 3000) = 1 ∧ txW o (nI 0) (nI 399) = 1) ∧ At ad h 61 0 s (.int x))) ∧
    (((y = Int32.ofInt (-3) ∧ RLw ad h) ∧ At ad h 74 0 e (.int (Int32.ofInt (-1)))) ∨ ∃ dl n ws ts ds, (((At ad h 74 0 e (.int (nI dl)) ∧ At ad h 77 0 e (.int (nI n))) ∧ (dl < 400 ∧ n ≤ 4)) ∧ ∀ j, j < n → At ad h 80 0 (4 * e + j) (.int (ds j))) ∧
      (((y = Int32.ofInt (-3) ∧ RLw ad h) ∧ WgN d dl n o ds) ∨ (¬ WgN d dl n o ds ∧ (((y = Int32.ofInt (-4) ∧ RLw ad h) ∧ n = 4) ∨ ((y = Int32.ofInt 1 ∧ n < 4) ∧ RWh ad h e n ws ts ds (wgV w x) t o))))))
theorem X_mbt {dl : Nat} (hT : TS ad h np ex ho) (hq : ad 6 e = some q) (hn : n ≤ 4) (hdl : dl < 400) (h1 : At ad h 6 e 1 (.int (nI dl))) (h3 : At ad h 6 e 3 (.int (nI n))) (hd : ∀ j, j < n → At ad h 27 e j (.int (ds j))) (H1 : ¬ (o < nI dl ∨ (0 < n ∧ o ≤ ds (n - 1))) → Q (some (.int 1)) h) (H0 : (o < nI dl ∨ (0 < n ∧ o ≤ ds (n - 1))) → Q (some (.int 0)) h) : Rt σ 80 (codeOf 80) (am_args 0 [.ref q, .int o]) [] h Q := by
  obtain ⟨⟨⟨⟨f1, f1'⟩, -⟩, -, f4, f4'⟩, -⟩ := wt_f
  obtain ⟨⟨-, -, -, f5, f5'⟩, -⟩ := wg_f
  obtain ⟨⟨⟨⟨c1, c1'⟩, -⟩, -, -, -, c4⟩, -⟩ := wt_c
  obtain ⟨⟨-, t3, -⟩, -⟩ := wt_t
  obtain ⟨q3, a3, b3⟩ := fld_own hT (by omega) c1 t3 hq
  have no : ∀ (L : LV), (o < nI dl ∨ (0 < n ∧ o ≤ ds (n - 1))) → Rt σ 80 (jump 80 38) L [] h Q := fun L hx => by
    rw [j80_38]
    refine rl_const ?_
    rw [j80_39]
    exact rl_ret4 (Or.inl rfl) (H0 hx)
  have yes : ∀ (L : LV), ¬ (o < nI dl ∨ (0 < n ∧ o ≤ ds (n - 1))) → Rt σ 80 (jump 80 34) L [] h Q := fun L hx => by
    rw [j80_34]
    refine rl_const (rl_goto ?_)
    show Rt σ 80 (jump 80 39) _ _ _ _
    rw [j80_39]
    exact rl_ret4 (Or.inr rfl) (H1 hx)
  rw [head_80]
  refine rl_load rfl rfl (ra_get hT.1 (by omega) (by omega) hq (by rw [f1']; exact h3) (by rw [c1']; exact f1) (rl_const (rl_bin rfl (rl_store rfl (rl_load rfl rfl (rl_load rfl rfl (ra_get hT.1 (by omega) (by omega) hq (by rw [f5']; exact h1) (by rw [c1']; exact f5) ?_)))))))
  by_cases e0 : o < nI dl
  · exact rl_icmpT (by show some (decide (o < nI dl)) = some true; rw [decide_eq_true e0]) (no _ (Or.inl e0))
  · refine rl_icmpF (by show some (decide (o < nI dl)) = some false; rw [decide_eq_false e0]) (rl_load rfl rfl (rl_const (rl_const (within_ok (by show 0 ≤ 8; omega) ?_))))
    cases n with
    | zero =>
      refine rl_ifT (by decide +kernel) ?_
      exact yes _ (fun h => h.elim e0 (fun h => absurd h.1 (by omega)))
    | succ n =>
      have e1 : nI (n + 1) - Int32.ofInt 1 = nI n := by rw [← nI_suc (p := n) (by omega), Int32.add_sub_cancel]
      have e2 : txW (nI n) (Int32.ofInt 0) (Int32.ofInt 3) = 1 := by
        show txW (nI n) (nI 0) (nI 3) = 1
        unfold txW
        rw [if_pos ⟨(tx_le (by omega) (by omega)).mpr (by omega), (tx_le (by omega) (by omega)).mpr (by omega)⟩]
      rw [e1, e2]
      refine rl_ifF rfl (rl_load rfl rfl (rl_load rfl rfl (ra_get hT.1 (by omega) (by omega) hq (by rw [f4']; exact a3) (by rw [c1']; exact f4) (rl_load rfl rfl (ra_ald hT.1 (by omega) (by omega) b3 (hd n (by omega)) (by rw [c4]; rfl) (by omega) ?_)))))
      by_cases e3 : o ≤ ds n
      · exact rl_icmpT (by show some (decide (o ≤ ds n)) = some true; rw [decide_eq_true e3]) (no _ (Or.inr ⟨by omega, e3⟩))
      · refine rl_icmpF (by show some (decide (o ≤ ds n)) = some false; rw [decide_eq_false e3]) ?_
        exact yes _ (fun h => h.elim e0 (fun h => e3 h.2))
/-- the heap with a weighing more -/
noncomputable def wgH (h : AH) (q1 q2 q3 q : Nat) (l1 l2 l3 : List Int32) (fs : List Value) (n : Nat) (w t o : Int32) : AH := am_set (am_set (am_set (am_set h q1 (20, (l1.map .int).set n (.int w))) q2 (20, (l2.map .int).set n (.int t))) q3 (20, (l3.map .int).set n (.int o))) q (6, fs.set 3 (.int (nI (n + 1))))
theorem X_addW (hT : TS ad h np ex ho) (hq : ad 6 e = some q) (hn : n < 4) (h3 : At ad h 6 e 3 (.int (nI n))) (H : ∀ (q1 q2 q3 : Nat) (l1 l2 l3 : List Int32) (fs : List Value), (ad 25 e = some q1 ∧ (ad 26 e = some q2 ∧ ad 27 e = some q3)) → ((h.1 q1 = some (20, l1.map .int) ∧ l1.length = 4) ∧ ((h.1 q2 = some (20, l2.map .int) ∧ l2.length = 4) ∧ (h.1 q3 = some (20, l3.map .int) ∧ l3.length = 4))) → (h.1 q = some (6, fs) ∧ 3 < fs.length) → Q none (wgH h q1 q2 q3 q l1 l2 l3 fs n w t o)) : Rt σ 81 (codeOf 81) (am_args 0 [.ref q, .int t, .int w, .int o]) [] h Q := by
  obtain ⟨⟨⟨⟨f1, f1'⟩, f2, f2'⟩, ⟨f3, f3'⟩, f4, f4'⟩, -⟩ := wt_f
  obtain ⟨-, fw, -⟩ := wg_f
  obtain ⟨⟨⟨⟨c1, c1'⟩, -⟩, ⟨r1, c2⟩, ⟨r2, c3⟩, r3, c4⟩, -⟩ := wt_c
  obtain ⟨⟨⟨t1, t2⟩, t3, -⟩, -⟩ := wt_t
  obtain ⟨q1, a1, b1⟩ := fld_own hT (by omega) c1 t1 hq
  obtain ⟨q2, a2, b2⟩ := fld_own hT (by omega) c1 t2 hq
  obtain ⟨q3, a3, b3⟩ := fld_own hT (by omega) c1 t3 hq
  obtain ⟨l1, x1, y1⟩ := row_of hT.1 r1 b1 c2 (by omega)
  obtain ⟨l2, x2, y2⟩ := row_of hT.1 r2 b2 c3 (by omega)
  obtain ⟨l3, x3, y3⟩ := row_of hT.1 r3 b3 c4 (by omega)
  obtain ⟨fs, x6, p3⟩ := at_kind hT.1 (by omega) (by omega) h3 hq
  obtain ⟨-, -, p4⟩ := at_kind hT.1 (by omega) (by omega) a1 hq
  rw [c1'] at x6
  have gp : ∀ {p : Nat} {v : Value}, At ad h 6 e p v → fs[p]? = some v := fun {p v} ha => by
    obtain ⟨fs', z1, z2⟩ := at_kind hT.1 (by omega) (by omega) ha hq
    rw [c1', x6] at z1
    cases z1
    exact z2
  have n16 : q1 ≠ q := ref_ne hT.2.1 b1 hq (by omega) fun e => absurd e.1 (by omega)
  have n26 : q2 ≠ q := ref_ne hT.2.1 b2 hq (by omega) fun e => absurd e.1 (by omega)
  have n36 : q3 ≠ q := ref_ne hT.2.1 b3 hq (by omega) fun e => absurd e.1 (by omega)
  have n12 : q1 ≠ q2 := ref_ne hT.2.1 b1 b2 (by omega) fun e => absurd e.1 (by omega)
  have n13 : q1 ≠ q3 := ref_ne hT.2.1 b1 b3 (by omega) fun e => absurd e.1 (by omega)
  have n23 : q2 ≠ q3 := ref_ne hT.2.1 b2 b3 (by omega) fun e => absurd e.1 (by omega)
  have hi := nI_nn (show n < 2147483648 by omega)
  have lf : 3 < fs.length := (List.getElem?_eq_some_iff.mp (gp h3)).1
  have g3 : ∀ {M pc : Nat} {tl : List (Nat × AI)} {L : LV} {S : List Value} {h' : AH} {z : Int}, h'.1 q = some (6, fs) → Rt σ M tl L (.int (nI n) :: S) h' Q → Rt σ M ((pc, (8, 39, z)) :: tl) L (.ref q :: S) h' Q := fun hh hr => rl_get hh f1 (by rw [f1']; exact gp h3) hr
  have v1 : (am_set h q1 (20, (l1.map Value.int).set n (.int w))).1 q = some (6, fs) := by rw [am_set_ne n16.symm]; exact x6
  have v2 : (am_set (am_set h q1 (20, (l1.map Value.int).set n (.int w))) q2 (20, (l2.map Value.int).set n (.int t))).1 q = some (6, fs) := by rw [am_set_ne n26.symm]; exact v1
  have v3 : (am_set (am_set (am_set h q1 (20, (l1.map Value.int).set n (.int w))) q2 (20, (l2.map Value.int).set n (.int t))) q3 (20, (l3.map Value.int).set n (.int o))).1 q = some (6, fs) := by rw [am_set_ne n36.symm]; exact v2
  rw [head_81]
  refine rl_load rfl rfl (g3 x6 (rl_const (rl_icmpF (by show some (decide (nI 4 ≤ nI n)) = some false; rw [decide_eq_false (by rw [tx_le (by omega) (by omega)]; omega)]) ?_)))
  refine rl_load rfl rfl (rl_get x6 f2 (by rw [f2']; exact gp a1) (rl_load rfl rfl (g3 x6 (rl_load rfl rfl (rl_ast x1 rfl hi.1 (by rw [hi.2, List.length_map, y1]; exact hn) ?_)))))
  rw [hi.2]
  refine rl_load rfl rfl (rl_get v1 f3 (by rw [f3']; exact gp a2) (rl_load rfl rfl (g3 v1 (rl_load rfl rfl (rl_ast (by rw [am_set_ne n12.symm]; exact x2) rfl hi.1 (by rw [hi.2, List.length_map, y2]; exact hn) ?_)))))
  rw [hi.2]
  refine rl_load rfl rfl (rl_get v2 f4 (by rw [f4']; exact gp a3) (rl_load rfl rfl (g3 v2 (rl_load rfl rfl (rl_ast (by rw [am_set_ne n23.symm, am_set_ne n13.symm]; exact x3) rfl hi.1 (by rw [hi.2, List.length_map, y3]; exact hn) ?_)))))
  rw [hi.2]
  refine rl_load rfl rfl (rl_dup rfl (g3 v3 (rl_const (rl_bin rfl (rl_put v3 f1 (by rw [f1']; exact lf) (by rw [fw]; rfl) ?_)))))
  rw [f1', nI_suc (by omega), j81_48]
  exact rl_ret0 (H q1 q2 q3 l1 l2 l3 fs ⟨b1, b2, b3⟩ ⟨⟨x1, y1⟩, ⟨x2, y2⟩, x3, y3⟩ ⟨x6, lf⟩)
/-- what stays of the heap -/
theorem wgH_keep (h2 : T2 ad) {q1 q2 q3 : Nat} {l1 l2 l3 : List Int32} {fs : List Value} (hq : ad 6 e = some q) (b : ad 25 e = some q1 ∧ (ad 26 e = some q2 ∧ ad 27 e = some q3)) (x : (h.1 q1 = some (20, l1.map .int) ∧ l1.length = 4) ∧ ((h.1 q2 = some (20, l2.map .int) ∧ l2.length = 4) ∧ (h.1 q3 = some (20, l3.map .int) ∧ l3.length = 4))) (x6 : h.1 q = some (6, fs) ∧ 3 < fs.length) (hn : n < 4) :
    (∀ {c i p : Nat} {v : Value}, ¬ (c = 25 ∧ (i = e ∧ p = n)) → ¬ (c = 26 ∧ (i = e ∧ p = n)) → ¬ (c = 27 ∧ (i = e ∧ p = n)) → ¬ (c = 6 ∧ (i = e ∧ p = 3)) → At ad h c i p v → At ad (wgH h q1 q2 q3 q l1 l2 l3 fs n w t o) c i p v) ∧ ((At ad (wgH h q1 q2 q3 q l1 l2 l3 fs n w t o) 25 e n (.int w) ∧ At ad (wgH h q1 q2 q3 q l1 l2 l3 fs n w t o) 26 e n (.int t)) ∧ (At ad (wgH h q1 q2 q3 q l1 l2 l3 fs n w t o) 27 e n (.int o) ∧ At ad (wgH h q1 q2 q3 q l1 l2 l3 fs n w t o) 6 e 3 (.int (nI (n + 1))))) := by
  obtain ⟨⟨⟨⟨-, c6⟩, -⟩, ⟨-, c25⟩, ⟨-, c26⟩, -, c27⟩, -⟩ := wt_c
  obtain ⟨b1, b2, b3⟩ := b
  obtain ⟨⟨x1, y1⟩, ⟨x2, y2⟩, x3, y3⟩ := x
  obtain ⟨x6, lf⟩ := x6
  have n16 : q1 ≠ q := ref_ne h2 b1 hq (by omega) fun e => absurd e.1 (by omega)
  have n26 : q2 ≠ q := ref_ne h2 b2 hq (by omega) fun e => absurd e.1 (by omega)
  have n36 : q3 ≠ q := ref_ne h2 b3 hq (by omega) fun e => absurd e.1 (by omega)
  have n12 : q1 ≠ q2 := ref_ne h2 b1 b2 (by omega) fun e => absurd e.1 (by omega)
  have n13 : q1 ≠ q3 := ref_ne h2 b1 b3 (by omega) fun e => absurd e.1 (by omega)
  have n23 : q2 ≠ q3 := ref_ne h2 b2 b3 (by omega) fun e => absurd e.1 (by omega)
  have z2 : (am_set h q1 (20, (l1.map Value.int).set n (.int w))).1 q2 = some (20, l2.map .int) := by rw [am_set_ne n12.symm]; exact x2
  have z3 : (am_set (am_set h q1 (20, (l1.map Value.int).set n (.int w))) q2 (20, (l2.map Value.int).set n (.int t))).1 q3 = some (20, l3.map .int) := by rw [am_set_ne n23.symm, am_set_ne n13.symm]; exact x3
  have z6 : (am_set (am_set (am_set h q1 (20, (l1.map Value.int).set n (.int w))) q2 (20, (l2.map Value.int).set n (.int t))) q3 (20, (l3.map Value.int).set n (.int o))).1 q = some (6, fs) := by rw [am_set_ne n36.symm, am_set_ne n26.symm, am_set_ne n16.symm]; exact x6
  have k1 := fun {c i p : Nat} {v : Value} => at_set_ne (b := n) (V := .int w) (c' := c) (i' := i) (p' := p) (W := v) h2 b1 (by omega) x1
  have k2 := fun {c i p : Nat} {v : Value} => at_set_ne (b := n) (V := .int t) (c' := c) (i' := i) (p' := p) (W := v) h2 b2 (by omega) z2
  have k3 := fun {c i p : Nat} {v : Value} => at_set_ne (b := n) (V := .int o) (c' := c) (i' := i) (p' := p) (W := v) h2 b3 (by omega) z3
  have k6 := fun {c i p : Nat} {v : Value} => at_set_ne (b := 3) (V := .int (nI (n + 1))) (c' := c) (i' := i) (p' := p) (W := v) h2 hq (by omega) z6
  have s1 := at_set_eq (h := h) (k := 20) (vs := l1.map Value.int) (b := n) (V := .int w) b1 (by rw [List.length_map, y1]; exact hn)
  have s2 := at_set_eq (h := am_set h q1 (20, (l1.map Value.int).set n (.int w))) (k := 20) (vs := l2.map Value.int) (b := n) (V := .int t) b2 (by rw [List.length_map, y2]; exact hn)
  have s3 := at_set_eq (h := am_set (am_set h q1 (20, (l1.map Value.int).set n (.int w))) q2 (20, (l2.map Value.int).set n (.int t))) (k := 20) (vs := l3.map Value.int) (b := n) (V := .int o) b3 (by rw [List.length_map, y3]; exact hn)
  refine ⟨fun {c i p v} h25 h26 h27 h6 ha => (k6 h6).mpr ((k3 h27).mpr ((k2 h26).mpr ((k1 h25).mpr ha))), ⟨?_, ?_⟩, ?_, ?_⟩
  · exact (k6 (fun e => absurd e.1 (by omega))).mpr ((k3 (fun e => absurd e.1 (by omega))).mpr ((k2 (fun e => absurd e.1 (by omega))).mpr s1))
  · exact (k6 (fun e => absurd e.1 (by omega))).mpr ((k3 (fun e => absurd e.1 (by omega))).mpr s2)
  · exact (k6 (fun e => absurd e.1 (by omega))).mpr s3
  · exact at_set_eq hq lf
theorem four_ok' {q : Nat} {x y z : Int32} {M : Nat} (hm : 4 ≤ mL M) : am_ok [.ref q, .int x, .int y, .int z] M = true := by
  unfold am_ok
  rw [decide_eq_true (show ([.ref q, .int x, .int y, .int z] : List Value).length ≤ mL M from hm)]
  rfl
theorem txW_in {v lo hi : Int32} (h : txW v lo hi = 1) : i2n lo ≤ i2n v ∧ i2n v ≤ i2n hi := by
  unfold txW at h
  by_cases e : lo ≤ v ∧ v ≤ hi
  · rw [i_le, i_le] at e
    exact e
  · rw [if_neg e] at h
    exact absurd h (by decide)
theorem wgV_rng {x : Int32} (hw : txW w (Int32.ofInt 1) (Int32.ofInt 3000) = 1) (hx : 2147483598 ≤ i2n x ∧ i2n x ≤ 2147483698) : 2147483649 ≤ i2n (wgV w x) ∧ i2n (wgV w x) ≤ 2147486698 := by
  have a1 : i2n (Int32.ofInt 1) = 2147483649 := by decide +kernel
  have a3 : i2n (Int32.ofInt 3000) = 2147486648 := by decide +kernel
  have h1 := txW_in hw
  rw [a1, a3] at h1
  unfold wgV
  by_cases e : Int32.ofInt 1 < w - x
  · rw [if_pos e]
    rw [i_lt, a1, kb_sub] at e
    rw [kb_sub]
    omega
  · rw [if_neg e, a1]
    omega
theorem X_weigh (hT : TS ad h np ex ho) (hox : ad 10 0 = some ox) (hs : WgS ad h N T d) : Rt σ 79 (codeOf 79) (am_args 0 [.ref ox, .int k, .int t, .int w, .int o]) [] h (fun v h' => ∃ y, v = some (.int y) ∧ WgP ad k t w o y h') := by
  obtain ⟨⟨⟨⟨s1, s2⟩, s3⟩, ⟨s4, s5⟩, ⟨s6, s7⟩, s8, s9⟩, s10, s11, s12, s13⟩ := hs
  obtain ⟨⟨⟨⟨f7, f7'⟩, f6, f6'⟩, ⟨f30, f30'⟩, ⟨f24, f24'⟩, -⟩, -⟩ := wg_f
  obtain ⟨⟨⟨⟨f39, f39'⟩, -⟩, -⟩, -⟩ := wt_f
  obtain ⟨⟨⟨f11, f11'⟩, -⟩, -⟩ := wd_f
  obtain ⟨⟨⟨⟨c10, c10'⟩, -⟩, -⟩, -⟩ := pm_c
  obtain ⟨⟨⟨⟨c6, c6'⟩, c5, c5'⟩, -⟩, -⟩ := wt_c
  obtain ⟨⟨⟨⟨c4, c4'⟩, -⟩, -⟩, -⟩ := wg_c
  obtain ⟨⟨⟨m63, m32⟩, m80, m81⟩, -⟩ := ml_wg
  obtain ⟨vx, x1, x2⟩ := at_kind hT.1 (by omega) (by omega) s6 hox
  rw [c10'] at x1
  have hcom : (((N ≤ 60 ∧ T ≤ 6) ∧ d < 400) ∧ (At ad h 11 0 0 (.int (nI d)) ∧ (At ad h 11 0 33 (.int (nI N)) ∧ At ad h 11 0 11 (.int (nI T))))) := ⟨⟨⟨s1, s2⟩, s3⟩, s7, s8, s9⟩
  have bad : ∀ (L : LV), WgB N T k t w o → Rt σ 79 (jump 79 43) L [] h (fun v h' => ∃ y, v = some (.int y) ∧ WgP ad k t w o y h') := fun L hb => by
    rw [j79_43]
    exact rl_const (rl_ret1 ⟨_, rfl, N, T, d, hcom, Or.inl ⟨⟨rfl, s13⟩, hb⟩⟩)
  rw [head_79]
  refine rl_load rfl rfl (rl_load rfl rfl (rl_callv (as := [.int k]) (r := []) spec_50 rfl rfl x1 (by show 0 ≤ 8; omega) (two_ok m63) (X_objAt code_63 f7 f7' (by omega) c5' (by omega) hT hox s4 (by omega) ?_ ?_)))
  case refine_2 =>
    intro hno
    refine rl_store rfl (rl_load rfl rfl (rl_load rfl rfl (rl_callv (as := [.int t]) (r := []) spec_26 rfl rfl x1 (by show 0 ≤ 8; omega) (two_ok m32) (X_objAt code_32 f6 f6' (by omega) c4' (by omega) hT hox s5 (by omega) ?_ ?_))))
    · intro s q _ _ _
      exact rl_store rfl (rl_load (v := .null) rfl rfl (rl_nulT0 (bad _ (Or.inl (Or.inl hno)))))
    · intro _
      exact rl_store rfl (rl_load (v := .null) rfl rfl (rl_nulT0 (bad _ (Or.inl (Or.inl hno)))))
  intro e q5 e1 e2 e3
  refine rl_store rfl (rl_load rfl rfl (rl_load rfl rfl (rl_callv (as := [.int t]) (r := []) spec_26 rfl rfl x1 (by show 0 ≤ 8; omega) (two_ok m32) (X_objAt code_32 f6 f6' (by omega) c4' (by omega) hT hox s5 (by omega) ?_ ?_))))
  case refine_2 =>
    intro hno
    exact rl_store rfl (rl_load (v := .ref q5) rfl rfl (rl_nulF0 (rl_load (v := .null) rfl rfl (rl_nulT0 (bad _ (Or.inl (Or.inr hno)))))))
  intro s q4 g1 g2 g3
  refine rl_store rfl (rl_load (v := .ref q5) rfl rfl (rl_nulF0 (rl_load (v := .ref q4) rfl rfl (rl_nulF0 (rl_load rfl rfl (rl_const (rl_const (within_ok (by show 0 ≤ 8; omega) ?_))))))))
  rcases txW_01 w (Int32.ofInt 1) (Int32.ofInt 3000) with w1 | w1
  · exact rl_ifT (by show icond 0 (txW w (Int32.ofInt 1) (Int32.ofInt 3000)) 0 = _; rw [w1]; rfl) (bad _ (Or.inr (Or.inl w1)))
  refine rl_ifF (by show icond 0 (txW w (Int32.ofInt 1) (Int32.ofInt 3000)) 0 = _; rw [w1]; rfl) (rl_load rfl rfl (isDay_x (by show 0 ≤ 8; omega) ?_))
  rcases txW_01 o (nI 0) (nI 399) with o1 | o1
  · exact rl_ifF (by show icond 1 (txW o (nI 0) (nI 399)) 0 = _; rw [o1]; rfl) (bad _ (Or.inr (Or.inr o1)))
  refine rl_ifT (by show icond 1 (txW o (nI 0) (nI 399)) 0 = _; rw [o1]; rfl) ?_
  show Rt σ 79 (jump 79 46) _ _ _ _
  rw [j79_46]
  obtain ⟨x, ⟨dr1, dr2⟩, dr3⟩ := s12 s g1
  have hin : (((e < N ∧ k = nI e) ∧ (s < T ∧ t = nI s)) ∧ ((txW w (Int32.ofInt 1) (Int32.ofInt 3000) = 1 ∧ txW o (nI 0) (nI 399) = 1) ∧ At ad h 61 0 s (.int x))) := ⟨⟨⟨e1, e2⟩, g1, g2⟩, ⟨w1, o1⟩, dr2⟩
  have not : ∀ (L : LV), (At ad h 74 0 e (.int (Int32.ofInt (-1))) ∨ ∃ dl n ds, (((At ad h 74 0 e (.int (nI dl)) ∧ At ad h 77 0 e (.int (nI n))) ∧ (dl < 400 ∧ n ≤ 4)) ∧ ∀ j, j < n → At ad h 80 0 (4 * e + j) (.int (ds j))) ∧ WgN d dl n o ds) → Rt σ 79 (jump 79 77) L [] h (fun v h' => ∃ y, v = some (.int y) ∧ WgP ad k t w o y h') := fun L hc => by
    rw [j79_77]
    refine rl_const (rl_ret1 ⟨_, rfl, N, T, d, hcom, Or.inr ⟨e, s, x, hin, ?_⟩⟩)
    rcases hc with hc | ⟨dl, n, ds, hc1, hc2⟩
    · exact Or.inl ⟨⟨rfl, s13⟩, hc⟩
    · exact Or.inr ⟨dl, n, ds, ds, ds, hc1, Or.inl ⟨⟨rfl, s13⟩, hc2⟩⟩
  rcases s11 e e1 with ⟨l1, l2⟩ | ⟨q, dl, n, ⟨l1, l2⟩, ⟨l3, l4⟩, ⟨l5, ln⟩, l6, l7⟩
  · refine rl_load rfl rfl (ra_get hT.1 (by omega) (by omega) e3 (by rw [f30']; exact l1) (by rw [c5']; exact f30) (rl_store rfl (rl_load (v := .null) rfl rfl (rl_nulT0 (not _ (Or.inl l2))))))
  obtain ⟨n', ws, ts, ds, hw⟩ := s13 e (by rw [l2]; exact fun e => by cases e)
  have hw0 := hw
  obtain ⟨⟨w60, w4⟩, w3, ww, wt, wd⟩ := hw
  have en : n = n' := nI_inj (by omega) (by omega) (at_int l6 w3)
  subst en
  have hfct : (((At ad h 74 0 e (.int (nI dl)) ∧ At ad h 77 0 e (.int (nI n))) ∧ (dl < 400 ∧ n ≤ 4)) ∧ ∀ j, j < n → At ad h 80 0 (4 * e + j) (.int (ds j))) := ⟨⟨⟨l4, l7⟩, l5, w4⟩, fun j hj => (wd j hj).1.2⟩
  refine rl_load rfl rfl (ra_get hT.1 (by omega) (by omega) e3 (by rw [f30']; exact l1) (by rw [c5']; exact f30) (rl_store rfl (rl_load (v := .ref q) rfl rfl (rl_nulF0 (rl_load rfl rfl (rl_load rfl rfl (ra_get hT.1 (by omega) (by omega) hox (by rw [f11']; exact s6) (by rw [c10']; exact f11) ?_)))))))
  by_cases b1 : nI d < o
  · exact rl_icmpT (by show some (decide (nI d < o)) = some true; rw [decide_eq_true b1]) (not _ (Or.inr ⟨dl, n, ds, hfct, Or.inl b1⟩))
  obtain ⟨vq, xq, -⟩ := at_kind hT.1 (by omega) (by omega) l6 l2
  rw [c6'] at xq
  refine rl_icmpF (by show some (decide (nI d < o)) = some false; rw [decide_eq_false b1]) (rl_load (v := .ref q) rfl rfl (rl_load rfl rfl (rl_callv (as := [.int o]) (r := []) spec_59 rfl rfl xq (by show 0 ≤ 8; omega) (two_ok m80) (X_mbt hT l2 w4 l5 l3 l6 (fun j hj => (wd j hj).1.1) ?_ ?_))))
  case refine_2 =>
    intro b2
    exact rl_ifF rfl (not _ (Or.inr ⟨dl, n, ds, hfct, Or.inr b2⟩))
  intro b2
  have hno : ¬ WgN d dl n o ds := fun h => h.elim b1 b2
  refine rl_ifT rfl ?_
  show Rt σ 79 (jump 79 80) _ _ _ _
  rw [j79_80]
  refine rl_load (v := .ref q) rfl rfl (ra_get hT.1 (by omega) (by omega) l2 (by rw [f39']; exact l6) (by rw [c6']; exact f39) (rl_const ?_))
  by_cases hn4 : n < 4
  case neg =>
    refine rl_icmpF (by show some (decide (nI n < nI 4)) = some false; rw [decide_eq_false (by rw [tx_lt (by omega) (by omega)]; exact hn4)]) (rl_const (rl_ret1 ⟨_, rfl, N, T, d, hcom, Or.inr ⟨e, s, x, hin, Or.inr ⟨dl, n, ds, ds, ds, hfct, Or.inr ⟨hno, Or.inl ⟨⟨rfl, s13⟩, by omega⟩⟩⟩⟩⟩))
  refine rl_icmpT (by show some (decide (nI n < nI 4)) = some true; rw [decide_eq_true ((tx_lt (by omega) (by omega)).mpr hn4)]) ?_
  show Rt σ 79 (jump 79 92) _ _ _ _
  rw [j79_92]
  refine rl_load (v := .ref q) rfl rfl (rl_load rfl rfl (rl_const (rl_load rfl rfl (rl_load (v := .ref q4) rfl rfl (ra_get hT.1 (by omega) (by omega) g3 (by rw [f24']; exact dr1) (by rw [c4']; exact f24) (rl_bin rfl (rl_max (by show 2 ≤ 8; omega) (rl_load rfl rfl (rl_callv (as := [.int t, .int (wgV w x), .int o]) (r := []) spec_60 rfl rfl xq (by show 0 ≤ 8; omega) (four_ok' m81) (X_addW hT l2 hn4 l6 fun q1 q2 q3 r1 r2 r3 fs hb hx hx6 => ?_))))))))))
  obtain ⟨keep, ⟨z1, z2⟩, z3, z4⟩ := wgH_keep (w := wgV w x) (t := t) (o := o) hT.2.1 l2 hb hx hx6 hn4
  have a0 : i2n (nI 0) = 2147483648 := by decide +kernel
  have a399 : i2n (nI 399) = 2147484047 := by decide +kernel
  have ho := txW_in o1
  rw [a0, a399] at ho
  have ht : 2147483648 ≤ i2n t ∧ i2n t ≤ 2147483653 := by
    rw [g2, nI_ok (by omega)]
    omega
  have kr : ∀ {c i p : Nat} {v : Value}, c ≠ 25 → c ≠ 26 → c ≠ 27 → c ≠ 6 → At ad h c i p v → At ad (wgH h q1 q2 q3 q r1 r2 r3 fs n (wgV w x) t o) c i p v := fun {c i p v} h1 h2 h3 h4 ha => keep (fun e => h1 e.1) (fun e => h2 e.1) (fun e => h3 e.1) (fun e => h4 e.1) ha
  refine rl_const (rl_ret1 ⟨_, rfl, N, T, d, ⟨hcom.1, kr (by omega) (by omega) (by omega) (by omega) s7, kr (by omega) (by omega) (by omega) (by omega) s8, kr (by omega) (by omega) (by omega) (by omega) s9⟩, Or.inr ⟨e, s, x, ⟨hin.1, hin.2.1, kr (by omega) (by omega) (by omega) (by omega) dr2⟩, Or.inr ⟨dl, n, ws, ts, ds, ⟨⟨⟨kr (by omega) (by omega) (by omega) (by omega) l4, kr (by omega) (by omega) (by omega) (by omega) l7⟩, l5, w4⟩, fun j hj => kr (by omega) (by omega) (by omega) (by omega) (wd j hj).1.2⟩, Or.inr ⟨hno, Or.inr ⟨⟨rfl, hn4⟩, ⟨⟨fun e' he' h6' => ?_, ⟨w60, hn4⟩, z4⟩, ⟨⟨⟨fun j hj => ?_, fun j hj => ?_, fun j hj => ?_⟩, z1, z2, z3⟩, wgV_rng w1 dr3, ht, ho⟩⟩⟩⟩⟩⟩⟩)
  · obtain ⟨n', ws', ts', ds', p0, p3, pw, pt, pd⟩ := s13 e' h6'
    refine ⟨n', ws', ts', ds', p0, keep (fun e => absurd e.1 (by omega)) (fun e => absurd e.1 (by omega)) (fun e => absurd e.1 (by omega)) (fun e => he' e.2.1) p3, fun j hj => ⟨⟨keep (fun e => he' e.2.1) (fun e => absurd e.1 (by omega)) (fun e => absurd e.1 (by omega)) (fun e => absurd e.1 (by omega)) (pw j hj).1.1, kr (by omega) (by omega) (by omega) (by omega) (pw j hj).1.2⟩, (pw j hj).2⟩, fun j hj => ⟨⟨keep (fun e => absurd e.1 (by omega)) (fun e => he' e.2.1) (fun e => absurd e.1 (by omega)) (fun e => absurd e.1 (by omega)) (pt j hj).1.1, kr (by omega) (by omega) (by omega) (by omega) (pt j hj).1.2⟩, (pt j hj).2⟩, fun j hj => ⟨⟨keep (fun e => absurd e.1 (by omega)) (fun e => absurd e.1 (by omega)) (fun e => he' e.2.1) (fun e => absurd e.1 (by omega)) (pd j hj).1.1, kr (by omega) (by omega) (by omega) (by omega) (pd j hj).1.2⟩, (pd j hj).2⟩⟩
  · exact ⟨⟨keep (fun e => absurd e.2.2 (by omega)) (fun e => absurd e.1 (by omega)) (fun e => absurd e.1 (by omega)) (fun e => absurd e.1 (by omega)) (ww j hj).1.1, kr (by omega) (by omega) (by omega) (by omega) (ww j hj).1.2⟩, (ww j hj).2⟩
  · exact ⟨⟨keep (fun e => absurd e.1 (by omega)) (fun e => absurd e.2.2 (by omega)) (fun e => absurd e.1 (by omega)) (fun e => absurd e.1 (by omega)) (wt j hj).1.1, kr (by omega) (by omega) (by omega) (by omega) (wt j hj).1.2⟩, (wt j hj).2⟩
  · exact ⟨⟨keep (fun e => absurd e.1 (by omega)) (fun e => absurd e.1 (by omega)) (fun e => absurd e.2.2 (by omega)) (fun e => absurd e.1 (by omega)) (wd j hj).1.1, kr (by omega) (by omega) (by omega) (by omega) (wd j hj).1.2⟩, (wd j hj).2⟩
/-! the model's call -/
theorem isLet_m {f fl N M M' pc sp : Nat} {tl : List (Nat × AI)} {L : LV} {S : List Value} {c : Int} {fm : List Value} (hc : codeOf M' = [(0, (1, 1, 0)), (1, (0, 0, 0)), (2, (1, 0, 2)), (3, (8, f, 0)), (6, (0, 0, 1)), (7, (4, 1, 0)), (8, (12, 125, 0)), (11, (13, 4, 0))]) (hsp : spec sp = (1, 1, [(11, M')])) (hml : 2 ≤ mL M') (hf : (fks f).contains 11 = true) (hf' : fpos f = fl) (hm : h.1 m = some (11, fm)) (hx : fm[fl]? = some (.int (nI N))) (h4 : am_w S ≤ 8) (hr : Rt σ M tl L (.int (txW k (nI 0) (nI N - Int32.ofInt 1)) :: S) h Q) : Rt σ M ((pc, (12, sp, c)) :: tl) L (.int k :: .ref m :: S) h Q := by
  refine rl_callv (as := [.int k]) (r := S) hsp rfl rfl hm h4 (two_ok hml) ?_
  rw [hc]
  exact rl_load rfl rfl (rl_const (rl_load rfl rfl (rl_get hm hf (by rw [hf']; exact hx) (rl_const (rl_bin rfl (min_ok (by show 0 ≤ 8; omega) (rl_ret4 (txW_01 _ _ _) hr)))))))
/-- the heap with a weighing more on the model's side -/
noncomputable def wgM (h : AH) (q1 q2 q3 q : Nat) (l1 l2 l3 l : List Int32) (p e n : Nat) (t w o : Int32) : AH := am_set (am_set (am_set (am_set h q1 (20, (l1.map .int).set p (.int t))) q2 (20, (l2.map .int).set p (.int w))) q3 (20, (l3.map .int).set p (.int o))) q (20, (l.map .int).set e (.int (nI (n + 1))))
theorem wgM_keep (h2 : T2 ad) {q1 q2 q3 p : Nat} {l1 l2 l3 l : List Int32} (hq : ad 77 0 = some q) (b : ad 78 0 = some q1 ∧ (ad 79 0 = some q2 ∧ ad 80 0 = some q3)) (x : (h.1 q1 = some (20, l1.map .int) ∧ l1.length = 240) ∧ ((h.1 q2 = some (20, l2.map .int) ∧ l2.length = 240) ∧ (h.1 q3 = some (20, l3.map .int) ∧ l3.length = 240))) (x6 : h.1 q = some (20, l.map .int) ∧ l.length = 60) (hp : p < 240) (he : e < 60) :
    (∀ {c i p' : Nat} {v : Value}, ¬ (c = 78 ∧ (i = 0 ∧ p' = p)) → ¬ (c = 79 ∧ (i = 0 ∧ p' = p)) → ¬ (c = 80 ∧ (i = 0 ∧ p' = p)) → ¬ (c = 77 ∧ (i = 0 ∧ p' = e)) → At ad h c i p' v → At ad (wgM h q1 q2 q3 q l1 l2 l3 l p e n t w o) c i p' v) ∧ ((At ad (wgM h q1 q2 q3 q l1 l2 l3 l p e n t w o) 78 0 p (.int t) ∧ At ad (wgM h q1 q2 q3 q l1 l2 l3 l p e n t w o) 79 0 p (.int w)) ∧ At ad (wgM h q1 q2 q3 q l1 l2 l3 l p e n t w o) 80 0 p (.int o)) := by
  obtain ⟨-, ⟨⟨-, k77⟩, -, k78⟩, ⟨-, k79⟩, -, k80⟩ := wt_c
  obtain ⟨b1, b2, b3⟩ := b
  obtain ⟨⟨x1, y1⟩, ⟨x2, y2⟩, x3, y3⟩ := x
  obtain ⟨x6, lf⟩ := x6
  have n16 : q1 ≠ q := ref_ne h2 b1 hq (by omega) fun e => absurd e.1 (by omega)
  have n26 : q2 ≠ q := ref_ne h2 b2 hq (by omega) fun e => absurd e.1 (by omega)
  have n36 : q3 ≠ q := ref_ne h2 b3 hq (by omega) fun e => absurd e.1 (by omega)
  have n12 : q1 ≠ q2 := ref_ne h2 b1 b2 (by omega) fun e => absurd e.1 (by omega)
  have n13 : q1 ≠ q3 := ref_ne h2 b1 b3 (by omega) fun e => absurd e.1 (by omega)
  have n23 : q2 ≠ q3 := ref_ne h2 b2 b3 (by omega) fun e => absurd e.1 (by omega)
  have z2 : (am_set h q1 (20, (l1.map Value.int).set p (.int t))).1 q2 = some (20, l2.map .int) := by rw [am_set_ne n12.symm]; exact x2
  have z3 : (am_set (am_set h q1 (20, (l1.map Value.int).set p (.int t))) q2 (20, (l2.map Value.int).set p (.int w))).1 q3 = some (20, l3.map .int) := by rw [am_set_ne n23.symm, am_set_ne n13.symm]; exact x3
  have z6 : (am_set (am_set (am_set h q1 (20, (l1.map Value.int).set p (.int t))) q2 (20, (l2.map Value.int).set p (.int w))) q3 (20, (l3.map Value.int).set p (.int o))).1 q = some (20, l.map .int) := by rw [am_set_ne n36.symm, am_set_ne n26.symm, am_set_ne n16.symm]; exact x6
  have k1 := fun {c i p' : Nat} {v : Value} => at_set_ne (b := p) (V := .int t) (c' := c) (i' := i) (p' := p') (W := v) h2 b1 (by omega) x1
  have k2 := fun {c i p' : Nat} {v : Value} => at_set_ne (b := p) (V := .int w) (c' := c) (i' := i) (p' := p') (W := v) h2 b2 (by omega) z2
  have k3 := fun {c i p' : Nat} {v : Value} => at_set_ne (b := p) (V := .int o) (c' := c) (i' := i) (p' := p') (W := v) h2 b3 (by omega) z3
  have k6 := fun {c i p' : Nat} {v : Value} => at_set_ne (b := e) (V := .int (nI (n + 1))) (c' := c) (i' := i) (p' := p') (W := v) h2 hq (by omega) z6
  have s1 := at_set_eq (h := h) (k := 20) (vs := l1.map Value.int) (b := p) (V := .int t) b1 (by rw [List.length_map, y1]; exact hp)
  have s2 := at_set_eq (h := am_set h q1 (20, (l1.map Value.int).set p (.int t))) (k := 20) (vs := l2.map Value.int) (b := p) (V := .int w) b2 (by rw [List.length_map, y2]; exact hp)
  have s3 := at_set_eq (h := am_set (am_set h q1 (20, (l1.map Value.int).set p (.int t))) q2 (20, (l2.map Value.int).set p (.int w))) (k := 20) (vs := l3.map Value.int) (b := p) (V := .int o) b3 (by rw [List.length_map, y3]; exact hp)
  refine ⟨fun {c i p' v} h78 h79 h80 h77 ha => (k6 h77).mpr ((k3 h80).mpr ((k2 h79).mpr ((k1 h78).mpr ha))), ⟨?_, ?_⟩, ?_⟩
  · exact (k6 (fun e => absurd e.1 (by omega))).mpr ((k3 (fun e => absurd e.1 (by omega))).mpr ((k2 (fun e => absurd e.1 (by omega))).mpr s1))
  · exact (k6 (fun e => absurd e.1 (by omega))).mpr ((k3 (fun e => absurd e.1 (by omega))).mpr s2)
  · exact (k6 (fun e => absurd e.1 (by omega))).mpr s3
theorem wg_less {x : Int32} : (if w - x < Int32.ofInt 1 then Int32.ofInt 1 else w - x) = wgV w x := by
  have a1 : i2n (Int32.ofInt 1) = 2147483649 := by decide +kernel
  unfold wgV
  by_cases e : Int32.ofInt 1 < w - x
  · rw [if_pos e, if_neg (by rw [i_lt] at e ⊢; omega)]
  · rw [if_neg e]
    by_cases e2 : w - x < Int32.ofInt 1
    · rw [if_pos e2]
    · rw [if_neg e2]
      rw [i_lt] at e e2
      exact i2n_inj (by omega)
theorem M_weigh {y : Int32} (hT : TS ad1 h1 np ex ho) (hT2 : T2 ad) (hup : ∀ c i q, c < 1000 → ad c i = some q → ad1 c i = some q) (hex : ∀ c, sgl c = true → ad c 0 ≠ none) (hm : ad 11 0 = some m) (hP : WgP ad k t w o y h1) : Rt σ 215 (codeOf 215) (am_args 0 [.ref m, .int k, .int t, .int w, .int o]) [] h1 (fun v h' => v = some (.int y) ∧ RLw ad h') := by
  obtain ⟨N, T, d, ⟨⟨⟨s1, s2⟩, s3⟩, s7, s8, s9⟩, hP⟩ := hP
  obtain ⟨-, -, ⟨⟨⟨f149, f149'⟩, f139, f139'⟩, ⟨f111, f111'⟩, f98, f98'⟩, ⟨f115, f115'⟩, f116, f116'⟩ := wg_f
  obtain ⟨-, ⟨⟨f114, f114'⟩, -⟩, f117, f117'⟩ := wt_f
  obtain ⟨-, -, f140, f140'⟩ := wd_f
  obtain ⟨⟨⟨-, a74, k74⟩, a61, k61⟩, -, -, ⟨⟨t40, t18⟩, t44, t45⟩, ⟨g78, g79⟩, g74, g61⟩ := wg_c
  obtain ⟨-, ⟨⟨a77, k77⟩, a78, k78⟩, ⟨a79, k79⟩, a80, k80⟩ := wt_c
  obtain ⟨-, ⟨⟨t43, t46⟩, -⟩, ⟨g77, g80⟩, -⟩ := wt_t
  obtain ⟨-, ⟨m200, m178⟩, m201⟩ := ml_wg
  obtain ⟨⟨⟨c11, c11'⟩, -⟩, -⟩ := m_cls
  have up := fun {c i p : Nat} {v : Value} (hc : c < 1000) (ha : At ad h1 c i p v) => at_up (ad' := ad1) hup hc ha
  have hm1 := hup 11 0 m (by omega) hm
  obtain ⟨fm, xm, -⟩ := at_kind hT.1 (by omega) (by omega) (up (by omega) s7) hm1
  rw [c11'] at xm
  have gp : ∀ {p : Nat} {v : Value}, At ad1 h1 11 0 p v → fm[p]? = some v := fun {p v} ha => by
    obtain ⟨fs', z1, z2⟩ := at_kind hT.1 (by omega) (by omega) ha hm1
    rw [c11', xm] at z1
    cases z1
    exact z2
  have row : ∀ {c fl : Nat}, c < 1000 → sgl c = true → ct_at 11 fl = some (7, c, 0) → ∃ q, (ad c 0 = some q ∧ ad1 c 0 = some q) ∧ fm[fl]? = some (.ref q) := fun {c fl} hc hg ht => by
    obtain ⟨q, hq⟩ := ne_some (e := 0) (hex c hg)
    obtain ⟨q', z1, z2⟩ := fld_sgl hT (by omega) c11 ht hm1
    have := hup c 0 q hc hq
    rw [z2] at this
    cases this
    exact ⟨_, ⟨hq, hup c 0 _ hc hq⟩, gp z1⟩
  obtain ⟨q77, ⟨b77, b77'⟩, p77⟩ := row (by omega) g77 t43
  obtain ⟨q78, ⟨b78, b78'⟩, p78⟩ := row (by omega) g78 t44
  obtain ⟨q79, ⟨b79, b79'⟩, p79⟩ := row (by omega) g79 t45
  obtain ⟨q80, ⟨b80, b80'⟩, p80⟩ := row (by omega) g80 t46
  obtain ⟨q74, ⟨b74, b74'⟩, p74⟩ := row (by omega) g74 t40
  obtain ⟨q61, ⟨b61, b61'⟩, p61⟩ := row (by omega) g61 t18
  have bad : ∀ (L : LV), WgB N T k t w o → Rt σ 215 (jump 215 35) L [] h1 (fun v h' => v = some (.int y) ∧ RLw ad h') := fun L hb => by
    rw [j215_35]
    refine rl_const (rl_ret1 ?_)
    rcases hP with ⟨⟨rfl, hr⟩, -⟩ | ⟨e, s, x, ⟨⟨⟨e1, e2⟩, g1, g2⟩, ⟨w1, o1⟩, -⟩, -⟩
    · exact ⟨rfl, hr⟩
    · rcases hb with hb | hb
      · rcases hb with hb | hb
        · exact absurd e2 (hb e e1)
        · exact absurd g2 (hb s g1)
      · rcases hb with hb | hb
        · rw [w1] at hb
          exact absurd hb (by decide)
        · rw [o1] at hb
          exact absurd hb (by decide)
  rw [head_215]
  refine rl_load rfl rfl (rl_load rfl rfl (isLet_m code_200 spec_148 m200 f149 f149' xm (gp (up (by omega) s8)) (by show 0 ≤ 8; omega) ?_))
  rcases txW_len (k := k) (show N < 2147483648 by omega) with ⟨e, e1, e2, e3⟩ | ⟨e3, e4⟩
  case inr => exact rl_ifT (by rw [e3]; rfl) (bad _ (Or.inl (Or.inl e4)))
  refine rl_ifF (by rw [e3]; rfl) (rl_load rfl rfl (rl_load rfl rfl (isLet_m code_178 spec_134 m178 f139 f139' xm (gp (up (by omega) s9)) (by show 0 ≤ 8; omega) ?_)))
  rcases txW_len (k := t) (show T < 2147483648 by omega) with ⟨s, u1, u2, u3⟩ | ⟨u3, u4⟩
  case inr => exact rl_ifT (by rw [u3]; rfl) (bad _ (Or.inl (Or.inr u4)))
  refine rl_ifF (by rw [u3]; rfl) (rl_load rfl rfl (rl_const (rl_const (min_ok (by show 0 ≤ 8; omega) ?_))))
  rcases txW_01 w (Int32.ofInt 1) (Int32.ofInt 3000) with w1 | w1
  · exact rl_ifT (by show icond 0 (txW w (Int32.ofInt 1) (Int32.ofInt 3000)) 0 = _; rw [w1]; rfl) (bad _ (Or.inr (Or.inl w1)))
  refine rl_ifF (by show icond 0 (txW w (Int32.ofInt 1) (Int32.ofInt 3000)) 0 = _; rw [w1]; rfl) (rl_load rfl rfl (isDay_m (by show 0 ≤ 8; omega) ?_))
  rcases txW_01 o (nI 0) (nI 399) with o1 | o1
  · exact rl_ifF (by show icond 1 (txW o (nI 0) (nI 399)) 0 = _; rw [o1]; rfl) (bad _ (Or.inr (Or.inr o1)))
  refine rl_ifT (by show icond 1 (txW o (nI 0) (nI 399)) 0 = _; rw [o1]; rfl) ?_
  show Rt σ 215 (jump 215 38) _ _ _ _
  rw [j215_38]
  rcases hP with ⟨-, hb⟩ | ⟨e', s', x, ⟨⟨⟨e1', e2'⟩, u1', u2'⟩, -, dr⟩, hP⟩
  · exfalso
    rcases hb with hb | hb
    · rcases hb with hb | hb
      · exact hb e e1 e2
      · exact hb s u1 u2
    · rcases hb with hb | hb
      · rw [w1] at hb
        exact absurd hb (by decide)
      · rw [o1] at hb
        exact absurd hb (by decide)
  have ee : e' = e := nI_inj (by omega) (by omega) (e2'.symm.trans e2)
  subst ee
  have es : s' = s := nI_inj (by omega) (by omega) (u2'.symm.trans u2)
  subst es
  subst e2
  subst u2
  obtain ⟨x77, h77⟩ := rowI_at (p := e') hT.1 a77 b77' k77 (by omega) (by omega)
  obtain ⟨x74, h74⟩ := rowI_at (p := e') hT.1 a74 b74' k74 (by omega) (by omega)
  have no : ∀ (L : LV), (y = Int32.ofInt (-3) ∧ RLw ad h1) → Rt σ 215 (jump 215 97) L [] h1 (fun v h' => v = some (.int y) ∧ RLw ad h') := fun L hy => by
    rw [j215_97]
    exact rl_const (rl_ret1 ⟨by rw [hy.1], hy.2⟩)
  have st : ∀ {tl : List (Nat × AI)} {L : LV} {pc : Nat} {c : Int}, Rt σ 215 tl L [.int (if x74 = Int32.ofInt (-1) then 1 else 0)] h1 (fun v h' => v = some (.int y) ∧ RLw ad h') → Rt σ 215 ((pc, (12, 149, c)) :: tl) L (.int (nI e') :: .ref m :: []) h1 (fun v h' => v = some (.int y) ∧ RLw ad h') := fun {tl L pc c} hr => by
    refine rl_callv (as := [.int (nI e')]) (r := []) spec_149 rfl rfl xm (by show 0 ≤ 8; omega) (two_ok m201) ?_
    rw [head_201]
    refine rl_load rfl rfl (rl_get xm f111 (by rw [f111']; exact p74) (rl_load rfl rfl (ra_ald hT.1 (by omega) (by omega) b74' h74 (by rw [k74]; rfl) (by omega) (rl_const ?_))))
    by_cases ex : x74 = Int32.ofInt (-1)
    · rw [if_pos ex] at hr
      refine rl_icmpF (by show some (decide (¬ x74 = Int32.ofInt (-1))) = some false; rw [decide_eq_false (fun h => h ex)]) (rl_const (rl_goto ?_))
      show Rt σ 201 (jump 201 15) _ _ _ _
      rw [j201_15]
      exact rl_ret4 (Or.inr rfl) hr
    · rw [if_neg ex] at hr
      refine rl_icmpT (by show some (decide (¬ x74 = Int32.ofInt (-1))) = some true; rw [decide_eq_true ex]) ?_
      show Rt σ 201 (jump 201 14) _ _ _ _
      rw [j201_14]
      refine rl_const ?_
      rw [j201_15]
      exact rl_ret4 (Or.inl rfl) hr
  refine rl_load rfl rfl (rl_get xm f114 (by rw [f114']; exact p77) (rl_load rfl rfl (ra_ald hT.1 (by omega) (by omega) b77' h77 (by rw [k77]; rfl) (by omega) (rl_store rfl (rl_load rfl rfl (rl_load rfl rfl (st ?_)))))))
  rcases hP with ⟨hy, hst⟩ | ⟨dl, n, ws, ts, ds, ⟨⟨⟨l4, l7⟩, l5, w4⟩, wd⟩, hP⟩
  · have := at_int h74 (up (by omega) hst)
    subst this
    rw [if_pos rfl]
    exact rl_ifT rfl (no _ hy)
  have e74 := at_int h74 (up (by omega) l4)
  subst e74
  have e77 := at_int h77 (up (by omega) l7)
  subst e77
  have ne1 : ¬ nI dl = Int32.ofInt (-1) := fun h => by
    have := congrArg i2n h
    rw [nI_ok (by omega), cw_m1] at this
    omega
  rw [if_neg ne1]
  have nb : WgN d dl n o ds → y = Int32.ofInt (-3) ∧ RLw ad h1 := fun hb => by
    rcases hP with ⟨hy, -⟩ | ⟨hno, -⟩
    · exact hy
    · exact absurd hb hno
  refine rl_ifF rfl (rl_load rfl rfl (rl_load rfl rfl (rl_get xm f111 (by rw [f111']; exact p74) (rl_load rfl rfl (ra_ald hT.1 (by omega) (by omega) b74' h74 (by rw [k74]; rfl) (by omega) ?_)))))
  by_cases b1 : o < nI dl
  · exact rl_icmpT (by show some (decide (o < nI dl)) = some true; rw [decide_eq_true b1]) (no _ (nb (Or.inr (Or.inl b1))))
  refine rl_icmpF (by show some (decide (o < nI dl)) = some false; rw [decide_eq_false b1]) (rl_load rfl rfl (rl_load rfl rfl (rl_get xm f140 (by rw [f140']; exact gp (up (by omega) s7)) ?_)))
  by_cases b2 : nI d < o
  · exact rl_icmpT (by show some (decide (nI d < o)) = some true; rw [decide_eq_true b2]) (no _ (nb (Or.inl b2)))
  refine rl_icmpF (by show some (decide (nI d < o)) = some false; rw [decide_eq_false b2]) (rl_load rfl rfl ?_)
  -- behind all that may refuse but the number of weighings
  have go : ∀ (L : LV), L = lv_put 5 (.int (nI n)) (am_args 0 [.ref m, .int (nI e'), .int (nI s'), .int w, .int o]) → ¬ (0 < n ∧ o ≤ ds (n - 1)) → Rt σ 215 (jump 215 100) L [] h1 (fun v h' => v = some (.int y) ∧ RLw ad h') := fun L hL b3 => by
    subst hL
    have hno : ¬ WgN d dl n o ds := fun h => h.elim b2 (fun h => h.elim b1 b3)
    rw [j215_100]
    refine rl_load rfl rfl (rl_const ?_)
    rcases hP with ⟨-, hb⟩ | ⟨-, ⟨⟨hy, hr⟩, h4⟩ | ⟨⟨hy, h4⟩, hw⟩⟩
    · exact absurd hb hno
    · subst h4
      exact rl_icmpF (by decide +kernel) (rl_const (rl_ret1 ⟨by rw [hy], hr⟩))
    · have hne : ¬ nI n = Int32.ofInt 4 := fun h => by
        have := nI_inj (by omega) (by omega) (show nI n = nI 4 from h)
        omega
      refine rl_icmpT (by show some (decide (¬ nI n = Int32.ofInt 4)) = some true; rw [decide_eq_true hne]) ?_
      show Rt σ 215 (jump 215 109) _ _ _ _
      rw [j215_109]
      obtain ⟨l1, x1, y1⟩ := row_of hT.1 a78 b78' k78 (by omega)
      obtain ⟨l2, x2, y2⟩ := row_of hT.1 a79 b79' k79 (by omega)
      obtain ⟨l3, x3, y3⟩ := row_of hT.1 a80 b80' k80 (by omega)
      obtain ⟨l, x6, y6⟩ := row_of hT.1 a77 b77' k77 (by omega)
      have he60 : e' < 60 := by omega
      have hp : 4 * e' + n < 240 := by omega
      have hi := nI_nn (show 4 * e' + n < 2147483648 by omega)
      have hie := nI_nn (show e' < 2147483648 by omega)
      have hT21 := hT.2.1
      have nm : ∀ {c q : Nat}, ad1 c 0 = some q → cdk c < 30 → c ≠ 11 → m ≠ q := fun {c q} hq hk hc => ref_ne hT21 hm1 hq (by omega) fun e => hc e.1.symm
      have n1 := nm b78' (by omega) (by omega)
      have n2 := nm b79' (by omega) (by omega)
      have n3 := nm b80' (by omega) (by omega)
      have n12 : q78 ≠ q79 := ref_ne hT21 b78' b79' (by omega) fun e => absurd e.1 (by omega)
      have n13 : q78 ≠ q80 := ref_ne hT21 b78' b80' (by omega) fun e => absurd e.1 (by omega)
      have n23 : q79 ≠ q80 := ref_ne hT21 b79' b80' (by omega) fun e => absurd e.1 (by omega)
      have n16 : q78 ≠ q77 := ref_ne hT21 b78' b77' (by omega) fun e => absurd e.1 (by omega)
      have n26 : q79 ≠ q77 := ref_ne hT21 b79' b77' (by omega) fun e => absurd e.1 (by omega)
      have n36 : q80 ≠ q77 := ref_ne hT21 b80' b77' (by omega) fun e => absurd e.1 (by omega)
      have v1 : (am_set h1 q78 (20, (l1.map Value.int).set (4 * e' + n) (.int (nI s')))).1 m = some (11, fm) := by rw [am_set_ne n1]; exact xm
      have v2 : (am_set (am_set h1 q78 (20, (l1.map Value.int).set (4 * e' + n) (.int (nI s')))) q79 (20, (l2.map Value.int).set (4 * e' + n) (.int (wgV w x)))).1 m = some (11, fm) := by rw [am_set_ne n2]; exact v1
      have v3 : (am_set (am_set (am_set h1 q78 (20, (l1.map Value.int).set (4 * e' + n) (.int (nI s')))) q79 (20, (l2.map Value.int).set (4 * e' + n) (.int (wgV w x)))) q80 (20, (l3.map Value.int).set (4 * e' + n) (.int o))).1 m = some (11, fm) := by rw [am_set_ne n3]; exact v2
      have l77 : l[e']? = some (nI n) := at_row h77 b77' x6
      refine rl_load rfl rfl (rl_load rfl rfl (rl_get xm f98 (by rw [f98']; exact p61) (rl_load rfl rfl (ra_ald hT.1 (by omega) (by omega) b61' (up (by omega) dr) (by rw [k61]; rfl) (by omega) (rl_bin rfl (rl_store rfl ?_))))))
      refine rl_load rfl rfl (rl_get xm f115 (by rw [f115']; exact p78) (rl_const (rl_load rfl rfl (rl_bin (z := nI (4 * e')) (by show some _ = _; rw [nI_4 (by omega)]) (rl_load rfl rfl (rl_bin (z := nI (4 * e' + n)) (by show some _ = _; rw [nI_plus (by omega)]) (rl_load rfl rfl (rl_ast x1 rfl hi.1 (by rw [hi.2, List.length_map, y1]; exact hp) ?_))))))))
      rw [hi.2]
      have tail : ∀ (L : LV), L = lv_put 6 (.int (w - x)) (lv_put 5 (.int (nI n)) (am_args 0 [.ref m, .int (nI e'), .int (nI s'), .int w, .int o])) → Rt σ 215 (jump 215 153) L [.int (wgV w x), .int (nI (4 * e' + n)), .ref q79] (am_set h1 q78 (20, (l1.map Value.int).set (4 * e' + n) (.int (nI s')))) (fun v h' => v = some (.int y) ∧ RLw ad h') := fun L hL => by
        subst hL
        rw [j215_153]
        refine rl_ast (by rw [am_set_ne n12.symm]; exact x2) rfl hi.1 (by rw [hi.2, List.length_map, y2]; exact hp) ?_
        rw [hi.2]
        refine rl_load rfl rfl (rl_get v2 f117 (by rw [f117']; exact p80) (rl_const (rl_load rfl rfl (rl_bin (z := nI (4 * e')) (by show some _ = _; rw [nI_4 (by omega)]) (rl_load rfl rfl (rl_bin (z := nI (4 * e' + n)) (by show some _ = _; rw [nI_plus (by omega)]) (rl_load rfl rfl (rl_ast (by rw [am_set_ne n23.symm, am_set_ne n13.symm]; exact x3) rfl hi.1 (by rw [hi.2, List.length_map, y3]; exact hp) ?_))))))))
        rw [hi.2]
        refine rl_load rfl rfl (rl_get v3 f114 (by rw [f114']; exact p77) (rl_load rfl rfl (rl_dup2 rfl rfl (rl_ald (by rw [am_set_ne n36.symm, am_set_ne n26.symm, am_set_ne n16.symm]; exact x6) rfl hie.1 (by rw [hie.2, List.getElem?_map, l77]; rfl) (rl_const (rl_bin rfl (rl_ast (by rw [am_set_ne n36.symm, am_set_ne n26.symm, am_set_ne n16.symm]; exact x6) rfl hie.1 (by rw [hie.2, List.length_map, y6]; exact he60) (rl_const (rl_ret1 ⟨by rw [hy], ?_⟩)))))))))
        rw [hie.2, nI_suc (by omega)]
        obtain ⟨keep, ⟨z1, z2⟩, z3⟩ := wgM_keep (h := h1) (n := n) (t := nI s') (w := wgV w x) (o := o) hT2 b77 ⟨b78, b79, b80⟩ ⟨⟨x1, y1⟩, ⟨x2, y2⟩, x3, y3⟩ ⟨x6, y6⟩ hp he60
        have kr : ∀ {c i p : Nat} {v : Value}, c < 77 → At ad h1 c i p v → At ad (wgM h1 q78 q79 q80 q77 l1 l2 l3 l (4 * e' + n) e' n (nI s') (wgV w x) o) c i p v := fun {c i p v} hc ha => keep (fun e => absurd e.1 (by omega)) (fun e => absurd e.1 (by omega)) (fun e => absurd e.1 (by omega)) (fun e => absurd e.1 (by omega)) ha
        obtain ⟨⟨oth, ⟨-, -⟩, n3'⟩, ⟨⟨ww, wt, wdd⟩, c1, c2, c3⟩, r1, r2, r3⟩ := hw
        show RLw ad (wgM h1 q78 q79 q80 q77 l1 l2 l3 l (4 * e' + n) e' n (nI s') (wgV w x) o)
        intro e6 h6
        by_cases ee : e6 = e'
        · subst ee
          refine ⟨n + 1, fun j => if j = n then wgV w x else ws j, fun j => if j = n then nI s' else ts j, fun j => if j = n then o else ds j, ⟨he60, by omega⟩, kr (by omega) n3', fun j hj => ?_, fun j hj => ?_, fun j hj => ?_⟩
          · dsimp only
            by_cases ej : j = n
            · rw [if_pos ej, ej]
              exact ⟨⟨kr (by omega) c1, z2⟩, r1⟩
            · rw [if_neg ej]
              exact ⟨⟨kr (by omega) (ww j (by omega)).1.1, keep (fun e => absurd e.1 (by omega)) (fun e => absurd e.2.2 (by omega)) (fun e => absurd e.1 (by omega)) (fun e => absurd e.1 (by omega)) (ww j (by omega)).1.2⟩, (ww j (by omega)).2⟩
          · dsimp only
            by_cases ej : j = n
            · rw [if_pos ej, ej]
              exact ⟨⟨kr (by omega) c2, z1⟩, r2⟩
            · rw [if_neg ej]
              exact ⟨⟨kr (by omega) (wt j (by omega)).1.1, keep (fun e => absurd e.2.2 (by omega)) (fun e => absurd e.1 (by omega)) (fun e => absurd e.1 (by omega)) (fun e => absurd e.1 (by omega)) (wt j (by omega)).1.2⟩, (wt j (by omega)).2⟩
          · dsimp only
            by_cases ej : j = n
            · rw [if_pos ej, ej]
              exact ⟨⟨kr (by omega) c3, z3⟩, r3⟩
            · rw [if_neg ej]
              exact ⟨⟨kr (by omega) (wdd j (by omega)).1.1, keep (fun e => absurd e.1 (by omega)) (fun e => absurd e.1 (by omega)) (fun e => absurd e.2.2 (by omega)) (fun e => absurd e.1 (by omega)) (wdd j (by omega)).1.2⟩, (wdd j (by omega)).2⟩
        · obtain ⟨n', ws', ts', ds', ⟨p0, p0'⟩, p3, pw, pt, pd⟩ := oth e6 ee h6
          refine ⟨n', ws', ts', ds', ⟨p0, p0'⟩, kr (by omega) p3, fun j hj => ?_, fun j hj => ?_, fun j hj => ?_⟩
          · exact ⟨⟨kr (by omega) (pw j hj).1.1, keep (fun e => absurd e.1 (by omega)) (fun e => absurd e.2.2 (by omega)) (fun e => absurd e.1 (by omega)) (fun e => absurd e.1 (by omega)) (pw j hj).1.2⟩, (pw j hj).2⟩
          · exact ⟨⟨kr (by omega) (pt j hj).1.1, keep (fun e => absurd e.2.2 (by omega)) (fun e => absurd e.1 (by omega)) (fun e => absurd e.1 (by omega)) (fun e => absurd e.1 (by omega)) (pt j hj).1.2⟩, (pt j hj).2⟩
          · exact ⟨⟨kr (by omega) (pd j hj).1.1, keep (fun e => absurd e.1 (by omega)) (fun e => absurd e.1 (by omega)) (fun e => absurd e.2.2 (by omega)) (fun e => absurd e.1 (by omega)) (pd j hj).1.2⟩, (pd j hj).2⟩
      refine rl_load rfl rfl (rl_get v1 f116 (by rw [f116']; exact p79) (rl_const (rl_load rfl rfl (rl_bin (z := nI (4 * e')) (by show some _ = _; rw [nI_4 (by omega)]) (rl_load rfl rfl (rl_bin (z := nI (4 * e' + n)) (by show some _ = _; rw [nI_plus (by omega)]) (rl_load rfl rfl (rl_const ?_))))))))
      have hl := wg_less (w := w) (x := x)
      by_cases b4 : w - x < Int32.ofInt 1
      · rw [if_pos b4] at hl
        refine rl_icmpF (by show some (decide (Int32.ofInt 1 ≤ w - x)) = some false; rw [decide_eq_false (Int32.not_le.mpr b4)]) (rl_const (rl_goto ?_))
        show Rt σ 215 (jump 215 153) _ _ _ _
        rw [hl]
        exact tail _ rfl
      · rw [if_neg b4] at hl
        refine rl_icmpT (by show some (decide (Int32.ofInt 1 ≤ w - x)) = some true; rw [decide_eq_true (Int32.not_lt.mp b4)]) ?_
        show Rt σ 215 (jump 215 151) _ _ _ _
        rw [j215_151]
        refine rl_load rfl rfl ?_
        have ht := tail _ rfl
        rw [← hl] at ht
        exact ht
  cases n with
  | zero =>
    refine rl_ifT (by decide +kernel) ?_
    exact go _ rfl (fun h => absurd h.1 (by omega))
  | succ n =>
    have e1 : nI (4 * e' + (n + 1)) - Int32.ofInt 1 = nI (4 * e' + n) := by
      rw [show 4 * e' + (n + 1) = 4 * e' + n + 1 by omega, ← nI_suc (p := 4 * e' + n) (by omega), Int32.add_sub_cancel]
    refine rl_ifF (by show some (decide (nI (n + 1) ≤ nI 0)) = some false; rw [decide_eq_false (by rw [tx_le (by omega) (by omega)]; omega)]) (rl_load rfl rfl (rl_load rfl rfl (rl_get xm f117 (by rw [f117']; exact p80) (rl_const (rl_load rfl rfl (rl_bin (z := nI (4 * e')) (by show some _ = _; rw [nI_4 (by omega)]) (rl_load rfl rfl (rl_bin (z := nI (4 * e' + (n + 1))) (by show some _ = _; rw [nI_plus (by omega)]) (rl_const (rl_bin (z := nI (4 * e' + n)) (by show some _ = _; rw [e1]) (ra_ald hT.1 (by omega) (by omega) b80' (up (by omega) (wd n (by omega))) (by rw [k80]; rfl) (by omega) ?_)))))))))))
    by_cases b3 : o ≤ ds n
    · exact rl_icmpF (by show some (decide (ds n < o)) = some false; rw [decide_eq_false (Int32.not_lt.mpr b3)]) (no _ (nb (Or.inr (Or.inr ⟨by omega, b3⟩))))
    · refine rl_icmpT (by show some (decide (ds n < o)) = some true; rw [decide_eq_true (Int32.not_le.mp b3)]) ?_
      exact go _ rfl (fun h => b3 h.2)
end
end
