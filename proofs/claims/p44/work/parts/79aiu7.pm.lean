section
/-! ===== the planner: the model's tours ===== -/
theorem code_249 : codeOf 249 = [(0, (1, 1, 0)), (1, (0, 0, 1)), (2, (0, 0, 3)), (3, (12, 125, 0)), (6, (6, 0, 17)), (9, (1, 0, 2)), (10, (1, 1, 0)), (11, (12, 174, 0)), (14, (7, 0, 19)), (17, (0, 0, -2)), (19, (13, 1, 0))] := by decide +kernel
theorem head_249 : codeOf 249 = [(0, (1, 1, 0)), (1, (0, 0, 1)), (2, (0, 0, 3)), (3, (12, 125, 0)), (6, (6, 0, 17)), (9, (1, 0, 2)), (10, (1, 1, 0)), (11, (12, 174, 0)), (14, (7, 0, 19))] ++ jump 249 17 := by rw [jump_jmp, code_249]; rfl
theorem j249_17 : jump 249 17 = [(17, (0, 0, -2))] ++ jump 249 19 := by rw [jump_jmp, jump_jmp, code_249]; rfl
theorem j249_19 : jump 249 19 = [(19, (13, 1, 0))] := by rw [jump_jmp, code_249]; rfl
theorem code_250 : codeOf 250 = [(0, (1, 0, 2)), (1, (1, 1, 0)), (2, (12, 175, 0)), (5, (2, 2, 0)), (6, (1, 2, 0)), (7, (0, 0, -1)), (8, (5, 1, 16)), (11, (0, 0, -3)), (13, (7, 0, 17)), (16, (1, 2, 0)), (17, (13, 1, 0))] := by decide +kernel
theorem head_250 : codeOf 250 = [(0, (1, 0, 2)), (1, (1, 1, 0)), (2, (12, 175, 0)), (5, (2, 2, 0)), (6, (1, 2, 0)), (7, (0, 0, -1)), (8, (5, 1, 16)), (11, (0, 0, -3)), (13, (7, 0, 17))] ++ jump 250 16 := by rw [jump_jmp, code_250]; rfl
theorem j250_16 : jump 250 16 = [(16, (1, 2, 0))] ++ jump 250 17 := by rw [jump_jmp, jump_jmp, code_250]; rfl
theorem j250_17 : jump 250 17 = [(17, (13, 1, 0))] := by rw [jump_jmp, code_250]; rfl
theorem code_251 : codeOf 251 = [(0, (1, 0, 2)), (1, (12, 176, 0)), (4, (0, 0, -1)), (5, (2, 2, 0)), (6, (0, 0, 1)), (7, (2, 3, 0)), (8, (0, 0, 0)), (9, (2, 4, 0)), (11, (1, 4, 0)), (13, (1, 0, 2)), (14, (8, 150, 0)), (17, (5, 3, 30)), (20, (1, 3, 0)), (21, (1, 1, 0)), (22, (4, 2, 0)), (23, (2, 3, 0)), (24, (3, 4, 1)), (27, (7, 0, 11)), (30, (0, 0, 0)), (31, (2, 4, 0)), (33, (1, 4, 0)), (35, (1, 3, 0)), (36, (5, 3, 210)), (39, (1, 4, 0)), (41, (2, 5, 0)), (43, (0, 0, 0)), (44, (2, 6, 0)), (46, (0, 0, 0)), (47, (2, 7, 0)), (49, (0, 0, 0)), (50, (2, 8, 0)), (52, (1, 0, 2)), (53, (8, 150, 0)), (56, (0, 0, 1)), (57, (4, 1, 0)), (58, (2, 9, 0)), (60, (1, 9, 0)), (62, (6, 2, 139)), (65, (1, 5, 0)), (67, (1, 1, 0)), (68, (4, 4, 0)), (69, (2, 10, 0)), (71, (1, 5, 0)), (73, (1, 1, 0)), (74, (4, 3, 0)), (75, (2, 5, 0)), (77, (1, 6, 0)), (79, (1, 10, 0)), (81, (6, 1, 91)), (84, (0, 0, 1)), (85, (1, 9, 0)), (87, (4, 8, 0)), (88, (7, 0, 92)), (91, (0, 0, 0)), (92, (4, 6, 0)), (93, (2, 6, 0)), (95, (1, 7, 0)), (97, (1, 10, 0)), (99, (0, 0, 1)), (100, (5, 1, 110)), (103, (0, 0, 1)), (104, (1, 9, 0)), (106, (4, 8, 0)), (107, (7, 0, 111)), (110, (0, 0, 0)), (111, (4, 6, 0)), (112, (2, 7, 0)), (114, (1, 8, 0)), (116, (1, 10, 0)), (118, (0, 0, 2)), (119, (5, 1, 129)), (122, (0, 0, 1)), (123, (1, 9, 0)), (125, (4, 8, 0)), (126, (7, 0, 130)), (129, (0, 0, 0)), (130, (4, 6, 0)), (131, (2, 8, 0)), (133, (3, 9, -1)), (136, (7, 0, 60)), (139, (1, 0, 2)), (140, (8, 129, 0)), (143, (1, 6, 0)), (145, (10, 0, 0)), (146, (1, 0, 2)), (147, (8, 129, 0)), (150, (1, 7, 0)), (152, (10, 0, 0)), (153, (4, 0, 0)), (154, (1, 0, 2)), (155, (8, 129, 0)), (158, (1, 8, 0)), (160, (10, 0, 0)), (161, (4, 0, 0)), (162, (2, 9, 0)), (164, (1, 9, 0)), (166, (0, 0, 1000000)), (169, (5, 3, 204)), (172, (1, 2, 0)), (173, (0, 0, -1)), (174, (5, 0, 183)), (177, (1, 9, 0)), (179, (1, 2, 0)), (180, (5, 3, 204)), (183, (1, 9, 0)), (185, (2, 2, 0)), (186, (1, 0, 2)), (187, (1, 6, 0)), (189, (9, 151, 0)), (192, (1, 0, 2)), (193, (1, 7, 0)), (195, (9, 152, 0)), (198, (1, 0, 2)), (199, (1, 8, 0)), (201, (9, 153, 0)), (204, (3, 4, 1)), (207, (7, 0, 33)), (210, (1, 2, 0)), (211, (13, 1, 0))] := by decide +kernel
set_option maxRecDepth 100000 in
theorem head_251 : codeOf 251 = [(0, (1, 0, 2)), (1, (12, 176, 0)), (4, (0, 0, -1)), (5, (2, 2, 0)), (6, (0, 0, 1)), (7, (2, 3, 0)), (8, (0, 0, 0)), (9, (2, 4, 0))] ++ jump 251 11 := by rw [jump_jmp, code_251]; rfl
set_option maxRecDepth 100000 in
theorem j251_11 : jump 251 11 = [(11, (1, 4, 0)), (13, (1, 0, 2)), (14, (8, 150, 0)), (17, (5, 3, 30)), (20, (1, 3, 0)), (21, (1, 1, 0)), (22, (4, 2, 0)), (23, (2, 3, 0)), (24, (3, 4, 1)), (27, (7, 0, 11))] ++ jump 251 30 := by rw [jump_jmp, jump_jmp, code_251]; rfl
set_option maxRecDepth 100000 in
theorem j251_30 : jump 251 30 = [(30, (0, 0, 0)), (31, (2, 4, 0))] ++ jump 251 33 := by rw [jump_jmp, jump_jmp, code_251]; rfl
set_option maxRecDepth 100000 in
theorem j251_33 : jump 251 33 = [(33, (1, 4, 0)), (35, (1, 3, 0)), (36, (5, 3, 210)), (39, (1, 4, 0)), (41, (2, 5, 0)), (43, (0, 0, 0)), (44, (2, 6, 0)), (46, (0, 0, 0)), (47, (2, 7, 0)), (49, (0, 0, 0)), (50, (2, 8, 0)), (52, (1, 0, 2)), (53, (8, 150, 0)), (56, (0, 0, 1)), (57, (4, 1, 0)), (58, (2, 9, 0))] ++ jump 251 60 := by rw [jump_jmp, jump_jmp, code_251]; rfl
set_option maxRecDepth 100000 in
theorem j251_60 : jump 251 60 = [(60, (1, 9, 0)), (62, (6, 2, 139)), (65, (1, 5, 0)), (67, (1, 1, 0)), (68, (4, 4, 0)), (69, (2, 10, 0)), (71, (1, 5, 0)), (73, (1, 1, 0)), (74, (4, 3, 0)), (75, (2, 5, 0)), (77, (1, 6, 0)), (79, (1, 10, 0)), (81, (6, 1, 91)), (84, (0, 0, 1)), (85, (1, 9, 0)), (87, (4, 8, 0)), (88, (7, 0, 92))] ++ jump 251 91 := by rw [jump_jmp, jump_jmp, code_251]; rfl
set_option maxRecDepth 100000 in
theorem j251_91 : jump 251 91 = [(91, (0, 0, 0))] ++ jump 251 92 := by rw [jump_jmp, jump_jmp, code_251]; rfl
set_option maxRecDepth 100000 in
theorem j251_92 : jump 251 92 = [(92, (4, 6, 0)), (93, (2, 6, 0)), (95, (1, 7, 0)), (97, (1, 10, 0)), (99, (0, 0, 1)), (100, (5, 1, 110)), (103, (0, 0, 1)), (104, (1, 9, 0)), (106, (4, 8, 0)), (107, (7, 0, 111))] ++ jump 251 110 := by rw [jump_jmp, jump_jmp, code_251]; rfl
set_option maxRecDepth 100000 in
theorem j251_110 : jump 251 110 = [(110, (0, 0, 0))] ++ jump 251 111 := by rw [jump_jmp, jump_jmp, code_251]; rfl
set_option maxRecDepth 100000 in
theorem j251_111 : jump 251 111 = [(111, (4, 6, 0)), (112, (2, 7, 0)), (114, (1, 8, 0)), (116, (1, 10, 0)), (118, (0, 0, 2)), (119, (5, 1, 129)), (122, (0, 0, 1)), (123, (1, 9, 0)), (125, (4, 8, 0)), (126, (7, 0, 130))] ++ jump 251 129 := by rw [jump_jmp, jump_jmp, code_251]; rfl
set_option maxRecDepth 100000 in
theorem j251_129 : jump 251 129 = [(129, (0, 0, 0))] ++ jump 251 130 := by rw [jump_jmp, jump_jmp, code_251]; rfl
set_option maxRecDepth 100000 in
theorem j251_130 : jump 251 130 = [(130, (4, 6, 0)), (131, (2, 8, 0)), (133, (3, 9, -1)), (136, (7, 0, 60))] ++ jump 251 139 := by rw [jump_jmp, jump_jmp, code_251]; rfl
set_option maxRecDepth 100000 in
theorem j251_139 : jump 251 139 = [(139, (1, 0, 2)), (140, (8, 129, 0)), (143, (1, 6, 0)), (145, (10, 0, 0)), (146, (1, 0, 2)), (147, (8, 129, 0)), (150, (1, 7, 0)), (152, (10, 0, 0)), (153, (4, 0, 0)), (154, (1, 0, 2)), (155, (8, 129, 0)), (158, (1, 8, 0)), (160, (10, 0, 0)), (161, (4, 0, 0)), (162, (2, 9, 0)), (164, (1, 9, 0)), (166, (0, 0, 1000000)), (169, (5, 3, 204)), (172, (1, 2, 0)), (173, (0, 0, -1)), (174, (5, 0, 183)), (177, (1, 9, 0)), (179, (1, 2, 0)), (180, (5, 3, 204))] ++ jump 251 183 := by rw [jump_jmp, jump_jmp, code_251]; rfl
set_option maxRecDepth 100000 in
theorem j251_183 : jump 251 183 = [(183, (1, 9, 0)), (185, (2, 2, 0)), (186, (1, 0, 2)), (187, (1, 6, 0)), (189, (9, 151, 0)), (192, (1, 0, 2)), (193, (1, 7, 0)), (195, (9, 152, 0)), (198, (1, 0, 2)), (199, (1, 8, 0)), (201, (9, 153, 0))] ++ jump 251 204 := by rw [jump_jmp, jump_jmp, code_251]; rfl
set_option maxRecDepth 100000 in
theorem j251_204 : jump 251 204 = [(204, (3, 4, 1)), (207, (7, 0, 33))] ++ jump 251 210 := by rw [jump_jmp, jump_jmp, code_251]; rfl
set_option maxRecDepth 100000 in
theorem j251_210 : jump 251 210 = [(210, (1, 2, 0)), (211, (13, 1, 0))] := by rw [jump_jmp, code_251]; rfl
theorem code_252 : codeOf 252 = [(0, (0, 0, 0)), (1, (2, 1, 0)), (2, (1, 1, 0)), (3, (0, 0, 64)), (5, (5, 3, 30)), (8, (1, 0, 2)), (9, (8, 129, 0)), (12, (1, 1, 0)), (13, (0, 0, 1000000)), (16, (11, 0, 0)), (17, (1, 0, 2)), (18, (8, 130, 0)), (21, (1, 1, 0)), (22, (0, 0, 0)), (23, (11, 0, 0)), (24, (3, 1, 1)), (27, (7, 0, 2)), (30, (1, 0, 2)), (31, (8, 129, 0)), (34, (0, 0, 0)), (35, (0, 0, 0)), (36, (11, 0, 0)), (37, (0, 0, 1)), (38, (2, 1, 0)), (39, (1, 1, 0)), (40, (1, 0, 2)), (41, (8, 150, 0)), (44, (5, 4, 94)), (47, (0, 0, 1)), (48, (2, 2, 0)), (49, (0, 0, 0)), (50, (2, 3, 0)), (51, (1, 3, 0)), (52, (1, 1, 0)), (53, (5, 3, 69)), (56, (1, 2, 0)), (57, (1, 0, 2)), (58, (8, 150, 0)), (61, (4, 2, 0)), (62, (2, 2, 0)), (63, (3, 3, 1)), (66, (7, 0, 51)), (69, (0, 0, 0)), (70, (2, 3, 0)), (71, (1, 3, 0)), (72, (1, 2, 0)), (73, (5, 3, 88)), (76, (1, 0, 2)), (77, (1, 3, 0)), (78, (1, 1, 0)), (79, (12, 177, 0)), (82, (3, 3, 1)), (85, (7, 0, 71)), (88, (3, 1, 1)), (91, (7, 0, 39)), (94, (13, 0, 0))] := by decide +kernel
theorem head_252 : codeOf 252 = [(0, (0, 0, 0)), (1, (2, 1, 0))] ++ jump 252 2 := by rw [jump_jmp, code_252]; rfl
theorem j252_2 : jump 252 2 = [(2, (1, 1, 0)), (3, (0, 0, 64)), (5, (5, 3, 30)), (8, (1, 0, 2)), (9, (8, 129, 0)), (12, (1, 1, 0)), (13, (0, 0, 1000000)), (16, (11, 0, 0)), (17, (1, 0, 2)), (18, (8, 130, 0)), (21, (1, 1, 0)), (22, (0, 0, 0)), (23, (11, 0, 0)), (24, (3, 1, 1)), (27, (7, 0, 2))] ++ jump 252 30 := by rw [jump_jmp, jump_jmp, code_252]; rfl
theorem j252_30 : jump 252 30 = [(30, (1, 0, 2)), (31, (8, 129, 0)), (34, (0, 0, 0)), (35, (0, 0, 0)), (36, (11, 0, 0)), (37, (0, 0, 1)), (38, (2, 1, 0))] ++ jump 252 39 := by rw [jump_jmp, jump_jmp, code_252]; rfl
theorem j252_39 : jump 252 39 = [(39, (1, 1, 0)), (40, (1, 0, 2)), (41, (8, 150, 0)), (44, (5, 4, 94)), (47, (0, 0, 1)), (48, (2, 2, 0)), (49, (0, 0, 0)), (50, (2, 3, 0))] ++ jump 252 51 := by rw [jump_jmp, jump_jmp, code_252]; rfl
theorem j252_51 : jump 252 51 = [(51, (1, 3, 0)), (52, (1, 1, 0)), (53, (5, 3, 69)), (56, (1, 2, 0)), (57, (1, 0, 2)), (58, (8, 150, 0)), (61, (4, 2, 0)), (62, (2, 2, 0)), (63, (3, 3, 1)), (66, (7, 0, 51))] ++ jump 252 69 := by rw [jump_jmp, jump_jmp, code_252]; rfl
theorem j252_69 : jump 252 69 = [(69, (0, 0, 0)), (70, (2, 3, 0))] ++ jump 252 71 := by rw [jump_jmp, jump_jmp, code_252]; rfl
theorem j252_71 : jump 252 71 = [(71, (1, 3, 0)), (72, (1, 2, 0)), (73, (5, 3, 88)), (76, (1, 0, 2)), (77, (1, 3, 0)), (78, (1, 1, 0)), (79, (12, 177, 0)), (82, (3, 3, 1)), (85, (7, 0, 71))] ++ jump 252 88 := by rw [jump_jmp, jump_jmp, code_252]; rfl
theorem j252_88 : jump 252 88 = [(88, (3, 1, 1)), (91, (7, 0, 39))] ++ jump 252 94 := by rw [jump_jmp, jump_jmp, code_252]; rfl
theorem j252_94 : jump 252 94 = [(94, (13, 0, 0))] := by rw [jump_jmp, code_252]; rfl
theorem code_253 : codeOf 253 = [(0, (1, 1, 0)), (1, (2, 3, 0)), (2, (0, 0, 0)), (3, (2, 4, 0)), (5, (0, 0, 0)), (6, (2, 5, 0)), (8, (1, 2, 0)), (9, (0, 0, 1)), (10, (4, 1, 0)), (11, (2, 6, 0)), (13, (1, 6, 0)), (15, (6, 2, 58)), (18, (1, 0, 2)), (19, (8, 131, 0)), (22, (1, 6, 0)), (24, (1, 3, 0)), (25, (1, 0, 2)), (26, (8, 150, 0)), (29, (4, 4, 0)), (30, (11, 0, 0)), (31, (1, 3, 0)), (32, (1, 0, 2)), (33, (8, 150, 0)), (36, (4, 3, 0)), (37, (2, 3, 0)), (38, (1, 4, 0)), (40, (0, 0, 1)), (41, (1, 0, 2)), (42, (8, 131, 0)), (45, (1, 6, 0)), (47, (10, 0, 0)), (48, (4, 8, 0)), (49, (4, 6, 0)), (50, (2, 4, 0)), (52, (3, 6, -1)), (55, (7, 0, 13)), (58, (1, 4, 0)), (60, (12, 178, 0)), (63, (1, 2, 0)), (64, (5, 3, 68)), (67, (13, 0, 0)), (68, (1, 2, 0)), (69, (0, 0, 1)), (70, (4, 1, 0)), (71, (2, 6, 0)), (73, (1, 6, 0)), (75, (6, 2, 99)), (78, (0, 0, 8)), (80, (1, 5, 0)), (82, (4, 2, 0)), (83, (1, 0, 2)), (84, (8, 131, 0)), (87, (1, 6, 0)), (89, (10, 0, 0)), (90, (4, 0, 0)), (91, (2, 5, 0)), (93, (3, 6, -1)), (96, (7, 0, 73)), (99, (1, 0, 2)), (100, (1, 2, 0)), (101, (12, 179, 0)), (104, (2, 6, 0)), (106, (1, 6, 0)), (108, (1, 0, 2)), (109, (8, 128, 0)), (112, (5, 4, 145)), (115, (1, 6, 0)), (117, (1, 0, 2)), (118, (8, 129, 0)), (121, (1, 4, 0)), (123, (10, 0, 0)), (124, (5, 3, 145)), (127, (1, 0, 2)), (128, (8, 129, 0)), (131, (1, 4, 0)), (133, (1, 6, 0)), (135, (11, 0, 0)), (136, (1, 0, 2)), (137, (8, 130, 0)), (140, (1, 4, 0)), (142, (1, 5, 0)), (144, (11, 0, 0)), (145, (13, 0, 0))] := by decide +kernel
set_option maxRecDepth 100000 in
theorem head_253 : codeOf 253 = [(0, (1, 1, 0)), (1, (2, 3, 0)), (2, (0, 0, 0)), (3, (2, 4, 0)), (5, (0, 0, 0)), (6, (2, 5, 0)), (8, (1, 2, 0)), (9, (0, 0, 1)), (10, (4, 1, 0)), (11, (2, 6, 0))] ++ jump 253 13 := by rw [jump_jmp, code_253]; rfl
set_option maxRecDepth 100000 in
theorem j253_13 : jump 253 13 = [(13, (1, 6, 0)), (15, (6, 2, 58)), (18, (1, 0, 2)), (19, (8, 131, 0)), (22, (1, 6, 0)), (24, (1, 3, 0)), (25, (1, 0, 2)), (26, (8, 150, 0)), (29, (4, 4, 0)), (30, (11, 0, 0)), (31, (1, 3, 0)), (32, (1, 0, 2)), (33, (8, 150, 0)), (36, (4, 3, 0)), (37, (2, 3, 0)), (38, (1, 4, 0)), (40, (0, 0, 1)), (41, (1, 0, 2)), (42, (8, 131, 0)), (45, (1, 6, 0)), (47, (10, 0, 0)), (48, (4, 8, 0)), (49, (4, 6, 0)), (50, (2, 4, 0)), (52, (3, 6, -1)), (55, (7, 0, 13))] ++ jump 253 58 := by rw [jump_jmp, jump_jmp, code_253]; rfl
set_option maxRecDepth 100000 in
theorem j253_58 : jump 253 58 = [(58, (1, 4, 0)), (60, (12, 178, 0)), (63, (1, 2, 0)), (64, (5, 3, 68)), (67, (13, 0, 0))] ++ jump 253 68 := by rw [jump_jmp, jump_jmp, code_253]; rfl
set_option maxRecDepth 100000 in
theorem j253_68 : jump 253 68 = [(68, (1, 2, 0)), (69, (0, 0, 1)), (70, (4, 1, 0)), (71, (2, 6, 0))] ++ jump 253 73 := by rw [jump_jmp, jump_jmp, code_253]; rfl
set_option maxRecDepth 100000 in
theorem j253_73 : jump 253 73 = [(73, (1, 6, 0)), (75, (6, 2, 99)), (78, (0, 0, 8)), (80, (1, 5, 0)), (82, (4, 2, 0)), (83, (1, 0, 2)), (84, (8, 131, 0)), (87, (1, 6, 0)), (89, (10, 0, 0)), (90, (4, 0, 0)), (91, (2, 5, 0)), (93, (3, 6, -1)), (96, (7, 0, 73))] ++ jump 253 99 := by rw [jump_jmp, jump_jmp, code_253]; rfl
set_option maxRecDepth 100000 in
theorem j253_99 : jump 253 99 = [(99, (1, 0, 2)), (100, (1, 2, 0)), (101, (12, 179, 0)), (104, (2, 6, 0)), (106, (1, 6, 0)), (108, (1, 0, 2)), (109, (8, 128, 0)), (112, (5, 4, 145)), (115, (1, 6, 0)), (117, (1, 0, 2)), (118, (8, 129, 0)), (121, (1, 4, 0)), (123, (10, 0, 0)), (124, (5, 3, 145)), (127, (1, 0, 2)), (128, (8, 129, 0)), (131, (1, 4, 0)), (133, (1, 6, 0)), (135, (11, 0, 0)), (136, (1, 0, 2)), (137, (8, 130, 0)), (140, (1, 4, 0)), (142, (1, 5, 0)), (144, (11, 0, 0))] ++ jump 253 145 := by rw [jump_jmp, jump_jmp, code_253]; rfl
set_option maxRecDepth 100000 in
theorem j253_145 : jump 253 145 = [(145, (13, 0, 0))] := by rw [jump_jmp, code_253]; rfl
theorem code_254 : codeOf 254 = [(0, (0, 0, 0)), (1, (2, 1, 0)), (2, (0, 0, 0)), (3, (2, 2, 0)), (4, (1, 2, 0)), (5, (0, 0, 6)), (7, (5, 3, 24)), (10, (1, 1, 0)), (11, (1, 0, 0)), (12, (1, 2, 0)), (13, (4, 9, 0)), (14, (0, 0, 1)), (15, (4, 5, 0)), (16, (4, 0, 0)), (17, (2, 1, 0)), (18, (3, 2, 1)), (21, (7, 0, 4)), (24, (1, 1, 0)), (25, (13, 1, 0))] := by decide +kernel
theorem head_254 : codeOf 254 = [(0, (0, 0, 0)), (1, (2, 1, 0)), (2, (0, 0, 0)), (3, (2, 2, 0))] ++ jump 254 4 := by rw [jump_jmp, code_254]; rfl
theorem j254_4 : jump 254 4 = [(4, (1, 2, 0)), (5, (0, 0, 6)), (7, (5, 3, 24)), (10, (1, 1, 0)), (11, (1, 0, 0)), (12, (1, 2, 0)), (13, (4, 9, 0)), (14, (0, 0, 1)), (15, (4, 5, 0)), (16, (4, 0, 0)), (17, (2, 1, 0)), (18, (3, 2, 1)), (21, (7, 0, 4))] ++ jump 254 24 := by rw [jump_jmp, jump_jmp, code_254]; rfl
theorem j254_24 : jump 254 24 = [(24, (1, 1, 0)), (25, (13, 1, 0))] := by rw [jump_jmp, code_254]; rfl
theorem code_255 : codeOf 255 = [(0, (1, 1, 0)), (1, (6, 1, 8)), (4, (0, 0, 0)), (5, (7, 0, 18)), (8, (1, 0, 2)), (9, (1, 0, 2)), (10, (8, 131, 0)), (13, (0, 0, 0)), (14, (10, 0, 0)), (15, (12, 180, 0)), (18, (2, 2, 0)), (19, (0, 0, 0)), (20, (2, 3, 0)), (21, (1, 3, 0)), (22, (1, 1, 0)), (23, (5, 3, 172)), (26, (1, 3, 0)), (27, (0, 0, 1)), (28, (4, 0, 0)), (29, (1, 1, 0)), (30, (5, 3, 64)), (33, (1, 0, 2)), (34, (8, 126, 0)), (37, (1, 0, 2)), (38, (8, 131, 0)), (41, (1, 3, 0)), (42, (0, 0, 1)), (43, (4, 0, 0)), (44, (10, 0, 0)), (45, (10, 0, 0)), (46, (1, 0, 2)), (47, (8, 126, 0)), (50, (1, 0, 2)), (51, (8, 131, 0)), (54, (1, 3, 0)), (55, (10, 0, 0)), (56, (10, 0, 0)), (57, (5, 1, 64)), (60, (0, 0, 1)), (61, (7, 0, 65)), (64, (0, 0, 0)), (65, (2, 4, 0)), (67, (1, 3, 0)), (68, (0, 0, 1)), (69, (4, 0, 0)), (70, (1, 1, 0)), (71, (5, 3, 90)), (74, (1, 0, 2)), (75, (8, 125, 0)), (78, (1, 0, 2)), (79, (8, 131, 0)), (82, (1, 3, 0)), (83, (0, 0, 1)), (84, (4, 0, 0)), (85, (10, 0, 0)), (86, (10, 0, 0)), (87, (7, 0, 91)), (90, (0, 0, 0)), (91, (2, 5, 0)), (93, (1, 2, 0)), (94, (1, 4, 0)), (96, (6, 0, 126)), (99, (1, 0, 2)), (100, (1, 0, 2)), (101, (8, 131, 0)), (104, (1, 3, 0)), (105, (10, 0, 0)), (106, (1, 0, 2)), (107, (8, 86, 0)), (110, (1, 5, 0)), (112, (10, 0, 0)), (113, (1, 0, 2)), (114, (8, 87, 0)), (117, (1, 5, 0)), (119, (10, 0, 0)), (120, (12, 181, 0)), (123, (7, 0, 164)), (126, (1, 0, 2)), (127, (1, 0, 2)), (128, (8, 131, 0)), (131, (1, 3, 0)), (132, (10, 0, 0)), (133, (0, 0, 50)), (135, (0, 0, 50)), (137, (12, 181, 0)), (140, (1, 3, 0)), (141, (0, 0, 1)), (142, (4, 0, 0)), (143, (1, 1, 0)), (144, (5, 3, 162)), (147, (1, 0, 2)), (148, (1, 0, 2)), (149, (8, 131, 0)), (152, (1, 3, 0)), (153, (0, 0, 1)), (154, (4, 0, 0)), (155, (10, 0, 0)), (156, (12, 180, 0)), (159, (7, 0, 163)), (162, (0, 0, 0)), (163, (4, 0, 0)), (164, (4, 0, 0)), (165, (2, 2, 0)), (166, (3, 3, 1)), (169, (7, 0, 21)), (172, (1, 2, 0)), (173, (13, 1, 0))] := by decide +kernel
set_option maxRecDepth 100000 in
theorem head_255 : codeOf 255 = [(0, (1, 1, 0)), (1, (6, 1, 8)), (4, (0, 0, 0)), (5, (7, 0, 18))] ++ jump 255 8 := by rw [jump_jmp, code_255]; rfl
set_option maxRecDepth 100000 in
theorem j255_8 : jump 255 8 = [(8, (1, 0, 2)), (9, (1, 0, 2)), (10, (8, 131, 0)), (13, (0, 0, 0)), (14, (10, 0, 0)), (15, (12, 180, 0))] ++ jump 255 18 := by rw [jump_jmp, jump_jmp, code_255]; rfl
set_option maxRecDepth 100000 in
theorem j255_18 : jump 255 18 = [(18, (2, 2, 0)), (19, (0, 0, 0)), (20, (2, 3, 0))] ++ jump 255 21 := by rw [jump_jmp, jump_jmp, code_255]; rfl
set_option maxRecDepth 100000 in
theorem j255_21 : jump 255 21 = [(21, (1, 3, 0)), (22, (1, 1, 0)), (23, (5, 3, 172)), (26, (1, 3, 0)), (27, (0, 0, 1)), (28, (4, 0, 0)), (29, (1, 1, 0)), (30, (5, 3, 64)), (33, (1, 0, 2)), (34, (8, 126, 0)), (37, (1, 0, 2)), (38, (8, 131, 0)), (41, (1, 3, 0)), (42, (0, 0, 1)), (43, (4, 0, 0)), (44, (10, 0, 0)), (45, (10, 0, 0)), (46, (1, 0, 2)), (47, (8, 126, 0)), (50, (1, 0, 2)), (51, (8, 131, 0)), (54, (1, 3, 0)), (55, (10, 0, 0)), (56, (10, 0, 0)), (57, (5, 1, 64)), (60, (0, 0, 1)), (61, (7, 0, 65))] ++ jump 255 64 := by rw [jump_jmp, jump_jmp, code_255]; rfl
set_option maxRecDepth 100000 in
theorem j255_64 : jump 255 64 = [(64, (0, 0, 0))] ++ jump 255 65 := by rw [jump_jmp, jump_jmp, code_255]; rfl
set_option maxRecDepth 100000 in
theorem j255_65 : jump 255 65 = [(65, (2, 4, 0)), (67, (1, 3, 0)), (68, (0, 0, 1)), (69, (4, 0, 0)), (70, (1, 1, 0)), (71, (5, 3, 90)), (74, (1, 0, 2)), (75, (8, 125, 0)), (78, (1, 0, 2)), (79, (8, 131, 0)), (82, (1, 3, 0)), (83, (0, 0, 1)), (84, (4, 0, 0)), (85, (10, 0, 0)), (86, (10, 0, 0)), (87, (7, 0, 91))] ++ jump 255 90 := by rw [jump_jmp, jump_jmp, code_255]; rfl
set_option maxRecDepth 100000 in
theorem j255_90 : jump 255 90 = [(90, (0, 0, 0))] ++ jump 255 91 := by rw [jump_jmp, jump_jmp, code_255]; rfl
set_option maxRecDepth 100000 in
theorem j255_91 : jump 255 91 = [(91, (2, 5, 0)), (93, (1, 2, 0)), (94, (1, 4, 0)), (96, (6, 0, 126)), (99, (1, 0, 2)), (100, (1, 0, 2)), (101, (8, 131, 0)), (104, (1, 3, 0)), (105, (10, 0, 0)), (106, (1, 0, 2)), (107, (8, 86, 0)), (110, (1, 5, 0)), (112, (10, 0, 0)), (113, (1, 0, 2)), (114, (8, 87, 0)), (117, (1, 5, 0)), (119, (10, 0, 0)), (120, (12, 181, 0)), (123, (7, 0, 164))] ++ jump 255 126 := by rw [jump_jmp, jump_jmp, code_255]; rfl
set_option maxRecDepth 100000 in
theorem j255_126 : jump 255 126 = [(126, (1, 0, 2)), (127, (1, 0, 2)), (128, (8, 131, 0)), (131, (1, 3, 0)), (132, (10, 0, 0)), (133, (0, 0, 50)), (135, (0, 0, 50)), (137, (12, 181, 0)), (140, (1, 3, 0)), (141, (0, 0, 1)), (142, (4, 0, 0)), (143, (1, 1, 0)), (144, (5, 3, 162)), (147, (1, 0, 2)), (148, (1, 0, 2)), (149, (8, 131, 0)), (152, (1, 3, 0)), (153, (0, 0, 1)), (154, (4, 0, 0)), (155, (10, 0, 0)), (156, (12, 180, 0)), (159, (7, 0, 163))] ++ jump 255 162 := by rw [jump_jmp, jump_jmp, code_255]; rfl
set_option maxRecDepth 100000 in
theorem j255_162 : jump 255 162 = [(162, (0, 0, 0))] ++ jump 255 163 := by rw [jump_jmp, jump_jmp, code_255]; rfl
set_option maxRecDepth 100000 in
theorem j255_163 : jump 255 163 = [(163, (4, 0, 0))] ++ jump 255 164 := by rw [jump_jmp, jump_jmp, code_255]; rfl
set_option maxRecDepth 100000 in
theorem j255_164 : jump 255 164 = [(164, (4, 0, 0)), (165, (2, 2, 0)), (166, (3, 3, 1)), (169, (7, 0, 21))] ++ jump 255 172 := by rw [jump_jmp, jump_jmp, code_255]; rfl
set_option maxRecDepth 100000 in
theorem j255_172 : jump 255 172 = [(172, (1, 2, 0)), (173, (13, 1, 0))] := by rw [jump_jmp, code_255]; rfl
theorem code_257 : codeOf 257 = [(0, (0, 0, 1000000)), (3, (2, 4, 0)), (5, (0, 0, 0)), (6, (2, 5, 0)), (8, (1, 5, 0)), (10, (1, 0, 2)), (11, (8, 139, 0)), (14, (5, 3, 90)), (17, (1, 0, 2)), (18, (1, 0, 2)), (19, (8, 125, 0)), (22, (1, 1, 0)), (23, (10, 0, 0)), (24, (1, 5, 0)), (26, (12, 168, 0)), (29, (1, 0, 2)), (30, (8, 92, 0)), (33, (1, 5, 0)), (35, (10, 0, 0)), (36, (1, 0, 2)), (37, (8, 93, 0)), (40, (1, 5, 0)), (42, (10, 0, 0)), (43, (1, 2, 0)), (44, (1, 3, 0)), (45, (12, 169, 0)), (48, (4, 0, 0)), (49, (2, 6, 0)), (51, (1, 0, 2)), (52, (1, 5, 0)), (54, (1, 0, 2)), (55, (8, 127, 0)), (58, (1, 1, 0)), (59, (10, 0, 0)), (60, (0, 0, 12)), (62, (12, 167, 0)), (65, (6, 0, 80)), (68, (1, 6, 0)), (70, (1, 4, 0)), (72, (5, 3, 80)), (75, (1, 6, 0)), (77, (7, 0, 82)), (80, (1, 4, 0)), (82, (2, 4, 0)), (84, (3, 5, 1)), (87, (7, 0, 8)), (90, (1, 4, 0)), (92, (13, 1, 0))] := by decide +kernel
theorem head_257 : codeOf 257 = [(0, (0, 0, 1000000)), (3, (2, 4, 0)), (5, (0, 0, 0)), (6, (2, 5, 0))] ++ jump 257 8 := by rw [jump_jmp, code_257]; rfl
theorem j257_8 : jump 257 8 = [(8, (1, 5, 0)), (10, (1, 0, 2)), (11, (8, 139, 0)), (14, (5, 3, 90)), (17, (1, 0, 2)), (18, (1, 0, 2)), (19, (8, 125, 0)), (22, (1, 1, 0)), (23, (10, 0, 0)), (24, (1, 5, 0)), (26, (12, 168, 0)), (29, (1, 0, 2)), (30, (8, 92, 0)), (33, (1, 5, 0)), (35, (10, 0, 0)), (36, (1, 0, 2)), (37, (8, 93, 0)), (40, (1, 5, 0)), (42, (10, 0, 0)), (43, (1, 2, 0)), (44, (1, 3, 0)), (45, (12, 169, 0)), (48, (4, 0, 0)), (49, (2, 6, 0)), (51, (1, 0, 2)), (52, (1, 5, 0)), (54, (1, 0, 2)), (55, (8, 127, 0)), (58, (1, 1, 0)), (59, (10, 0, 0)), (60, (0, 0, 12)), (62, (12, 167, 0)), (65, (6, 0, 80)), (68, (1, 6, 0)), (70, (1, 4, 0)), (72, (5, 3, 80)), (75, (1, 6, 0)), (77, (7, 0, 82))] ++ jump 257 80 := by rw [jump_jmp, jump_jmp, code_257]; rfl
theorem j257_80 : jump 257 80 = [(80, (1, 4, 0))] ++ jump 257 82 := by rw [jump_jmp, jump_jmp, code_257]; rfl
theorem j257_82 : jump 257 82 = [(82, (2, 4, 0)), (84, (3, 5, 1)), (87, (7, 0, 8))] ++ jump 257 90 := by rw [jump_jmp, jump_jmp, code_257]; rfl
theorem j257_90 : jump 257 90 = [(90, (1, 4, 0)), (92, (13, 1, 0))] := by rw [jump_jmp, code_257]; rfl
theorem code_258 : codeOf 258 = [(0, (1, 1, 0)), (1, (0, 0, 1)), (2, (0, 0, 3)), (3, (12, 125, 0)), (6, (6, 0, 24)), (9, (1, 2, 0)), (10, (0, 0, 0)), (11, (1, 1, 0)), (12, (0, 0, 1)), (13, (4, 1, 0)), (14, (12, 125, 0)), (17, (6, 0, 24)), (20, (1, 3, 0)), (21, (6, 3, 27)), (24, (0, 0, -2)), (26, (13, 1, 0)), (27, (1, 0, 2)), (28, (1, 1, 0)), (29, (12, 175, 0)), (32, (0, 0, -1)), (33, (5, 1, 39)), (36, (0, 0, -3)), (38, (13, 1, 0)), (39, (1, 0, 2)), (40, (1, 2, 0)), (41, (12, 182, 0)), (44, (2, 4, 0)), (46, (1, 3, 0)), (47, (1, 4, 0)), (49, (12, 178, 0)), (52, (5, 2, 57)), (55, (0, 0, -1)), (56, (13, 1, 0)), (57, (1, 0, 2)), (58, (8, 130, 0)), (61, (1, 4, 0)), (63, (10, 0, 0)), (64, (0, 0, 3)), (65, (1, 3, 0)), (66, (4, 2, 0)), (67, (4, 9, 0)), (68, (0, 0, 7)), (70, (4, 5, 0)), (71, (13, 1, 0))] := by decide +kernel
theorem head_258 : codeOf 258 = [(0, (1, 1, 0)), (1, (0, 0, 1)), (2, (0, 0, 3)), (3, (12, 125, 0)), (6, (6, 0, 24)), (9, (1, 2, 0)), (10, (0, 0, 0)), (11, (1, 1, 0)), (12, (0, 0, 1)), (13, (4, 1, 0)), (14, (12, 125, 0)), (17, (6, 0, 24)), (20, (1, 3, 0)), (21, (6, 3, 27))] ++ jump 258 24 := by rw [jump_jmp, code_258]; rfl
theorem j258_24 : jump 258 24 = [(24, (0, 0, -2)), (26, (13, 1, 0))] ++ jump 258 27 := by rw [jump_jmp, jump_jmp, code_258]; rfl
theorem j258_27 : jump 258 27 = [(27, (1, 0, 2)), (28, (1, 1, 0)), (29, (12, 175, 0)), (32, (0, 0, -1)), (33, (5, 1, 39)), (36, (0, 0, -3)), (38, (13, 1, 0))] ++ jump 258 39 := by rw [jump_jmp, jump_jmp, code_258]; rfl
theorem j258_39 : jump 258 39 = [(39, (1, 0, 2)), (40, (1, 2, 0)), (41, (12, 182, 0)), (44, (2, 4, 0)), (46, (1, 3, 0)), (47, (1, 4, 0)), (49, (12, 178, 0)), (52, (5, 2, 57)), (55, (0, 0, -1)), (56, (13, 1, 0))] ++ jump 258 57 := by rw [jump_jmp, jump_jmp, code_258]; rfl
theorem j258_57 : jump 258 57 = [(57, (1, 0, 2)), (58, (8, 130, 0)), (61, (1, 4, 0)), (63, (10, 0, 0)), (64, (0, 0, 3)), (65, (1, 3, 0)), (66, (4, 2, 0)), (67, (4, 9, 0)), (68, (0, 0, 7)), (70, (4, 5, 0)), (71, (13, 1, 0))] := by rw [jump_jmp, code_258]; rfl
theorem code_259 : codeOf 259 = [(0, (1, 1, 0)), (1, (6, 1, 11)), (4, (1, 0, 2)), (5, (8, 151, 0)), (8, (7, 0, 27)), (11, (1, 1, 0)), (12, (0, 0, 1)), (13, (5, 1, 23)), (16, (1, 0, 2)), (17, (8, 152, 0)), (20, (7, 0, 27)), (23, (1, 0, 2)), (24, (8, 153, 0)), (27, (13, 1, 0))] := by decide +kernel
theorem head_259 : codeOf 259 = [(0, (1, 1, 0)), (1, (6, 1, 11)), (4, (1, 0, 2)), (5, (8, 151, 0)), (8, (7, 0, 27))] ++ jump 259 11 := by rw [jump_jmp, code_259]; rfl
theorem j259_11 : jump 259 11 = [(11, (1, 1, 0)), (12, (0, 0, 1)), (13, (5, 1, 23)), (16, (1, 0, 2)), (17, (8, 152, 0)), (20, (7, 0, 27))] ++ jump 259 23 := by rw [jump_jmp, jump_jmp, code_259]; rfl
theorem j259_23 : jump 259 23 = [(23, (1, 0, 2)), (24, (8, 153, 0))] ++ jump 259 27 := by rw [jump_jmp, jump_jmp, code_259]; rfl
theorem j259_27 : jump 259 27 = [(27, (13, 1, 0))] := by rw [jump_jmp, code_259]; rfl
theorem code_260 : codeOf 260 = [(0, (1, 1, 0)), (1, (0, 0, 1)), (2, (0, 0, 3)), (3, (12, 125, 0)), (6, (6, 0, 20)), (9, (1, 2, 0)), (10, (0, 0, 0)), (11, (1, 1, 0)), (12, (0, 0, 1)), (13, (4, 1, 0)), (14, (12, 125, 0)), (17, (6, 1, 23)), (20, (0, 0, -2)), (22, (13, 1, 0)), (23, (1, 0, 2)), (24, (1, 1, 0)), (25, (12, 175, 0)), (28, (0, 0, -1)), (29, (5, 1, 37)), (32, (0, 0, -3)), (34, (7, 0, 47)), (37, (1, 0, 2)), (38, (8, 129, 0)), (41, (1, 0, 2)), (42, (1, 2, 0)), (43, (12, 182, 0)), (46, (10, 0, 0)), (47, (13, 1, 0))] := by decide +kernel
theorem head_260 : codeOf 260 = [(0, (1, 1, 0)), (1, (0, 0, 1)), (2, (0, 0, 3)), (3, (12, 125, 0)), (6, (6, 0, 20)), (9, (1, 2, 0)), (10, (0, 0, 0)), (11, (1, 1, 0)), (12, (0, 0, 1)), (13, (4, 1, 0)), (14, (12, 125, 0)), (17, (6, 1, 23))] ++ jump 260 20 := by rw [jump_jmp, code_260]; rfl
theorem j260_20 : jump 260 20 = [(20, (0, 0, -2)), (22, (13, 1, 0))] ++ jump 260 23 := by rw [jump_jmp, jump_jmp, code_260]; rfl
theorem j260_23 : jump 260 23 = [(23, (1, 0, 2)), (24, (1, 1, 0)), (25, (12, 175, 0)), (28, (0, 0, -1)), (29, (5, 1, 37)), (32, (0, 0, -3)), (34, (7, 0, 47))] ++ jump 260 37 := by rw [jump_jmp, jump_jmp, code_260]; rfl
theorem j260_37 : jump 260 37 = [(37, (1, 0, 2)), (38, (8, 129, 0)), (41, (1, 0, 2)), (42, (1, 2, 0)), (43, (12, 182, 0)), (46, (10, 0, 0))] ++ jump 260 47 := by rw [jump_jmp, jump_jmp, code_260]; rfl
theorem j260_47 : jump 260 47 = [(47, (13, 1, 0))] := by rw [jump_jmp, code_260]; rfl
theorem qm_f : (((((fks 125).contains 11 = true ∧ fpos 125 = 55) ∧ ((fks 126).contains 11 = true ∧ fpos 126 = 56)) ∧ (((fks 127).contains 11 = true ∧ fpos 127 = 57) ∧ ((fks 128).contains 11 = true ∧ fpos 128 = 58))) ∧ ((((fks 129).contains 11 = true ∧ fpos 129 = 59) ∧ ((fks 130).contains 11 = true ∧ fpos 130 = 60)) ∧ (((fks 131).contains 11 = true ∧ fpos 131 = 61) ∧ ((fks 139).contains 11 = true ∧ fpos 139 = 11)))) ∧ ((((fks 150).contains 11 = true ∧ fpos 150 = 54) ∧ ((fks 151).contains 11 = true ∧ fpos 151 = 62)) ∧ (((fks 152).contains 11 = true ∧ fpos 152 = 63) ∧ ((fks 153).contains 11 = true ∧ fpos 153 = 64))) := by decide +kernel
theorem qm_d : dcode (fr 151).2.2.1 = 0 ∧ (dcode (fr 152).2.2.1 = 0 ∧ dcode (fr 153).2.2.1 = 0) := by decide +kernel
theorem qm_s : (((spec 174 = (1, 1, [(11, 250)]) ∧ spec 175 = (1, 1, [(11, 251)])) ∧ (spec 176 = (1, 0, [(11, 252)]) ∧ spec 177 = (1, 2, [(11, 253)]))) ∧ ((spec 178 = (0, 1, [(0, 254)]) ∧ spec 179 = (1, 1, [(11, 255)])) ∧ (spec 180 = (1, 1, [(11, 256)]) ∧ spec 181 = (1, 3, [(11, 257)])))) ∧ spec 182 = (1, 1, [(11, 259)]) := ⟨⟨⟨⟨by decide +kernel, by decide +kernel⟩, by decide +kernel, by decide +kernel⟩, ⟨by decide +kernel, by decide +kernel⟩, by decide +kernel, by decide +kernel⟩, by decide +kernel⟩
theorem qm_m : (((2 ≤ mL 250 ∧ 2 ≤ mL 251) ∧ (1 ≤ mL 252 ∧ 3 ≤ mL 253)) ∧ ((1 ≤ mL 254 ∧ 2 ≤ mL 255) ∧ (2 ≤ mL 256 ∧ 4 ≤ mL 257))) ∧ 2 ≤ mL 259 := by decide +kernel
theorem qm_c : ((ct_at 11 55 = some (7, 87, 0) ∧ cdk 87 = 20) ∧ (ct_at 11 56 = some (7, 88, 0) ∧ cdk 88 = 20)) ∧ ((ct_at 11 57 = some (7, 89, 0) ∧ cdk 89 = 20) ∧ (cdk 49 = 20 ∧ cdk 50 = 20)) := by decide +kernel
theorem bq_one : ∀ S, S < 64 → ∀ j, j < 6 → ((nI S >>> (nI j &&& 31)) &&& Int32.ofInt 1) = nI (S / 2 ^ j % 2) := by decide +kernel
theorem bq_or2 : ∀ A, A < 64 → ∀ j, j < 6 → (nI A ||| (Int32.ofInt 1 <<< (nI j &&& 31))) = nI (A ||| 2 ^ j) := by decide +kernel
theorem bq_or0 : ∀ A, A < 64 → (nI A ||| Int32.ofInt 0) = nI A := by decide +kernel
theorem bq_lt2 : ∀ n, n < 7 → ∀ A, A < 2 ^ n → ∀ j, j < n → (A ||| 2 ^ j) < 2 ^ n := by decide +kernel
theorem bq_pc : ∀ n, n < 7 → ∀ S, S < 2 ^ n → pcB S ≤ n := by decide +kernel
theorem pw6 : ∀ a, a < 7 → ∀ k, k < 7 → a ^ k ≤ 46656 := by decide +kernel
theorem pc_sum : ∀ S, S < 64 → 0 + S / 2 ^ 0 % 2 + S / 2 ^ 1 % 2 + S / 2 ^ 2 % 2 + S / 2 ^ 3 % 2 + S / 2 ^ 4 % 2 + S / 2 ^ 5 % 2 = pcB S := by decide +kernel
noncomputable def pcP (S : Nat) : Nat → Nat
  | 0 => 0
  | k + 1 => pcP S k + S / 2 ^ k % 2
/-- places that the model's planner writes -/
noncomputable def XM (c p : Nat) : Prop := (90 ≤ c ∧ c ≤ 92) ∨ (c = 11 ∧ (62 ≤ p ∧ p ≤ 64))
noncomputable def FrmM (ad : AD) (h h' : AH) : Prop := (∀ c i p W, ¬ XM c p → At ad h c i p W → At ad h' c i p W) ∧ ((∀ a k vs, k ≠ 20 → k ≠ 8 → k ≠ 11 → h.1 a = some (k, vs) → h'.1 a = some (k, vs)) ∧ h'.2 = h.2)
section
variable {σ : Nat → Nat} {ad ad1 : AD} {h h1 h' : AH} {np n T m t i j x y S p w s : Nat} {ex ho : Nat → Nat → Prop} {Q : Option Value → AH → Prop} {d : Nat → TPD} {tk : Nat → TKD} {sz : Nat → Int32} {pp : TKD} {tl : List (Nat × AI)} {L : LV} {St : List Value} {M pc : Nat} {c : Int} {hw : Nat → Nat} {on : Nat → Nat → Nat} {rc nl : Nat} {cc p2 : Nat} {xv : Int32}
theorem fm_refl : FrmM ad h h := ⟨fun _ _ _ _ _ ha => ha, fun _ _ _ _ _ _ e => e, rfl⟩
theorem fm_trans (a : FrmM ad h h1) (b : FrmM ad h1 h') : FrmM ad h h' := ⟨fun c i p W hx ha => b.1 c i p W hx (a.1 c i p W hx ha), fun q k vs k1 k2 k3 e => b.2.1 q k vs k1 k2 k3 (a.2.1 q k vs k1 k2 k3 e), b.2.2.trans a.2.2⟩
theorem fm_one (o : One ad h h' cc p2 xv) (hx : XM cc p2) : FrmM ad h h' := ⟨fun c' i' p' W hn ha => o.1.2 c' i' p' W (fun e => hn (by rw [e.1, e.2.2]; exact hx)) ha, o.2⟩
theorem fm_frm (f : FrmM ad h h') : Frm ad h h' := ⟨fun c i p W hx ha => f.1 c i p W (fun e => hx (by unfold XM at e; unfold XP; omega)) ha, f.2⟩
theorem nxm {c p : Nat} (h1 : c < 90) (h2 : c ≠ 11) : ¬ XM c p := fun e => by
  unfold XM at e
  omega
theorem at_dn {c i p : Nat} {W : Value} (hup : ∀ c i q, c < 1000 → ad c i = some q → ad1 c i = some q) (hc : c < 1000) (hn : ad c i ≠ none) (ha : At ad1 h c i p W) : At ad h c i p W := by
  obtain ⟨a, k, vs, a1, a2, a3⟩ := ha
  cases e : ad c i
  · exact absurd e hn
  · rename_i a'
    have := hup c i a' hc e
    rw [a1] at this
    cases this
    exact ⟨a, k, vs, e, a2, a3⟩
theorem cost_le (hB : LgB n hw on) : ∀ {r : List Nat} {p}, Dg n r → cost hw on p r ≤ (r.length + 1) * 1000200 := by
  intro r
  induction r with
  | nil =>
    intro p _
    have := hB.1 p
    show hw p ≤ (0 + 1) * 1000200
    omega
  | cons j r ih =>
    intro p hd
    obtain ⟨h1, h2⟩ := dg_cons hd
    have h3 := hB.2 p j h1
    have h4 := ih (p := j) h2
    rw [cost, List.length_cons]
    omega
theorem soR_lt2 (hn : n ≤ 6) : ∀ {r}, Dg n r → soR r < 2 ^ n := by
  intro r
  induction r with
  | nil => intro _; exact two_pos n
  | cons j r ih =>
    intro h
    obtain ⟨h1, h2⟩ := dg_cons h
    exact bq_lt2 n (by omega) (soR r) (ih h2) j h1
theorem cdR_lt (hn : n ≤ 6) : ∀ {r}, Dg n r → cdR r < 8 ^ r.length := by
  intro r
  induction r with
  | nil => intro _; show 0 < 1; omega
  | cons j r ih =>
    intro h
    obtain ⟨h1, h2⟩ := dg_cons h
    have := ih h2
    rw [cdR, List.length_cons, Nat.pow_succ]
    omega
theorem pw8 : ∀ k, k < 7 → 8 ^ k ≤ 262144 := by decide +kernel
/-- what the model reads -/
theorem pd_tk (hD : PD ad h n T tk d sz) (ht : t < n) : PTk ad h t (tk t) := hD.1.2.1 t ht
theorem M_byT (hT : TS ad h np ex ho) (hm : ad 11 0 = some m) (hD : PD ad h n T tk d sz) (ht : t < n) (hx : x < 100) (hy : y < 100) (hQ : Q (some (.int (nI (byD d (tk t) x y T)))) h) : Rt σ 257 (codeOf 257) (am_args 0 [.ref m, .int (nI t), .int (nI x), .int (nI y)]) [] h Q := by
  obtain ⟨⟨⟨⟨f125, f125'⟩, -⟩, ⟨f127, f127'⟩, -⟩, -, -, f139, f139'⟩ := qm_f.1
  obtain ⟨⟨⟨t87, k87⟩, -⟩, ⟨t89, k89⟩, -⟩ := qm_c
  obtain ⟨-, -, ⟨f92, f92'⟩, f93, f93'⟩ := fi_g
  obtain ⟨-, -, ⟨⟨t55, k55⟩, t56, k56⟩, -⟩ := fi_c
  obtain ⟨-, ⟨-, s167⟩, s168, s169⟩ := fi_sp
  obtain ⟨-, ⟨m237, m238⟩, m239⟩ := fi_ml
  obtain ⟨⟨⟨c11, c11'⟩, -⟩, -⟩ := m_cls
  have n6 : n ≤ 6 := hD.1.1.1.1.1
  have T6 : T ≤ 6 := hD.1.1.1.1.2
  have htn := hD.1.1.2.1.2
  have hP := hD.1.2.2
  obtain ⟨vm, xm, -⟩ := at_kind hT.1 (by omega) (by omega) htn hm
  rw [c11'] at xm
  obtain ⟨⟨kk, qk, ⟨-, g3, g4⟩, hK⟩, -, g6⟩ := pd_tk hD ht
  have hkx := hK.1.2
  have hky := hK.2.2
  have loop : ∀ (r i : Nat) (L : LV), i + r = T → lv_get 0 L = some (.ref m) → lv_get 1 L = some (.int (nI t)) → lv_get 2 L = some (.int (nI x)) → lv_get 3 L = some (.int (nI y)) → lv_get 4 L = some (.int (nI (byD d (tk t) x y i))) → lv_get 5 L = some (.int (nI i)) → Rt σ 257 (jump 257 8) L [] h Q := by
    intro r
    induction r with
    | zero =>
      intro i L hi l0 l1 l2 l3 l4 l5
      have ei : i = T := by omega
      subst ei
      rw [j257_8]
      refine rl_load l5 rfl (rl_load l0 rfl (ra_get hT.1 (by omega) (by omega) hm (by rw [f139']; exact htn) (by rw [c11']; exact f139) (rl_icmpT ?_ ?_)))
      · show some (decide (nI i ≤ nI i)) = some true
        rw [decide_eq_true ((tx_le (by omega) (by omega)).mpr (Nat.le_refl _))]
      · show Rt σ 257 (jump 257 90) _ _ _ _
        rw [j257_90]
        exact rl_load l4 rfl (rl_ret1 hQ)
    | succ r ih =>
      intro i L hi l0 l1 l2 l3 l4 l5
      have hiT : i < T := by omega
      have hpp := hP i hiT
      have ml := mi_lt hpp hkx hky
      have ml5 := mi_lt hpp hx hy
      have lT := byD_top (d := d) (pp := tk t) (x := x) (y := y) (T := i)
      obtain ⟨⟨⟨⟨-, a2⟩, a3⟩, ⟨-, b2⟩, b3⟩, -⟩ := hpp
      have hpp := hP i hiT
      have mok : am_ok [.int (nI (d i).1.1), .int (nI (d i).1.2), .int (nI x), .int (nI y)] 239 = true := by
        unfold am_ok
        rw [decide_eq_true (show ([.int (nI (d i).1.1), .int (nI (d i).1.2), .int (nI x), .int (nI y)] : List Value).length ≤ mL 239 from m239)]
        rfl
      have exy : mA x (d i).1.1 + mA y (d i).1.2 = miT x y (d i) := by
        unfold miT
        rw [mA_c x (d i).1.1, mA_c y (d i).1.2]
      rw [j257_8]
      refine rl_load l5 rfl (rl_load l0 rfl (ra_get hT.1 (by omega) (by omega) hm (by rw [f139']; exact htn) (by rw [c11']; exact f139) (rl_icmpF ?_ (rl_load l0 rfl (rl_load l0 rfl (ra_row hT hm (by rw [f125']; exact t87) f125 fun q87 hq87 => rl_load l1 rfl (ra_ald hT.1 (by omega) (by omega) hq87 g3 (by rw [k87]; rfl) (by omega) (rl_load l5 rfl (rl_callv (as := [.int (nI kk), .int (nI i)]) (r := []) s168 rfl rfl xm (by show 0 ≤ 8; omega) (three_ok m238) (M_toTip hT hm g4 hK (by omega) hpp ?_))))))))))
      · show some (decide (nI T ≤ nI i)) = some false
        rw [decide_eq_false (by rw [tx_le (by omega) (by omega)]; omega)]
      refine rl_load l0 rfl (ra_row hT hm (by rw [f92']; exact t55) f92 fun q55 hq55 => rl_load l5 rfl (ra_ald hT.1 (by omega) (by omega) hq55 a2 (by rw [k55]; rfl) (by omega) (rl_load l0 rfl (ra_row hT hm (by rw [f93']; exact t56) f93 fun q56 hq56 => rl_load l5 rfl (ra_ald hT.1 (by omega) (by omega) hq56 b2 (by rw [k56]; rfl) (by omega) (rl_load l2 rfl (rl_load l3 rfl (rl_calls (as := [.int (nI (d i).1.1), .int (nI (d i).1.2), .int (nI x), .int (nI y)]) (r := [.int (nI (miT (tk t).1.1 (tk t).1.2 (d i)))]) s169 rfl rfl (by show 1 ≤ 8; omega) mok (M_apart a3 b3 hx hy ?_)))))))))
      rw [exy]
      refine rl_bin (z := nI (miT (tk t).1.1 (tk t).1.2 (d i) + miT x y (d i))) (by show some _ = some _; rw [nI_plus (by omega)]) (rl_store rfl ?_)
      have g6' : ∀ {k : Nat} {u : Value}, k ≤ 5 → u.category = 1 → lv_get k L = some u → lv_get k (lv_put 6 (.int (nI (miT (tk t).1.1 (tk t).1.2 (d i) + miT x y (d i)))) L) = some u := fun {k u} hk hu hz => get_put hu rfl (by omega) hz
      have nx : Rt σ 257 (jump 257 82) (lv_put 6 (.int (nI (miT (tk t).1.1 (tk t).1.2 (d i) + miT x y (d i)))) L) [.int (nI (byD d (tk t) x y (i + 1)))] h Q := by
        rw [j257_82]
        refine rl_store rfl (rl_iinc (get_put rfl rfl (by omega) (g6' (by omega) rfl l5)) (rl_goto ?_))
        rw [nI_suc (by omega)]
        have g5 : ∀ {k : Nat} {u : Value}, k ≤ 3 → u.category = 1 → lv_get k L = some u → lv_get k (lv_put 5 (.int (nI (i + 1))) (lv_put 4 (.int (nI (byD d (tk t) x y (i + 1)))) (lv_put 6 (.int (nI (miT (tk t).1.1 (tk t).1.2 (d i) + miT x y (d i)))) L))) = some u := fun {k u} hk hu hz => get_put hu rfl (by omega) (get_put hu rfl (by omega) (g6' (by omega) hu hz))
        exact ih (i + 1) _ (by omega) (g5 (by omega) rfl l0) (g5 (by omega) rfl l1) (g5 (by omega) rfl l2) (g5 (by omega) rfl l3) (get_put rfl rfl (by omega) rfl) rfl
      have st : byD d (tk t) x y (i + 1) = byD d (tk t) x y i → Rt σ 257 (jump 257 80) (lv_put 6 (.int (nI (miT (tk t).1.1 (tk t).1.2 (d i) + miT x y (d i)))) L) [] h Q := fun e => by
        rw [j257_80]
        rw [e] at nx
        exact rl_load (g6' (by omega) rfl l4) rfl nx
      refine rl_load (g6' (by omega) rfl l0) rfl (rl_load (g6' (by omega) rfl l5) rfl (rl_load (g6' (by omega) rfl l0) rfl (ra_row hT hm (by rw [f127']; exact t89) f127 fun q89 hq89 => rl_load (g6' (by omega) rfl l1) rfl (ra_ald hT.1 (by omega) (by omega) hq89 g6 (by rw [k89]; rfl) (by omega) (rl_const (rl_callv (as := [.int (nI i), .int (tk t).2, .int (Int32.ofInt 12)]) (r := []) s167 rfl rfl xm (by show 0 ≤ 8; omega) (four_ok' m237) (M_takes hT hm (by omega) hpp ?_)))))))
      show Rt σ 257 _ _ (.int (bif tkB (d i) (tk t).2 (Int32.ofInt 12) then 1 else 0) :: []) h Q
      cases hb1 : tkB (d i) (tk t).2 (Int32.ofInt 12)
      · refine rl_ifT rfl ?_
        show Rt σ 257 (jump 257 80) _ _ _ _
        refine st ?_
        unfold byD
        rw [mnJ, hb1, cond_false]
      · have eT : byD d (tk t) x y (i + 1) = (if miT (tk t).1.1 (tk t).1.2 (d i) + miT x y (d i) < byD d (tk t) x y i then miT (tk t).1.1 (tk t).1.2 (d i) + miT x y (d i) else byD d (tk t) x y i) := by
          unfold byD
          rw [mnJ, hb1, cond_true]
        refine rl_ifF rfl (rl_load (v := .int (nI (miT (tk t).1.1 (tk t).1.2 (d i) + miT x y (d i)))) rfl rfl (rl_load (g6' (by omega) rfl l4) rfl ?_))
        by_cases z : miT (tk t).1.1 (tk t).1.2 (d i) + miT x y (d i) < byD d (tk t) x y i
        · rw [if_pos z] at eT
          rw [eT] at nx
          refine rl_icmpF (by show some (decide (nI (byD d (tk t) x y i) ≤ nI (miT (tk t).1.1 (tk t).1.2 (d i) + miT x y (d i)))) = some false; rw [decide_eq_false (by rw [tx_le (by omega) (by omega)]; omega)]) (rl_load (v := .int (nI (miT (tk t).1.1 (tk t).1.2 (d i) + miT x y (d i)))) rfl rfl (rl_goto ?_))
          exact nx
        · rw [if_neg z] at eT
          refine rl_icmpT (by show some (decide (nI (byD d (tk t) x y i) ≤ nI (miT (tk t).1.1 (tk t).1.2 (d i) + miT x y (d i)))) = some true; rw [decide_eq_true ((tx_le (by omega) (by omega)).mpr (by omega))]) ?_
          show Rt σ 257 (jump 257 80) _ _ _ _
          exact st eT
  rw [head_257]
  refine rl_const (rl_store rfl (rl_const (rl_store rfl ?_)))
  exact loop T 0 _ (by omega) rfl rfl rfl rfl rfl rfl
theorem M_ones (hS : S < 64) (hQ : Q (some (.int (nI (pcB S)))) h) : Rt σ 254 (codeOf 254) (am_args 0 [.int (nI S)]) [] h Q := by
  have pb : ∀ k, pcP S k ≤ k := by
    intro k
    induction k with
    | zero => exact Nat.le_refl _
    | succ k ih =>
      have := Nat.mod_lt (S / 2 ^ k) (show 0 < 2 by omega)
      rw [pcP]
      omega
  have loop : ∀ (r k : Nat) (L : LV), k + r = 6 → lv_get 0 L = some (.int (nI S)) → lv_get 1 L = some (.int (nI (pcP S k))) → lv_get 2 L = some (.int (nI k)) → Rt σ 254 (jump 254 4) L [] h Q := by
    intro r
    induction r with
    | zero =>
      intro k L hk l0 l1 l2
      have ek : k = 6 := by omega
      subst ek
      rw [j254_4]
      refine rl_load l2 rfl (rl_const (rl_icmpT ?_ ?_))
      · show some (decide (nI 6 ≤ nI 6)) = some true
        rw [decide_eq_true ((tx_le (by omega) (by omega)).mpr (Nat.le_refl _))]
      · show Rt σ 254 (jump 254 24) _ _ _ _
        rw [j254_24]
        have e : pcP S 6 = pcB S := pc_sum S hS
        rw [e] at l1
        exact rl_load l1 rfl (rl_ret1 hQ)
    | succ r ih =>
      intro k L hk l0 l1 l2
      have := pb k
      have hm := Nat.mod_lt (S / 2 ^ k) (show 0 < 2 by omega)
      rw [j254_4]
      refine rl_load l2 rfl (rl_const (rl_icmpF ?_ (rl_load l1 rfl (rl_load l0 rfl (rl_load l2 rfl (rl_bin rfl (rl_const (rl_bin rfl (rl_bin (z := nI (pcP S (k + 1))) ?_ (rl_store rfl (rl_iinc (get_put rfl rfl (by omega) l2) (rl_goto ?_))))))))))))
      · show some (decide (nI 6 ≤ nI k)) = some false
        rw [decide_eq_false (by rw [tx_le (by omega) (by omega)]; omega)]
      · show some (nI (pcP S k) + ((nI S >>> (nI k &&& 31)) &&& Int32.ofInt 1)) = some _
        rw [bq_one S hS k (by omega), nI_plus (by omega)]
        rfl
      · rw [nI_suc (by omega)]
        exact ih (k + 1) _ (by omega) (get_put rfl rfl (by omega) (get_put rfl rfl (by omega) l0)) (get_put rfl rfl (by omega) rfl) rfl
  rw [head_254]
  refine rl_const (rl_store rfl (rl_const (rl_store rfl ?_)))
  exact loop 6 0 _ (by omega) rfl rfl rfl
/-- the model's row of tasks -/
noncomputable def RwM (ad : AD) (h : AH) (r : List Nat) : Prop := ∀ k j, r[k]? = some j → At ad h 92 0 k (.int (nI j))
theorem M_mls (hT : TS ad h np ex ho) (hm : ad 11 0 = some m) (hD : PD ad h n T tk d sz) {r : List Nat} (hr : RwM ad h r) (hd : Dg n r) (h1 : 1 ≤ r.length) (h6 : r.length ≤ 6) (hQ : Q (some (.int (nI (cost (hwD n T tk d) (onD n T tk d sz) 6 r)))) h) : Rt σ 255 (codeOf 255) (am_args 0 [.ref m, .int (nI r.length)]) [] h Q := by
  obtain ⟨⟨⟨⟨f125, f125'⟩, f126, f126'⟩, -⟩, -, ⟨f131, f131'⟩, -⟩ := qm_f.1
  obtain ⟨⟨⟨t87, k87⟩, t88, k88⟩, -, k49, k50⟩ := qm_c
  obtain ⟨⟨-, -, s180, s181⟩, -⟩ := qm_s
  obtain ⟨⟨-, -, m256, m257⟩, -⟩ := qm_m
  obtain ⟨-, ⟨⟨f86, f86'⟩, f87, f87'⟩, -⟩ := fi_g
  obtain ⟨-, ⟨⟨t49, -⟩, t50, -⟩, -⟩ := fi_c
  obtain ⟨-, -, -, t92⟩ := pl_t
  obtain ⟨⟨⟨c11, c11'⟩, -⟩, -⟩ := m_cls
  have n6 : n ≤ 6 := hD.1.1.1.1.1
  have htn := hD.1.1.2.1.2
  have hB := pd_lgb hD
  have hZ := hD.2
  obtain ⟨vm, xm, -⟩ := at_kind hT.1 (by omega) (by omega) htn hm
  rw [c11'] at xm
  have k92 := pr_92.1.1.2
  have on6 : ∀ k, onD n T tk d sz 6 k = bY (tk k) := fun k => by
    unfold onD
    rw [if_neg (by omega)]
  -- an entry of the row
  have row : ∀ {k j pc1 pc2 pc3 pc4 : Nat} {c1 c2 : Int} {tl : List (Nat × AI)} {L : LV} {St : List Value} {Q' : Option Value → AH → Prop} {lk : Nat}, r[k]? = some j → lv_get 0 L = some (.ref m) → lv_get lk L = some (.int (nI k)) → Rt σ 255 tl L (.int (nI j) :: St) h Q' → Rt σ 255 ((pc1, (1, 0, 2)) :: (pc2, (8, 131, c1)) :: (pc3, (1, lk, 0)) :: (pc4, (10, 0, c2)) :: tl) L St h Q' := fun {k j pc1 pc2 pc3 pc4 c1 c2 tl L St Q' lk} hj l0 lk' hr' => rl_load l0 rfl (ra_row hT hm (by rw [f131']; exact t92) f131 fun q92 hq92 => rl_load lk' rfl (ra_ald hT.1 (by omega) (by omega) hq92 (hr k j hj) (by rw [k92]; rfl) (by
    have := (List.getElem?_eq_some_iff.mp hj).1
    omega) hr'))
  have row1 : ∀ {k j pc1 pc2 pc3 pc4 pc5 pc6 : Nat} {c1 c2 c3 : Int} {tl : List (Nat × AI)} {L : LV} {St : List Value} {Q' : Option Value → AH → Prop} {lk : Nat}, r[k + 1]? = some j → lv_get 0 L = some (.ref m) → lv_get lk L = some (.int (nI k)) → Rt σ 255 tl L (.int (nI j) :: St) h Q' → Rt σ 255 ((pc1, (1, 0, 2)) :: (pc2, (8, 131, c1)) :: (pc3, (1, lk, 0)) :: (pc5, (0, 0, 1)) :: (pc6, (4, 0, c3)) :: (pc4, (10, 0, c2)) :: tl) L St h Q' := fun {k j pc1 pc2 pc3 pc4 pc5 pc6 c1 c2 c3 tl L St Q' lk} hj l0 lk' hr' => rl_load l0 rfl (ra_row hT hm (by rw [f131']; exact t92) f131 fun q92 hq92 => rl_load lk' rfl (rl_const (rl_bin (z := nI (k + 1)) (by
    have := (List.getElem?_eq_some_iff.mp hj).1
    show some _ = some _
    rw [nI_suc (by omega)]) (ra_ald hT.1 (by omega) (by omega) hq92 (hr (k + 1) j hj) (by rw [k92]; rfl) (by
    have := (List.getElem?_eq_some_iff.mp hj).1
    omega) hr'))))
  have loop : ∀ (rest : List Nat) (j k Mk : Nat) (L : LV), r.drop k = j :: rest → Mk + cost (hwD n T tk d) (onD n T tk d sz) j rest = cost (hwD n T tk d) (onD n T tk d sz) 6 r → lv_get 0 L = some (.ref m) → lv_get 1 L = some (.int (nI r.length)) → lv_get 2 L = some (.int (nI Mk)) → lv_get 3 L = some (.int (nI k)) → Rt σ 255 (jump 255 21) L [] h Q := by
    have tb := cost_le (p := 6) hB hd
    intro rest
    induction rest with
    | nil =>
      intro j k Mk L hk hM l0 l1 l2 l3
      have hkl : k + 1 = r.length := by
        have := congrArg List.length hk
        rw [List.length_drop] at this
        simp only [List.length_cons, List.length_nil] at this
        omega
      have hj : r[k]? = some j := by
        have := congrArg (fun l => l[0]?) hk
        rw [List.getElem?_drop, Nat.add_zero] at this
        exact this
      have hjn : j < n := hd j (List.mem_of_getElem? hj)
      replace hM : Mk + hwD n T tk d j = cost (hwD n T tk d) (onD n T tk d sz) 6 r := hM
      have eh : hwD n T tk d j = byD d (tk j) 50 50 T := by
        unfold hwD
        rw [if_pos hjn]
      rw [j255_21]
      refine rl_load l3 rfl (rl_load l1 rfl (rl_icmpF ?_ (rl_load l3 rfl (rl_const (rl_bin (z := nI (k + 1)) (by show some _ = some _; rw [nI_suc (by omega)]) (rl_load l1 rfl (rl_icmpT ?_ ?_)))))))
      · show some (decide (nI r.length ≤ nI k)) = some false
        rw [decide_eq_false (by rw [tx_le (by omega) (by omega)]; omega)]
      · show some (decide (nI r.length ≤ nI (k + 1))) = some true
        rw [decide_eq_true ((tx_le (by omega) (by omega)).mpr (by omega))]
      show Rt σ 255 (jump 255 64) _ _ _ _
      rw [j255_64]
      refine rl_const ?_
      rw [j255_65]
      have g4 : ∀ {z : Nat} {u : Value}, z ≤ 3 → u.category = 1 → lv_get z L = some u → lv_get z (lv_put 4 (.int (Int32.ofInt 0)) L) = some u := fun {z u} hz hu hg => get_put hu rfl (by omega) hg
      refine rl_store rfl (rl_load (g4 (by omega) rfl l3) rfl (rl_const (rl_bin (z := nI (k + 1)) (by show some _ = some _; rw [nI_suc (by omega)]) (rl_load (g4 (by omega) rfl l1) rfl (rl_icmpT ?_ ?_)))))
      · show some (decide (nI r.length ≤ nI (k + 1))) = some true
        rw [decide_eq_true ((tx_le (by omega) (by omega)).mpr (by omega))]
      show Rt σ 255 (jump 255 90) _ _ _ _
      rw [j255_90]
      refine rl_const ?_
      rw [j255_91]
      have g5 : ∀ {z : Nat} {u : Value}, z ≤ 3 → u.category = 1 → lv_get z L = some u → lv_get z (lv_put 5 (.int (Int32.ofInt 0)) (lv_put 4 (.int (Int32.ofInt 0)) L)) = some u := fun {z u} hz hu hg => get_put hu rfl (by omega) (g4 hz hu hg)
      refine rl_store rfl (rl_load (g5 (by omega) rfl l2) rfl (rl_load (v := .int (Int32.ofInt 0)) (get_put rfl rfl (by omega) rfl) rfl (rl_ifT rfl ?_)))
      show Rt σ 255 (jump 255 126) _ _ _ _
      rw [j255_126]
      refine rl_load (g5 (by omega) rfl l0) rfl (row hj (g5 (by omega) rfl l0) (g5 (by omega) rfl l3) (rl_const (rl_const (rl_callv (as := [.int (nI j), .int (nI 50), .int (nI 50)]) (r := [.int (nI Mk)]) s181 rfl rfl xm (by show 1 ≤ 8; omega) (four_okN m257) (M_byT hT hm hD hjn (by omega) (by omega) ?_)))))
      refine rl_load (g5 (by omega) rfl l3) rfl (rl_const (rl_bin (z := nI (k + 1)) (by show some _ = some _; rw [nI_suc (by omega)]) (rl_load (g5 (by omega) rfl l1) rfl (rl_icmpT ?_ ?_))))
      · show some (decide (nI r.length ≤ nI (k + 1))) = some true
        rw [decide_eq_true ((tx_le (by omega) (by omega)).mpr (by omega))]
      show Rt σ 255 (jump 255 162) _ _ _ _
      rw [j255_162]
      refine rl_const ?_
      rw [j255_163]
      refine rl_bin (z := nI (hwD n T tk d j)) (by show some (nI (byD d (tk j) 50 50 T) + nI 0) = some _; rw [eh]; rw [nI_plus (by omega), Nat.add_zero]) ?_
      rw [j255_164]
      refine rl_bin (z := nI (Mk + hwD n T tk d j)) (by show some _ = some _; rw [nI_plus (by omega)]) (rl_store rfl (rl_iinc (get_put rfl rfl (by omega) (g5 (by omega) rfl l3)) (rl_goto ?_)))
      show Rt σ 255 (jump 255 21) _ _ _ _
      rw [nI_suc (by omega), j255_21]
      refine rl_load rfl rfl (rl_load (get_put rfl rfl (by omega) (get_put rfl rfl (by omega) (g5 (by omega) rfl l1))) rfl (rl_icmpT ?_ ?_))
      · show some (decide (nI r.length ≤ nI (k + 1))) = some true
        rw [decide_eq_true ((tx_le (by omega) (by omega)).mpr (by omega))]
      show Rt σ 255 (jump 255 172) _ _ _ _
      rw [j255_172]
      rw [← hM] at hQ
      exact rl_load (v := .int (nI (Mk + hwD n T tk d j))) (get_put rfl rfl (by omega) rfl) rfl (rl_ret1 hQ)
    | cons j2 rest ih =>
      intro j k Mk L hk hM l0 l1 l2 l3
      have hkl : k + 1 < r.length := by
        have := congrArg List.length hk
        rw [List.length_drop] at this
        simp only [List.length_cons] at this
        omega
      have hj : r[k]? = some j := by
        have := congrArg (fun l => l[0]?) hk
        rw [List.getElem?_drop, Nat.add_zero] at this
        exact this
      have hj2 : r[k + 1]? = some j2 := by
        have := congrArg (fun l => l[1]?) hk
        rw [List.getElem?_drop] at this
        exact this
      have hdr : r.drop (k + 1) = j2 :: rest := by
        rw [← List.drop_drop, hk]
        rfl
      have hjn : j < n := hd j (List.mem_of_getElem? hj)
      have hj2n : j2 < n := hd j2 (List.mem_of_getElem? hj2)
      replace hM : Mk + (onD n T tk d sz j j2 + cost (hwD n T tk d) (onD n T tk d sz) j2 rest) = cost (hwD n T tk d) (onD n T tk d sz) 6 r := hM
      obtain ⟨⟨kk, qk, ⟨-, g3, gk⟩, hK⟩, -⟩ := pd_tk hD hj2n
      -- behind the leg
      have nx : ∀ (L' : LV), lv_get 0 L' = some (.ref m) → lv_get 1 L' = some (.int (nI r.length)) → lv_get 3 L' = some (.int (nI k)) → Rt σ 255 (jump 255 164) L' [.int (nI (onD n T tk d sz j j2)), .int (nI Mk)] h Q := fun L' m0 m1 m3 => by
        rw [j255_164]
        refine rl_bin (z := nI (Mk + onD n T tk d sz j j2)) (by show some _ = some _; rw [nI_plus (by omega)]) (rl_store rfl (rl_iinc (get_put rfl rfl (by omega) m3) (rl_goto ?_)))
        rw [nI_suc (by omega)]
        exact ih j2 (k + 1) (Mk + onD n T tk d sz j j2) _ hdr (by omega) (get_put rfl rfl (by omega) (get_put rfl rfl (by omega) m0)) (get_put rfl rfl (by omega) (get_put rfl rfl (by omega) m1)) (get_put rfl rfl (by omega) rfl) rfl
      -- the next kerb
      have mid : ∀ (b : Int32) (L' : LV), L' = lv_put 4 (.int b) L → (b = 1 ∧ sz j2 = sz j) ∨ (b = 0 ∧ ¬ sz j2 = sz j) → Rt σ 255 ((67, (1, 3, 0)) :: (68, (0, 0, 1)) :: (69, (4, 0, 0)) :: (70, (1, 1, 0)) :: (71, (5, 3, 90)) :: (74, (1, 0, 2)) :: (75, (8, 125, 0)) :: (78, (1, 0, 2)) :: (79, (8, 131, 0)) :: (82, (1, 3, 0)) :: (83, (0, 0, 1)) :: (84, (4, 0, 0)) :: (85, (10, 0, 0)) :: (86, (10, 0, 0)) :: (87, (7, 0, 91)) :: jump 255 90) L' [] h Q := fun b L' eL hb => by
        subst eL
        have g4 : ∀ {z : Nat} {u : Value}, z ≤ 3 → u.category = 1 → lv_get z L = some u → lv_get z (lv_put 4 (.int b) L) = some u := fun {z u} hz hu hg => get_put hu rfl (by omega) hg
        refine rl_load (g4 (by omega) rfl l3) rfl (rl_const (rl_bin (z := nI (k + 1)) (by show some _ = some _; rw [nI_suc (by omega)]) (rl_load (g4 (by omega) rfl l1) rfl (rl_icmpF ?_ (rl_load (g4 (by omega) rfl l0) rfl (ra_row hT hm (by rw [f125']; exact t87) f125 fun q87 hq87 => row1 hj2 (g4 (by omega) rfl l0) (g4 (by omega) rfl l3) (ra_ald hT.1 (by omega) (by omega) hq87 g3 (by rw [k87]; rfl) (by omega) (rl_goto ?_))))))))
        · show some (decide (nI r.length ≤ nI (k + 1))) = some false
          rw [decide_eq_false (by rw [tx_le (by omega) (by omega)]; omega)]
        show Rt σ 255 (jump 255 91) _ _ _ _
        rw [j255_91]
        have g5 : ∀ {z : Nat} {u : Value}, z ≤ 3 → u.category = 1 → lv_get z L = some u → lv_get z (lv_put 5 (.int (nI kk)) (lv_put 4 (.int b) L)) = some u := fun {z u} hz hu hg => get_put hu rfl (by omega) (g4 hz hu hg)
        refine rl_store rfl (rl_load (g5 (by omega) rfl l2) rfl (rl_load (v := .int b) (get_put rfl rfl (by omega) rfl) rfl ?_))
        rcases hb with ⟨rfl, es⟩ | ⟨rfl, es⟩
        · have ev : onD n T tk d sz j j2 = byD d (tk j) (tk j2).1.1 (tk j2).1.2 T := by
            unfold onD
            rw [if_pos hjn, if_pos es.symm]
          refine rl_ifF rfl (rl_load (g5 (by omega) rfl l0) rfl (row hj (g5 (by omega) rfl l0) (g5 (by omega) rfl l3) (rl_load (g5 (by omega) rfl l0) rfl (ra_row hT hm (by rw [f86']; exact t49) f86 fun q49 hq49 => rl_load (v := .int (nI kk)) rfl rfl (ra_ald hT.1 (by omega) (by omega) hq49 hK.1.1.2 (by rw [k49]; rfl) (by omega) (rl_load (g5 (by omega) rfl l0) rfl (ra_row hT hm (by rw [f87']; exact t50) f87 fun q50 hq50 => rl_load (v := .int (nI kk)) rfl rfl (ra_ald hT.1 (by omega) (by omega) hq50 hK.2.1.2 (by rw [k50]; rfl) (by omega) (rl_callv (as := [.int (nI j), .int (nI (tk j2).1.1), .int (nI (tk j2).1.2)]) (r := [.int (nI Mk)]) s181 rfl rfl xm (by show 1 ≤ 8; omega) (four_okN m257) (M_byT hT hm hD hjn hK.1.2 hK.2.2 (rl_goto ?_)))))))))))
          show Rt σ 255 (jump 255 164) _ _ _ _
          rw [← ev]
          exact nx _ (g5 (by omega) rfl l0) (g5 (by omega) rfl l1) (g5 (by omega) rfl l3)
        · have ev : onD n T tk d sz j j2 = hwD n T tk d j + bY (tk j2) := by
            unfold onD
            rw [if_pos hjn, if_neg (fun f => es f.symm)]
          have eh : hwD n T tk d j = byD d (tk j) 50 50 T := by
            unfold hwD
            rw [if_pos hjn]
          refine rl_ifT rfl ?_
          show Rt σ 255 (jump 255 126) _ _ _ _
          rw [j255_126]
          refine rl_load (g5 (by omega) rfl l0) rfl (row hj (g5 (by omega) rfl l0) (g5 (by omega) rfl l3) (rl_const (rl_const (rl_callv (as := [.int (nI j), .int (nI 50), .int (nI 50)]) (r := [.int (nI Mk)]) s181 rfl rfl xm (by show 1 ≤ 8; omega) (four_okN m257) (M_byT hT hm hD hjn (by omega) (by omega) ?_)))))
          refine rl_load (g5 (by omega) rfl l3) rfl (rl_const (rl_bin (z := nI (k + 1)) (by show some _ = some _; rw [nI_suc (by omega)]) (rl_load (g5 (by omega) rfl l1) rfl (rl_icmpF ?_ (rl_load (g5 (by omega) rfl l0) rfl (row1 hj2 (g5 (by omega) rfl l0) (g5 (by omega) rfl l3) (rl_callv (as := [.int (nI j2)]) (r := [.int (nI (byD d (tk j) 50 50 T)), .int (nI Mk)]) s180 rfl rfl xm (by show 2 ≤ 8; omega) (two_ok m256) (M_fromY hT hm (by omega) (pd_tk hD hj2n) (rl_goto ?_)))))))))
          · show some (decide (nI r.length ≤ nI (k + 1))) = some false
            rw [decide_eq_false (by rw [tx_le (by omega) (by omega)]; omega)]
          show Rt σ 255 (jump 255 163) _ _ _ _
          rw [j255_163]
          have ho := hB.2 j j2 hj2n
          refine rl_bin (z := nI (onD n T tk d sz j j2)) (by show some _ = some _; rw [nI_plus (by omega), ← eh, ← ev]) (nx _ (g5 (by omega) rfl l0) (g5 (by omega) rfl l1) (g5 (by omega) rfl l3))
      have k88' := k88
      rw [j255_21]
      refine rl_load l3 rfl (rl_load l1 rfl (rl_icmpF ?_ (rl_load l3 rfl (rl_const (rl_bin (z := nI (k + 1)) (by show some _ = some _; rw [nI_suc (by omega)]) (rl_load l1 rfl (rl_icmpF ?_ (rl_load l0 rfl (ra_row hT hm (by rw [f126']; exact t88) f126 fun q88 hq88 => row1 hj2 l0 l3 (ra_ald hT.1 (by omega) (by omega) hq88 (hZ j2 hj2n).2 (by rw [k88]; rfl) (by omega) (rl_load l0 rfl (ra_row hT hm (by rw [f126']; exact t88) f126 fun q88' hq88' => row hj l0 l3 (ra_ald hT.1 (by omega) (by omega) hq88' (hZ j hjn).2 (by rw [k88]; rfl) (by omega) ?_)))))))))))))
      · show some (decide (nI r.length ≤ nI k)) = some false
        rw [decide_eq_false (by rw [tx_le (by omega) (by omega)]; omega)]
      · show some (decide (nI r.length ≤ nI (k + 1))) = some false
        rw [decide_eq_false (by rw [tx_le (by omega) (by omega)]; omega)]
      by_cases es : sz j2 = sz j
      · refine rl_icmpF (by show some (decide (¬ sz j2 = sz j)) = some false; rw [decide_eq_false (fun f => f es)]) (rl_const (rl_goto ?_))
        show Rt σ 255 (jump 255 65) _ _ _ _
        rw [j255_65]
        exact rl_store rfl (mid 1 _ rfl (Or.inl ⟨rfl, es⟩))
      · refine rl_icmpT (by show some (decide (¬ sz j2 = sz j)) = some true; rw [decide_eq_true es]) ?_
        show Rt σ 255 (jump 255 64) _ _ _ _
        rw [j255_64]
        refine rl_const ?_
        rw [j255_65]
        exact rl_store rfl (mid 0 _ rfl (Or.inr ⟨rfl, es⟩))
  obtain ⟨j, rest, er⟩ : ∃ j rest, r = j :: rest := by
    cases r with
    | nil => exact absurd h1 (by show ¬ 1 ≤ 0; omega)
    | cons j rest => exact ⟨j, rest, rfl⟩
  have hj : r[0]? = some j := by rw [er]; rfl
  have hjn : j < n := hd j (List.mem_of_getElem? hj)
  have nz : ¬ nI r.length = 0 := fun f => by
    have := nI_eqn (a := r.length) (b := 0) (by omega) (by omega) f
    omega
  rw [head_255]
  refine rl_load rfl rfl (rl_ifT (by show some (decide (¬ nI r.length = 0)) = some true; rw [decide_eq_true nz]) ?_)
  show Rt σ 255 (jump 255 8) _ _ _ _
  rw [j255_8]
  refine rl_load rfl rfl (rl_load rfl rfl (ra_row hT hm (by rw [f131']; exact t92) f131 fun q92 hq92 => rl_const (ra_ald (p := 0) hT.1 (by omega) (by omega) hq92 (hr 0 j hj) (by rw [k92]; rfl) (by omega) (rl_callv (as := [.int (nI j)]) (r := []) s180 rfl rfl xm (by show 0 ≤ 8; omega) (two_ok m256) (M_fromY hT hm (by omega) (pd_tk hD hjn) ?_)))))
  show Rt σ 255 (jump 255 18) _ _ _ _
  rw [j255_18]
  refine rl_store rfl (rl_const (rl_store rfl ?_))
  exact loop rest j 0 (bY (tk j)) _ (by rw [List.drop_zero, er]) (by rw [er, cost, on6]) rfl rfl rfl rfl
end
end
