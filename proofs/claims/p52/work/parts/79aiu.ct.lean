section
/-! ===== COUNT: both sides by hand (under way) ===== -/
theorem code_155 : codeOf 155 = [(0, (1, 1, 0)), (1, (22, 4, 0)), (64, (1, 0, 2)), (65, (8, 11, 0)), (68, (13, 1, 0)), (69, (1, 0, 2)), (70, (8, 4, 0)), (73, (12, 13, 0)), (76, (13, 1, 0)), (77, (1, 0, 2)), (78, (8, 5, 0)), (81, (12, 13, 0)), (84, (13, 1, 0)), (85, (1, 0, 2)), (86, (12, 112, 0)), (89, (13, 1, 0)), (90, (1, 0, 2)), (91, (8, 6, 0)), (94, (12, 13, 0)), (97, (13, 1, 0)), (98, (1, 0, 2)), (99, (8, 26, 0)), (102, (13, 1, 0)), (103, (1, 0, 2)), (104, (8, 7, 0)), (107, (12, 13, 0)), (110, (13, 1, 0)), (111, (1, 0, 2)), (112, (12, 113, 0)), (115, (13, 1, 0)), (116, (1, 0, 2)), (117, (8, 48, 0)), (120, (13, 1, 0)), (121, (1, 0, 2)), (122, (8, 8, 0)), (125, (8, 45, 0)), (128, (12, 13, 0)), (131, (13, 1, 0)), (132, (1, 0, 2)), (133, (12, 114, 0)), (136, (13, 1, 0)), (137, (1, 0, 2)), (138, (8, 12, 0)), (141, (13, 1, 0)), (142, (0, 0, -2)), (144, (13, 1, 0))] := by decide +kernel
theorem head_155 : codeOf 155 = [(0, (1, 1, 0)), (1, (22, 4, 0))] ++ jump 155 64 := by rw [jump_jmp, code_155]; rfl
theorem j155_64 : jump 155 64 = [(64, (1, 0, 2)), (65, (8, 11, 0)), (68, (13, 1, 0))] ++ jump 155 69 := by rw [jump_jmp, jump_jmp, code_155]; rfl
theorem j155_69 : jump 155 69 = [(69, (1, 0, 2)), (70, (8, 4, 0)), (73, (12, 13, 0)), (76, (13, 1, 0))] ++ jump 155 77 := by rw [jump_jmp, jump_jmp, code_155]; rfl
theorem j155_77 : jump 155 77 = [(77, (1, 0, 2)), (78, (8, 5, 0)), (81, (12, 13, 0)), (84, (13, 1, 0))] ++ jump 155 85 := by rw [jump_jmp, jump_jmp, code_155]; rfl
theorem j155_85 : jump 155 85 = [(85, (1, 0, 2)), (86, (12, 112, 0)), (89, (13, 1, 0))] ++ jump 155 90 := by rw [jump_jmp, jump_jmp, code_155]; rfl
theorem j155_90 : jump 155 90 = [(90, (1, 0, 2)), (91, (8, 6, 0)), (94, (12, 13, 0)), (97, (13, 1, 0))] ++ jump 155 98 := by rw [jump_jmp, jump_jmp, code_155]; rfl
theorem j155_98 : jump 155 98 = [(98, (1, 0, 2)), (99, (8, 26, 0)), (102, (13, 1, 0))] ++ jump 155 103 := by rw [jump_jmp, jump_jmp, code_155]; rfl
theorem j155_103 : jump 155 103 = [(103, (1, 0, 2)), (104, (8, 7, 0)), (107, (12, 13, 0)), (110, (13, 1, 0))] ++ jump 155 111 := by rw [jump_jmp, jump_jmp, code_155]; rfl
theorem j155_111 : jump 155 111 = [(111, (1, 0, 2)), (112, (12, 113, 0)), (115, (13, 1, 0))] ++ jump 155 116 := by rw [jump_jmp, jump_jmp, code_155]; rfl
theorem j155_116 : jump 155 116 = [(116, (1, 0, 2)), (117, (8, 48, 0)), (120, (13, 1, 0))] ++ jump 155 121 := by rw [jump_jmp, jump_jmp, code_155]; rfl
theorem j155_121 : jump 155 121 = [(121, (1, 0, 2)), (122, (8, 8, 0)), (125, (8, 45, 0)), (128, (12, 13, 0)), (131, (13, 1, 0))] ++ jump 155 132 := by rw [jump_jmp, jump_jmp, code_155]; rfl
theorem j155_132 : jump 155 132 = [(132, (1, 0, 2)), (133, (12, 114, 0)), (136, (13, 1, 0))] ++ jump 155 137 := by rw [jump_jmp, jump_jmp, code_155]; rfl
theorem j155_137 : jump 155 137 = [(137, (1, 0, 2)), (138, (8, 12, 0)), (141, (13, 1, 0))] ++ jump 155 142 := by rw [jump_jmp, jump_jmp, code_155]; rfl
theorem j155_142 : jump 155 142 = [(142, (0, 0, -2)), (144, (13, 1, 0))] := by rw [jump_jmp, code_155]; rfl
theorem code_156 : codeOf 156 = [(0, (0, 0, 0)), (1, (2, 1, 0)), (2, (0, 0, 0)), (3, (2, 2, 0)), (4, (1, 2, 0)), (5, (1, 0, 2)), (6, (8, 5, 0)), (9, (12, 13, 0)), (12, (5, 3, 41)), (15, (1, 0, 2)), (16, (8, 5, 0)), (19, (1, 2, 0)), (20, (12, 17, 0)), (23, (28, 3, 0)), (26, (8, 19, 0)), (29, (20, 1, 35)), (32, (3, 1, 1)), (35, (3, 2, 1)), (38, (7, 0, 4)), (41, (1, 1, 0)), (42, (13, 1, 0))] := by decide +kernel
theorem head_156 : codeOf 156 = [(0, (0, 0, 0)), (1, (2, 1, 0)), (2, (0, 0, 0)), (3, (2, 2, 0))] ++ jump 156 4 := by rw [jump_jmp, code_156]; rfl
theorem j156_4 : jump 156 4 = [(4, (1, 2, 0)), (5, (1, 0, 2)), (6, (8, 5, 0)), (9, (12, 13, 0)), (12, (5, 3, 41)), (15, (1, 0, 2)), (16, (8, 5, 0)), (19, (1, 2, 0)), (20, (12, 17, 0)), (23, (28, 3, 0)), (26, (8, 19, 0)), (29, (20, 1, 35)), (32, (3, 1, 1))] ++ jump 156 35 := by rw [jump_jmp, jump_jmp, code_156]; rfl
theorem j156_35 : jump 156 35 = [(35, (3, 2, 1)), (38, (7, 0, 4))] ++ jump 156 41 := by rw [jump_jmp, jump_jmp, code_156]; rfl
theorem j156_41 : jump 156 41 = [(41, (1, 1, 0)), (42, (13, 1, 0))] := by rw [jump_jmp, code_156]; rfl
theorem code_157 : codeOf 157 = [(0, (0, 0, 0)), (1, (2, 1, 0)), (2, (0, 0, 0)), (3, (2, 2, 0)), (4, (1, 2, 0)), (5, (1, 0, 2)), (6, (8, 7, 0)), (9, (12, 13, 0)), (12, (5, 3, 51)), (15, (1, 0, 2)), (16, (8, 7, 0)), (19, (1, 2, 0)), (20, (12, 17, 0)), (23, (28, 5, 0)), (26, (8, 30, 0)), (29, (2, 3, 2)), (30, (1, 3, 2)), (31, (20, 0, 45)), (34, (1, 0, 2)), (35, (1, 3, 2)), (36, (12, 62, 0)), (39, (6, 5, 45)), (42, (3, 1, 1)), (45, (3, 2, 1)), (48, (7, 0, 4)), (51, (1, 1, 0)), (52, (13, 1, 0))] := by decide +kernel
theorem head_157 : codeOf 157 = [(0, (0, 0, 0)), (1, (2, 1, 0)), (2, (0, 0, 0)), (3, (2, 2, 0))] ++ jump 157 4 := by rw [jump_jmp, code_157]; rfl
theorem j157_4 : jump 157 4 = [(4, (1, 2, 0)), (5, (1, 0, 2)), (6, (8, 7, 0)), (9, (12, 13, 0)), (12, (5, 3, 51)), (15, (1, 0, 2)), (16, (8, 7, 0)), (19, (1, 2, 0)), (20, (12, 17, 0)), (23, (28, 5, 0)), (26, (8, 30, 0)), (29, (2, 3, 2)), (30, (1, 3, 2)), (31, (20, 0, 45)), (34, (1, 0, 2)), (35, (1, 3, 2)), (36, (12, 62, 0)), (39, (6, 5, 45)), (42, (3, 1, 1))] ++ jump 157 45 := by rw [jump_jmp, jump_jmp, code_157]; rfl
theorem j157_45 : jump 157 45 = [(45, (3, 2, 1)), (48, (7, 0, 4))] ++ jump 157 51 := by rw [jump_jmp, jump_jmp, code_157]; rfl
theorem j157_51 : jump 157 51 = [(51, (1, 1, 0)), (52, (13, 1, 0))] := by rw [jump_jmp, code_157]; rfl
theorem code_158 : codeOf 158 = [(0, (1, 0, 2)), (1, (8, 3, 0)), (4, (8, 51, 0)), (7, (2, 1, 0)), (8, (0, 0, 0)), (9, (2, 2, 0)), (10, (1, 2, 0)), (11, (1, 0, 2)), (12, (8, 2, 0)), (15, (23, 0, 0)), (16, (5, 3, 37)), (19, (1, 1, 0)), (20, (1, 0, 2)), (21, (8, 2, 0)), (24, (1, 2, 0)), (25, (10, 4, 0)), (26, (8, 52, 0)), (29, (4, 0, 0)), (30, (2, 1, 0)), (31, (3, 2, 1)), (34, (7, 0, 10)), (37, (1, 1, 0)), (38, (13, 1, 0))] := by decide +kernel
theorem head_158 : codeOf 158 = [(0, (1, 0, 2)), (1, (8, 3, 0)), (4, (8, 51, 0)), (7, (2, 1, 0)), (8, (0, 0, 0)), (9, (2, 2, 0))] ++ jump 158 10 := by rw [jump_jmp, code_158]; rfl
theorem j158_10 : jump 158 10 = [(10, (1, 2, 0)), (11, (1, 0, 2)), (12, (8, 2, 0)), (15, (23, 0, 0)), (16, (5, 3, 37)), (19, (1, 1, 0)), (20, (1, 0, 2)), (21, (8, 2, 0)), (24, (1, 2, 0)), (25, (10, 4, 0)), (26, (8, 52, 0)), (29, (4, 0, 0)), (30, (2, 1, 0)), (31, (3, 2, 1)), (34, (7, 0, 10))] ++ jump 158 37 := by rw [jump_jmp, jump_jmp, code_158]; rfl
theorem j158_37 : jump 158 37 = [(37, (1, 1, 0)), (38, (13, 1, 0))] := by rw [jump_jmp, code_158]; rfl
theorem code_270 : codeOf 270 = [(0, (0, 0, 0)), (1, (2, 2, 0)), (2, (1, 1, 0)), (3, (22, 8, 0)), (64, (1, 0, 2)), (65, (8, 140, 0)), (68, (13, 1, 0)), (69, (1, 0, 2)), (70, (8, 137, 0)), (73, (13, 1, 0)), (74, (1, 0, 2)), (75, (8, 138, 0)), (78, (13, 1, 0)), (79, (0, 0, 0)), (80, (2, 3, 0)), (81, (1, 3, 0)), (82, (1, 0, 2)), (83, (8, 138, 0)), (86, (5, 3, 112)), (89, (1, 2, 0)), (90, (1, 0, 2)), (91, (8, 91, 0)), (94, (1, 3, 0)), (95, (10, 0, 0)), (96, (6, 1, 103)), (99, (0, 0, 1)), (100, (7, 0, 104)), (103, (0, 0, 0)), (104, (4, 0, 0)), (105, (2, 2, 0)), (106, (3, 3, 1)), (109, (7, 0, 81)), (112, (1, 2, 0)), (113, (13, 1, 0)), (114, (1, 0, 2)), (115, (8, 139, 0)), (118, (13, 1, 0)), (119, (1, 0, 2)), (120, (8, 141, 0)), (123, (13, 1, 0)), (124, (1, 0, 2)), (125, (8, 149, 0)), (128, (13, 1, 0)), (129, (0, 0, 0)), (130, (2, 3, 0)), (131, (1, 3, 0)), (132, (1, 0, 2)), (133, (8, 149, 0)), (136, (5, 3, 162)), (139, (1, 2, 0)), (140, (1, 0, 2)), (141, (1, 3, 0)), (142, (12, 156, 0)), (145, (0, 0, -1)), (146, (5, 1, 153)), (149, (0, 0, 0)), (150, (7, 0, 154)), (153, (0, 0, 1)), (154, (4, 0, 0)), (155, (2, 2, 0)), (156, (3, 3, 1)), (159, (7, 0, 131)), (162, (1, 2, 0)), (163, (13, 1, 0)), (164, (1, 0, 2)), (165, (8, 154, 0)), (168, (13, 1, 0)), (169, (1, 0, 2)), (170, (8, 150, 0)), (173, (13, 1, 0)), (174, (1, 0, 2)), (175, (8, 102, 0)), (178, (0, 0, 0)), (179, (10, 0, 0)), (180, (1, 0, 2)), (181, (8, 102, 0)), (184, (0, 0, 1)), (185, (10, 0, 0)), (186, (4, 0, 0)), (187, (1, 0, 2)), (188, (8, 102, 0)), (191, (0, 0, 2)), (192, (10, 0, 0)), (193, (4, 0, 0)), (194, (1, 0, 2)), (195, (8, 102, 0)), (198, (0, 0, 3)), (199, (10, 0, 0)), (200, (4, 0, 0)), (201, (1, 0, 2)), (202, (8, 102, 0)), (205, (0, 0, 4)), (206, (10, 0, 0)), (207, (4, 0, 0)), (208, (13, 1, 0)), (209, (0, 0, 0)), (210, (2, 3, 0)), (211, (1, 3, 0)), (212, (0, 0, 399)), (215, (5, 4, 241)), (218, (1, 2, 0)), (219, (1, 0, 2)), (220, (8, 84, 0)), (223, (1, 3, 0)), (224, (10, 2, 0)), (225, (6, 0, 232)), (228, (0, 0, 1)), (229, (7, 0, 233)), (232, (0, 0, 0)), (233, (4, 0, 0)), (234, (2, 2, 0)), (235, (3, 3, 1)), (238, (7, 0, 211)), (241, (1, 2, 0)), (242, (13, 1, 0)), (243, (0, 0, -2)), (245, (13, 1, 0))] := by decide +kernel
set_option maxRecDepth 100000 in
theorem head_270 : codeOf 270 = [(0, (0, 0, 0)), (1, (2, 2, 0)), (2, (1, 1, 0)), (3, (22, 8, 0))] ++ jump 270 64 := by rw [jump_jmp, code_270]; rfl
set_option maxRecDepth 100000 in
theorem j270_64 : jump 270 64 = [(64, (1, 0, 2)), (65, (8, 140, 0)), (68, (13, 1, 0))] ++ jump 270 69 := by rw [jump_jmp, jump_jmp, code_270]; rfl
set_option maxRecDepth 100000 in
theorem j270_69 : jump 270 69 = [(69, (1, 0, 2)), (70, (8, 137, 0)), (73, (13, 1, 0))] ++ jump 270 74 := by rw [jump_jmp, jump_jmp, code_270]; rfl
set_option maxRecDepth 100000 in
theorem j270_74 : jump 270 74 = [(74, (1, 0, 2)), (75, (8, 138, 0)), (78, (13, 1, 0))] ++ jump 270 79 := by rw [jump_jmp, jump_jmp, code_270]; rfl
set_option maxRecDepth 100000 in
theorem j270_79 : jump 270 79 = [(79, (0, 0, 0)), (80, (2, 3, 0))] ++ jump 270 81 := by rw [jump_jmp, jump_jmp, code_270]; rfl
set_option maxRecDepth 100000 in
theorem j270_81 : jump 270 81 = [(81, (1, 3, 0)), (82, (1, 0, 2)), (83, (8, 138, 0)), (86, (5, 3, 112)), (89, (1, 2, 0)), (90, (1, 0, 2)), (91, (8, 91, 0)), (94, (1, 3, 0)), (95, (10, 0, 0)), (96, (6, 1, 103)), (99, (0, 0, 1)), (100, (7, 0, 104))] ++ jump 270 103 := by rw [jump_jmp, jump_jmp, code_270]; rfl
set_option maxRecDepth 100000 in
theorem j270_103 : jump 270 103 = [(103, (0, 0, 0))] ++ jump 270 104 := by rw [jump_jmp, jump_jmp, code_270]; rfl
set_option maxRecDepth 100000 in
theorem j270_104 : jump 270 104 = [(104, (4, 0, 0)), (105, (2, 2, 0)), (106, (3, 3, 1)), (109, (7, 0, 81))] ++ jump 270 112 := by rw [jump_jmp, jump_jmp, code_270]; rfl
set_option maxRecDepth 100000 in
theorem j270_112 : jump 270 112 = [(112, (1, 2, 0)), (113, (13, 1, 0))] ++ jump 270 114 := by rw [jump_jmp, jump_jmp, code_270]; rfl
set_option maxRecDepth 100000 in
theorem j270_114 : jump 270 114 = [(114, (1, 0, 2)), (115, (8, 139, 0)), (118, (13, 1, 0))] ++ jump 270 119 := by rw [jump_jmp, jump_jmp, code_270]; rfl
set_option maxRecDepth 100000 in
theorem j270_119 : jump 270 119 = [(119, (1, 0, 2)), (120, (8, 141, 0)), (123, (13, 1, 0))] ++ jump 270 124 := by rw [jump_jmp, jump_jmp, code_270]; rfl
set_option maxRecDepth 100000 in
theorem j270_124 : jump 270 124 = [(124, (1, 0, 2)), (125, (8, 149, 0)), (128, (13, 1, 0))] ++ jump 270 129 := by rw [jump_jmp, jump_jmp, code_270]; rfl
set_option maxRecDepth 100000 in
theorem j270_129 : jump 270 129 = [(129, (0, 0, 0)), (130, (2, 3, 0))] ++ jump 270 131 := by rw [jump_jmp, jump_jmp, code_270]; rfl
set_option maxRecDepth 100000 in
theorem j270_131 : jump 270 131 = [(131, (1, 3, 0)), (132, (1, 0, 2)), (133, (8, 149, 0)), (136, (5, 3, 162)), (139, (1, 2, 0)), (140, (1, 0, 2)), (141, (1, 3, 0)), (142, (12, 156, 0)), (145, (0, 0, -1)), (146, (5, 1, 153)), (149, (0, 0, 0)), (150, (7, 0, 154))] ++ jump 270 153 := by rw [jump_jmp, jump_jmp, code_270]; rfl
set_option maxRecDepth 100000 in
theorem j270_153 : jump 270 153 = [(153, (0, 0, 1))] ++ jump 270 154 := by rw [jump_jmp, jump_jmp, code_270]; rfl
set_option maxRecDepth 100000 in
theorem j270_154 : jump 270 154 = [(154, (4, 0, 0)), (155, (2, 2, 0)), (156, (3, 3, 1)), (159, (7, 0, 131))] ++ jump 270 162 := by rw [jump_jmp, jump_jmp, code_270]; rfl
set_option maxRecDepth 100000 in
theorem j270_162 : jump 270 162 = [(162, (1, 2, 0)), (163, (13, 1, 0))] ++ jump 270 164 := by rw [jump_jmp, jump_jmp, code_270]; rfl
set_option maxRecDepth 100000 in
theorem j270_164 : jump 270 164 = [(164, (1, 0, 2)), (165, (8, 154, 0)), (168, (13, 1, 0))] ++ jump 270 169 := by rw [jump_jmp, jump_jmp, code_270]; rfl
set_option maxRecDepth 100000 in
theorem j270_169 : jump 270 169 = [(169, (1, 0, 2)), (170, (8, 150, 0)), (173, (13, 1, 0))] ++ jump 270 174 := by rw [jump_jmp, jump_jmp, code_270]; rfl
set_option maxRecDepth 100000 in
theorem j270_174 : jump 270 174 = [(174, (1, 0, 2)), (175, (8, 102, 0)), (178, (0, 0, 0)), (179, (10, 0, 0)), (180, (1, 0, 2)), (181, (8, 102, 0)), (184, (0, 0, 1)), (185, (10, 0, 0)), (186, (4, 0, 0)), (187, (1, 0, 2)), (188, (8, 102, 0)), (191, (0, 0, 2)), (192, (10, 0, 0)), (193, (4, 0, 0)), (194, (1, 0, 2)), (195, (8, 102, 0)), (198, (0, 0, 3)), (199, (10, 0, 0)), (200, (4, 0, 0)), (201, (1, 0, 2)), (202, (8, 102, 0)), (205, (0, 0, 4)), (206, (10, 0, 0)), (207, (4, 0, 0)), (208, (13, 1, 0))] ++ jump 270 209 := by rw [jump_jmp, jump_jmp, code_270]; rfl
set_option maxRecDepth 100000 in
theorem j270_209 : jump 270 209 = [(209, (0, 0, 0)), (210, (2, 3, 0))] ++ jump 270 211 := by rw [jump_jmp, jump_jmp, code_270]; rfl
set_option maxRecDepth 100000 in
theorem j270_211 : jump 270 211 = [(211, (1, 3, 0)), (212, (0, 0, 399)), (215, (5, 4, 241)), (218, (1, 2, 0)), (219, (1, 0, 2)), (220, (8, 84, 0)), (223, (1, 3, 0)), (224, (10, 2, 0)), (225, (6, 0, 232)), (228, (0, 0, 1)), (229, (7, 0, 233))] ++ jump 270 232 := by rw [jump_jmp, jump_jmp, code_270]; rfl
set_option maxRecDepth 100000 in
theorem j270_232 : jump 270 232 = [(232, (0, 0, 0))] ++ jump 270 233 := by rw [jump_jmp, jump_jmp, code_270]; rfl
set_option maxRecDepth 100000 in
theorem j270_233 : jump 270 233 = [(233, (4, 0, 0)), (234, (2, 2, 0)), (235, (3, 3, 1)), (238, (7, 0, 211))] ++ jump 270 241 := by rw [jump_jmp, jump_jmp, code_270]; rfl
set_option maxRecDepth 100000 in
theorem j270_241 : jump 270 241 = [(241, (1, 2, 0)), (242, (13, 1, 0))] ++ jump 270 243 := by rw [jump_jmp, jump_jmp, code_270]; rfl
set_option maxRecDepth 100000 in
theorem j270_243 : jump 270 243 = [(243, (0, 0, -2)), (245, (13, 1, 0))] := by rw [jump_jmp, code_270]; rfl
theorem ct_f : (((fks 5).contains 10 = true ∧ fpos 5 = 9) ∧ ((fks 19).contains 3 = true ∧ fpos 19 = 2)) ∧ (((fks 138).contains 11 = true ∧ fpos 138 = 8) ∧ ((fks 91).contains 11 = true ∧ fpos 91 = 10)) := by decide +kernel
theorem ct_c : ((cdm 3 = 0 ∧ cdk 3 = 3) ∧ (ct_at 11 10 = some (7, 54, 0) ∧ cdk 54 = 20)) := by decide +kernel
/-- a list by its address -/
noncomputable def LsQ (ad : AD) (h : AH) (ql el N : Nat) : Prop := ∃ mc ed, h.1 ql = some (12, [.int mc, ed, .int (nI N)]) ∧ (N = 0 ∨ ∃ bq us, ed = .ref bq ∧ (h.1 bq = some (24, us) ∧ ∀ s, s < N → ∃ q, us[s]? = some (.ref q) ∧ ad el s = some q))
/-- a SKIP in THE YARD or not -/
noncomputable def PYd (ad : AD) (h : AH) (s : Nat) (b : Bool) : Prop := bif b then At ad h 3 s 2 .null ∧ At ad h 54 0 s (.int (nI 0)) else ∃ q j, (At ad h 3 s 2 (.ref q) ∧ At ad h 54 0 s (.int (nI j))) ∧ (0 < j ∧ j ≤ 60)
noncomputable def cY (yd : Nat → Bool) : Nat → Nat
  | 0 => 0
  | s + 1 => cY yd s + (bif yd s then 1 else 0)
/-- a LOAD whose weight is known -/
noncomputable def cKn (d : Nat → LD) : Nat → Nat
  | 0 => 0
  | e + 1 => cKn d e + (bif dLd (d e) && !(decide (dWt (d e) = 0)) then 1 else 0)
section
variable {σ : Nat → Nat} {ad : AD} {h : AH} {np N ox m s e el ql n : Nat} {ex ho : Nat → Nat → Prop} {Q : Option Value → AH → Prop} {kn : Int32} {d : Nat → LD} {yd : Nat → Bool} {tl : List (Nat × AI)} {L : LV} {S : List Value} {M pc pc2 pc3 pc4 j t kd : Nat} {c c3 c4 : Int}
theorem rl_nnN (hk : Rt σ M tl L S h Q) : Rt σ M ((pc, (20, 1, c)) :: tl) L (.null :: S) h Q := rt_nx rfl hk
theorem rl_nnR {q : Nat} (hk : Rt σ M (jump M c.toNat) L S h Q) : Rt σ M ((pc, (20, 1, c)) :: tl) L (.ref q :: S) h Q := rt_jp rfl hk
theorem rl_qsz (hl : LsQ ad h ql el N) (h4 : am_w S ≤ 8) (hk : Rt σ M tl L (.int (nI N) :: S) h Q) : Rt σ M ((pc, (12, 13, c)) :: tl) L (.ref ql :: S) h Q := by
  obtain ⟨m1, -⟩ := and2 ml_ff
  obtain ⟨mc, ed, e3, -⟩ := hl
  exact rl_callv (as := []) (r := S) spec_13 rfl rfl e3 h4 (ref_ok (blet m1)) (L_size e3 hk)
theorem rl_qget (hT : TS ad h np ex ho) (hel : el < 1000) (hkd : cdk el = kd) (hkd2 : kd ≠ 31) (hl : LsQ ad h ql el N) (hN : N ≤ 60) (hj : lv_get j L = some (.int (nI t))) (he : t < N) (h4 : am_w S ≤ 8) (hk : ∀ q, ad el t = some q → Rt σ M tl L (.ref q :: S) h Q) : Rt σ M ((pc2, (1, j, 0)) :: (pc3, (12, 17, c3)) :: (pc4, (28, kd, c4)) :: tl) L (.ref ql :: S) h Q := by
  obtain ⟨-, m2⟩ := and2 ml_ff
  obtain ⟨m2, -⟩ := and2 m2
  obtain ⟨mc, ed, e3, e4⟩ := hl
  rcases e4 with e4 | ⟨bq, us, rfl, e6, e7⟩
  · omega
  · obtain ⟨qk, u1, u2⟩ := e7 t he
    have hi := nI_nn (show t < 2147483648 by omega)
    obtain ⟨-, k', vs, o1, o2, -⟩ := hT.1 el t qk hel u2
    have ek : k' = kd := by
      rcases o2 with e | ⟨e, -⟩
      · rw [e, hkd]
      · exact absurd (hkd.symm.trans e) hkd2
    subst ek
    exact rl_load hj rfl (rl_callv (as := [.int (nI t)]) (r := S) spec_17 rfl rfl e3 h4 (two_ok (blet m2)) (L_get (u := qk) e3 e6 hi.1 ((tx_lt (by omega) (by omega)).mpr (by omega)) (by rw [hi.2]; exact u1) (rl_cast o1 (hk qk u2))))
theorem cY_le : ∀ s, cY yd s ≤ s := by
  intro s
  induction s with
  | zero => exact Nat.le_refl _
  | succ s ih =>
    rw [cY]
    cases yd s
    · rw [cond_false]; omega
    · rw [cond_true]; omega
theorem cKn_le : ∀ e, cKn d e ≤ e := by
  intro e
  induction e with
  | zero => exact Nat.le_refl _
  | succ e ih =>
    rw [cKn]
    cases (dLd (d e) && !(decide (dWt (d e) = 0)))
    · rw [cond_false]; omega
    · rw [cond_true]; omega
theorem X_yard (hT : TS ad h np ex ho) (hox : ad 10 0 = some ox) (hl : At ad h 10 0 9 (.ref ql)) (hq : LsQ ad h ql 3 n) (hn : n ≤ 40) (hy : ∀ s, s < n → PYd ad h s (yd s)) (hQ : Q (some (.int (nI (cY yd n)))) h) : Rt σ 156 (codeOf 156) (am_args 0 [.ref ox]) [] h Q := by
  obtain ⟨⟨⟨f5, f5'⟩, f19, f19'⟩, -⟩ := ct_f
  obtain ⟨⟨c3m, c3'⟩, -⟩ := ct_c
  obtain ⟨⟨⟨⟨c10, c10'⟩, -⟩, -⟩, -⟩ := pm_c
  have loop : ∀ (r s : Nat) (L : LV), s + r = n → lv_get 0 L = some (.ref ox) → lv_get 1 L = some (.int (nI (cY yd s))) → lv_get 2 L = some (.int (nI s)) → Rt σ 156 (jump 156 4) L [] h Q := by
    intro r
    induction r with
    | zero =>
      intro s L hs l0 l1 l2
      have es : s = n := by omega
      subst es
      rw [j156_4]
      refine rl_load l2 rfl (rl_load l0 rfl (ra_get hT.1 (by omega) (by omega) hox (by rw [f5']; exact hl) (by rw [c10']; exact f5) (rl_qsz hq (by show 1 ≤ 8; omega) (rl_icmpT ?_ ?_))))
      · show some (decide (nI s ≤ nI s)) = some true
        rw [decide_eq_true ((tx_le (by omega) (by omega)).mpr (Nat.le_refl _))]
      · show Rt σ 156 (jump 156 41) _ _ _ _
        rw [j156_41]
        exact rl_load l1 rfl (rl_ret1 hQ)
    | succ r ih =>
      intro s L hs l0 l1 l2
      have hsn : s < n := by omega
      have hle := cY_le (yd := yd) s
      have hp := hy s hsn
      rw [j156_4]
      refine rl_load l2 rfl (rl_load l0 rfl (ra_get hT.1 (by omega) (by omega) hox (by rw [f5']; exact hl) (by rw [c10']; exact f5) (rl_qsz hq (by show 1 ≤ 8; omega) (rl_icmpF ?_ (rl_load l0 rfl (ra_get hT.1 (by omega) (by omega) hox (by rw [f5']; exact hl) (by rw [c10']; exact f5) (rl_qget hT (by omega) c3' (by omega) hq (by omega) l2 hsn (by show 0 ≤ 8; omega) fun q3 hq3 => ?_)))))))
      · show some (decide (nI n ≤ nI s)) = some false
        rw [decide_eq_false (by rw [tx_le (by omega) (by omega)]; omega)]
      unfold PYd at hp
      cases hb : yd s
      · rw [hb, cond_false] at hp
        obtain ⟨q, j, ⟨p1, -⟩, -⟩ := hp
        refine ra_get hT.1 (by omega) (by omega) hq3 (by rw [f19']; exact p1) (by rw [c3']; exact f19) (rl_nnR ?_)
        show Rt σ 156 (jump 156 35) _ _ _ _
        rw [j156_35]
        refine rl_iinc l2 (rl_goto ?_)
        rw [nI_suc (by omega)]
        exact ih (s + 1) _ (by omega) (get_put rfl rfl (by omega) l0) (by rw [cY, hb, cond_false]; exact get_put rfl rfl (by omega) l1) rfl
      · rw [hb, cond_true] at hp
        refine ra_get hT.1 (by omega) (by omega) hq3 (by rw [f19']; exact hp.1) (by rw [c3']; exact f19) (rl_nnN (rl_iinc l1 ?_))
        rw [j156_35, nI_suc (by omega)]
        refine rl_iinc (get_put rfl rfl (by omega) l2) (rl_goto ?_)
        rw [nI_suc (by omega)]
        exact ih (s + 1) _ (by omega) (get_put rfl rfl (by omega) (get_put rfl rfl (by omega) l0)) (by rw [cY, hb, cond_true]; exact get_put rfl rfl (by omega) rfl) rfl
  rw [head_156]
  refine rl_const (rl_store rfl (rl_const (rl_store rfl ?_)))
  exact loop n 0 _ (by omega) rfl rfl rfl
theorem M_yard (hT : TS ad h np ex ho) (hm : ad 11 0 = some m) (hnn : At ad h 11 0 8 (.int (nI n))) (hn : n ≤ 40) (hy : ∀ s, s < n → PYd ad h s (yd s)) (hQ : Q (some (.int (nI (cY yd n)))) h) : ∀ (r s : Nat) (L : LV), s + r = n → lv_get 0 L = some (.ref m) → lv_get 2 L = some (.int (nI (cY yd s))) → lv_get 3 L = some (.int (nI s)) → Rt σ 270 (jump 270 81) L [] h Q := by
  obtain ⟨-, ⟨f138, f138'⟩, f91, f91'⟩ := ct_f
  obtain ⟨-, t54, k54⟩ := ct_c
  obtain ⟨⟨⟨c11, c11'⟩, -⟩, -⟩ := m_cls
  intro r
  induction r with
  | zero =>
    intro s L hs l0 l2 l3
    have es : s = n := by omega
    subst es
    rw [j270_81]
    refine rl_load l3 rfl (rl_load l0 rfl (ra_get hT.1 (by omega) (by omega) hm (by rw [f138']; exact hnn) (by rw [c11']; exact f138) (rl_icmpT ?_ ?_)))
    · show some (decide (nI s ≤ nI s)) = some true
      rw [decide_eq_true ((tx_le (by omega) (by omega)).mpr (Nat.le_refl _))]
    · show Rt σ 270 (jump 270 112) _ _ _ _
      rw [j270_112]
      exact rl_load l2 rfl (rl_ret1 hQ)
  | succ r ih =>
    intro s L hs l0 l2 l3
    have hsn : s < n := by omega
    have hle := cY_le (yd := yd) s
    have hp := hy s hsn
    have fin : ∀ (b : Nat), b ≤ 1 → cY yd (s + 1) = cY yd s + b → Rt σ 270 (jump 270 104) L [.int (nI b), .int (nI (cY yd s))] h Q := fun b hb1 hb2 => by
      rw [j270_104]
      refine rl_bin (z := nI (cY yd (s + 1))) (by show some _ = some _; rw [nI_plus (by omega), hb2]) (rl_store rfl (rl_iinc (get_put rfl rfl (by omega) l3) (rl_goto ?_)))
      rw [nI_suc (by omega)]
      exact ih (s + 1) _ (by omega) (get_put rfl rfl (by omega) (get_put rfl rfl (by omega) l0)) (get_put rfl rfl (by omega) rfl) rfl
    rw [j270_81]
    refine rl_load l3 rfl (rl_load l0 rfl (ra_get hT.1 (by omega) (by omega) hm (by rw [f138']; exact hnn) (by rw [c11']; exact f138) (rl_icmpF ?_ (rl_load l2 rfl (rl_load l0 rfl (ra_row hT hm (by rw [f91']; exact t54) f91 fun q54 hq54 => rl_load l3 rfl ?_))))))
    · show some (decide (nI n ≤ nI s)) = some false
      rw [decide_eq_false (by rw [tx_le (by omega) (by omega)]; omega)]
    unfold PYd at hp
    cases hb : yd s
    · rw [hb, cond_false] at hp
      obtain ⟨q, j, ⟨-, p2⟩, p3, p4⟩ := hp
      have nz : ¬ nI j = 0 := fun e0 => by
        have h1 := congrArg i2n e0
        rw [nI_ok (by omega), c_0] at h1
        omega
      refine ra_ald hT.1 (by omega) (by omega) hq54 p2 (by rw [k54]; rfl) (by omega) (rl_ifT (by show some (decide (¬ nI j = 0)) = some true; rw [decide_eq_true nz]) ?_)
      show Rt σ 270 (jump 270 103) _ _ _ _
      rw [j270_103]
      exact rl_const (fin 0 (by omega) (by rw [cY, hb, cond_false]))
    · rw [hb, cond_true] at hp
      refine ra_ald hT.1 (by omega) (by omega) hq54 hp.2 (by rw [k54]; rfl) (by omega) (rl_ifF rfl (rl_const (rl_goto ?_)))
      show Rt σ 270 (jump 270 104) _ _ _ _
      exact fin 1 (by omega) (by rw [cY, hb, cond_true])
theorem cKn_y (h1 : dLd (d e) = true) (h2 : dWt (d e) ≠ 0) : cKn d (e + 1) = cKn d e + 1 := by
  rw [cKn, h1, decide_eq_false h2]
  rfl
theorem cKn_n (hn : dLd (d e) = true → dWt (d e) = 0) : cKn d (e + 1) = cKn d e := by
  rw [cKn]
  cases h1 : dLd (d e)
  · rfl
  · rw [decide_eq_true (hn h1)]
    rfl
theorem X_loads (hT : TS ad h np ex ho) (hox : ad 10 0 = some ox) (hF : FtH ad h N kn d) (hQ : Q (some (.int (nI (cKn d N)))) h) : Rt σ 157 (codeOf 157) (am_args 0 [.ref ox]) [] h Q := by
  have hF0 := hF
  obtain ⟨⟨⟨hN, hl⟩, hLets, hkx, hkm⟩, hF⟩ := hF
  obtain ⟨⟨-, ⟨f30, f30'⟩, -⟩, -⟩ := wg_f
  obtain ⟨⟨⟨⟨c10, c10'⟩, -⟩, -⟩, -⟩ := pm_c
  obtain ⟨⟨⟨⟨c6, c6'⟩, c5, c5'⟩, -⟩, -⟩ := wt_c
  obtain ⟨⟨⟨-, s62⟩, -⟩, -⟩ := ft_sp
  obtain ⟨⟨⟨⟨-, m86⟩, -⟩, -⟩, -⟩ := ft_ml
  obtain ⟨vx, x1, -⟩ := at_kind hT.1 (by omega) (by omega) hkx hox
  rw [c10'] at x1
  have loop : ∀ (r e : Nat) (L : LV), e + r = N → lv_get 0 L = some (.ref ox) → lv_get 1 L = some (.int (nI (cKn d e))) → lv_get 2 L = some (.int (nI e)) → Rt σ 157 (jump 157 4) L [] h Q := by
    intro r
    induction r with
    | zero =>
      intro e L he l0 l1 l2
      have ee : e = N := by omega
      subst ee
      rw [j157_4]
      refine rl_load l2 rfl (rl_lsz hT hox hl l0 (by show 1 ≤ 8; omega) (rl_icmpT ?_ ?_))
      · show some (decide (nI e ≤ nI e)) = some true
        rw [decide_eq_true ((tx_le (by omega) (by omega)).mpr (Nat.le_refl _))]
      · show Rt σ 157 (jump 157 51) _ _ _ _
        rw [j157_51]
        exact rl_load l1 rfl (rl_ret1 hQ)
    | succ r ih =>
      intro e L he l0 l1 l2
      have heN : e < N := by omega
      have hle := cKn_le (d := d) e
      obtain ⟨h60, -, fl⟩ := hF e heN
      rw [j157_4]
      refine rl_load l2 rfl (rl_lsz hT hox hl l0 (by show 1 ≤ 8; omega) (rl_icmpF ?_ (rl_lget hT hox hl hN l0 l2 heN (by show 0 ≤ 8; omega) fun q5 hq5 => ?_)))
      · show some (decide (nI N ≤ nI e)) = some false
        rw [decide_eq_false (by rw [tx_le (by omega) (by omega)]; omega)]
      have no : ∀ v3 : Value, v3.category = 1 → (dLd (d e) = true → dWt (d e) = 0) → Rt σ 157 (jump 157 45) (lv_put 3 v3 L) [] h Q := fun v3 c3 hn => by
        rw [j157_45]
        refine rl_iinc (get_put rfl c3 (by omega) l2) (rl_goto ?_)
        rw [nI_suc (by omega)]
        exact ih (e + 1) _ (by omega) (get_put rfl rfl (by omega) (get_put rfl c3 (by omega) l0)) (by rw [cKn_n hn]; exact get_put rfl rfl (by omega) (get_put rfl c3 (by omega) l1)) rfl
      rcases fl with ⟨fl1, fl2, -⟩ | ⟨fl1, q6, n', ws, ts, ds, ⟨⟨g2, g3⟩, -⟩, -, ⟨hR, -⟩, hw⟩
      · refine ra_get hT.1 (by omega) (by omega) hq5 (by rw [f30']; exact fl2) (by rw [c5']; exact f30) (rl_store rfl (rl_load (v := .null) rfl rfl (rl_nulT0 ?_)))
        exact no .null rfl fun h => by rw [fl1] at h; cases h
      · refine ra_get hT.1 (by omega) (by omega) hq5 (by rw [f30']; exact g2) (by rw [c5']; exact f30) (rl_store rfl (rl_load (v := .ref q6) rfl rfl (rl_nulF0 (rl_load (get_put rfl rfl (by omega) l0) rfl (rl_load (v := .ref q6) rfl rfl (rl_callv (as := [.ref q6]) (r := []) s62 rfl rfl x1 (by show 0 ≤ 8; omega) (ref2_ok m86) (X_known hT hox hkx g3 hR hw ?_)))))))
        by_cases z : dWt (d e) = 0
        · refine rl_ifT (by show some (decide (dWt (d e) ≤ 0)) = some true; rw [z]; rfl) ?_
          exact no (.ref q6) rfl fun _ => z
        · have hp := wt_pos hF heN fl1 z
          refine rl_ifF (by show some (decide (dWt (d e) ≤ 0)) = some false; rw [decide_eq_false (Int32.not_le.mpr hp)]) (rl_iinc (get_put rfl rfl (by omega) l1) ?_)
          rw [j157_45, nI_suc (by omega)]
          refine rl_iinc (get_put rfl rfl (by omega) (get_put rfl rfl (by omega) l2)) (rl_goto ?_)
          rw [nI_suc (by omega)]
          exact ih (e + 1) _ (by omega) (get_put rfl rfl (by omega) (get_put rfl rfl (by omega) (get_put rfl rfl (by omega) l0))) (by rw [cKn_y fl1 z]; exact get_put rfl rfl (by omega) rfl) rfl
  rw [head_157]
  refine rl_const (rl_store rfl (rl_const (rl_store rfl ?_)))
  exact loop N 0 _ (by omega) rfl rfl rfl
theorem M_loads (hT : TS ad h np ex ho) (hm : ad 11 0 = some m) (hF : FtH ad h N kn d) (hQ : Q (some (.int (nI (cKn d N)))) h) : ∀ (r e : Nat) (L : LV), e + r = N → lv_get 0 L = some (.ref m) → lv_get 2 L = some (.int (nI (cKn d e))) → lv_get 3 L = some (.int (nI e)) → Rt σ 270 (jump 270 131) L [] h Q := by
  have hF0 := hF
  obtain ⟨⟨⟨hN, hl⟩, hLets, hkx, hkm⟩, hF⟩ := hF
  obtain ⟨f149, f149'⟩ := wg_f.2.2.1.1.1
  obtain ⟨-, -, ⟨⟨s156, -⟩, -⟩, -⟩ := ft_sp
  obtain ⟨-, ⟨⟨m218, -⟩, -⟩, -⟩ := ft_ml
  obtain ⟨⟨⟨c11, c11'⟩, -⟩, -⟩ := m_cls
  obtain ⟨vm, xm, -⟩ := at_kind hT.1 (by omega) (by omega) hLets hm
  rw [c11'] at xm
  intro r
  induction r with
  | zero =>
    intro e L he l0 l2 l3
    have ee : e = N := by omega
    subst ee
    rw [j270_131]
    refine rl_load l3 rfl (rl_load l0 rfl (ra_get hT.1 (by omega) (by omega) hm (by rw [f149']; exact hLets) (by rw [c11']; exact f149) (rl_icmpT ?_ ?_)))
    · show some (decide (nI e ≤ nI e)) = some true
      rw [decide_eq_true ((tx_le (by omega) (by omega)).mpr (Nat.le_refl _))]
    · show Rt σ 270 (jump 270 162) _ _ _ _
      rw [j270_162]
      exact rl_load l2 rfl (rl_ret1 hQ)
  | succ r ih =>
    intro e L he l0 l2 l3
    have heN : e < N := by omega
    have hle := cKn_le (d := d) e
    have fin : ∀ (b : Nat), b ≤ 1 → cKn d (e + 1) = cKn d e + b → Rt σ 270 (jump 270 154) L [.int (nI b), .int (nI (cKn d e))] h Q := fun b hb1 hb2 => by
      rw [j270_154]
      refine rl_bin (z := nI (cKn d (e + 1))) (by show some _ = some _; rw [nI_plus (by omega), hb2]) (rl_store rfl (rl_iinc (get_put rfl rfl (by omega) l3) (rl_goto ?_)))
      rw [nI_suc (by omega)]
      exact ih (e + 1) _ (by omega) (get_put rfl rfl (by omega) (get_put rfl rfl (by omega) l0)) (get_put rfl rfl (by omega) rfl) rfl
    rw [j270_131]
    refine rl_load l3 rfl (rl_load l0 rfl (ra_get hT.1 (by omega) (by omega) hm (by rw [f149']; exact hLets) (by rw [c11']; exact f149) (rl_icmpF ?_ (rl_load l2 rfl (rl_load l0 rfl (rl_load l3 rfl (rl_callv (as := [.int (nI e)]) (r := [.int (nI (cKn d e))]) s156 rfl rfl xm (by show 1 ≤ 8; omega) (two_ok m218) (M_wofE hT hm hF0 heN fun k hk => rl_const ?_))))))))
    · show some (decide (nI N ≤ nI e)) = some false
      rw [decide_eq_false (by rw [tx_le (by omega) (by omega)]; omega)]
    rcases hk with ⟨k1, k2⟩ | ⟨k1, k2, k3, -⟩
    · refine rl_icmpF (by show some (decide (¬ k = Int32.ofInt (-1))) = some false; rw [decide_eq_false (fun h => h k1)]) (rl_const (rl_goto ?_))
      exact fin 0 (by omega) (by rw [cKn_n k2, Nat.add_zero])
    · refine rl_icmpT (by show some (decide (¬ k = Int32.ofInt (-1))) = some true; rw [decide_eq_true k1]) ?_
      show Rt σ 270 (jump 270 153) _ _ _ _
      rw [j270_153]
      exact rl_const (fin 1 (by omega) (cKn_y k2 k3))
end
end
