section
/-! ===== the planner: the class's legs and sets ===== -/
theorem code_125 : codeOf 125 = [(0, (1, 0, 2)), (1, (8, 66, 0)), (4, (1, 1, 0)), (5, (5, 0, 27)), (8, (1, 0, 2)), (9, (1, 2, 2)), (10, (12, 90, 0)), (13, (1, 0, 2)), (14, (12, 91, 0)), (17, (1, 0, 2)), (18, (1, 1, 0)), (19, (12, 92, 0)), (22, (1, 0, 2)), (23, (1, 1, 0)), (24, (9, 66, 0)), (27, (1, 0, 2)), (28, (8, 47, 0)), (31, (0, 0, 1000000)), (33, (5, 3, 40)), (36, (0, 0, 1)), (37, (7, 0, 41)), (40, (0, 0, 0)), (41, (13, 4, 0))] := by decide +kernel
theorem head_125 : codeOf 125 = [(0, (1, 0, 2)), (1, (8, 66, 0)), (4, (1, 1, 0)), (5, (5, 0, 27)), (8, (1, 0, 2)), (9, (1, 2, 2)), (10, (12, 90, 0)), (13, (1, 0, 2)), (14, (12, 91, 0)), (17, (1, 0, 2)), (18, (1, 1, 0)), (19, (12, 92, 0)), (22, (1, 0, 2)), (23, (1, 1, 0)), (24, (9, 66, 0))] ++ jump 125 27 := by rw [jump_jmp, code_125]; rfl
theorem j125_27 : jump 125 27 = [(27, (1, 0, 2)), (28, (8, 47, 0)), (31, (0, 0, 1000000)), (33, (5, 3, 40)), (36, (0, 0, 1)), (37, (7, 0, 41))] ++ jump 125 40 := by rw [jump_jmp, jump_jmp, code_125]; rfl
theorem j125_40 : jump 125 40 = [(40, (0, 0, 0))] ++ jump 125 41 := by rw [jump_jmp, jump_jmp, code_125]; rfl
theorem j125_41 : jump 125 41 = [(41, (13, 4, 0))] := by rw [jump_jmp, code_125]; rfl
theorem code_126 : codeOf 126 = [(0, (0, 0, 0)), (1, (2, 2, 0)), (2, (1, 2, 0)), (3, (1, 0, 2)), (4, (12, 93, 0)), (7, (5, 3, 148)), (10, (1, 0, 2)), (11, (8, 45, 0)), (14, (1, 2, 0)), (15, (12, 17, 0)), (18, (28, 7, 0)), (21, (2, 3, 2)), (22, (1, 0, 2)), (23, (8, 60, 0)), (26, (1, 2, 0)), (27, (1, 3, 2)), (28, (1, 1, 2)), (29, (0, 0, 50)), (31, (0, 0, 50)), (33, (12, 94, 0)), (36, (11, 0, 0)), (37, (1, 0, 2)), (38, (8, 61, 0)), (41, (0, 0, 36)), (43, (1, 2, 0)), (44, (4, 0, 0)), (45, (1, 3, 2)), (46, (12, 95, 0)), (49, (11, 0, 0)), (50, (0, 0, 0)), (51, (2, 4, 0)), (53, (1, 4, 0)), (55, (1, 0, 2)), (56, (12, 93, 0)), (59, (5, 3, 142)), (62, (1, 0, 2)), (63, (8, 45, 0)), (66, (1, 4, 0)), (68, (12, 17, 0)), (71, (28, 7, 0)), (74, (2, 5, 2)), (76, (1, 0, 2)), (77, (8, 61, 0)), (80, (1, 2, 0)), (81, (0, 0, 6)), (83, (4, 2, 0)), (84, (1, 4, 0)), (86, (4, 0, 0)), (87, (1, 3, 2)), (88, (8, 68, 0)), (91, (1, 5, 2)), (93, (8, 68, 0)), (96, (5, 1, 123)), (99, (1, 3, 2)), (100, (1, 1, 2)), (101, (1, 5, 2)), (103, (8, 67, 0)), (106, (8, 15, 0)), (109, (1, 5, 2)), (111, (8, 67, 0)), (114, (8, 16, 0)), (117, (12, 94, 0)), (120, (7, 0, 135)), (123, (1, 0, 2)), (124, (8, 60, 0)), (127, (1, 2, 0)), (128, (10, 0, 0)), (129, (1, 5, 2)), (131, (12, 95, 0)), (134, (4, 0, 0)), (135, (11, 0, 0)), (136, (3, 4, 1)), (139, (7, 0, 53)), (142, (3, 2, 1)), (145, (7, 0, 2)), (148, (13, 0, 0))] := by decide +kernel
set_option maxRecDepth 100000 in
theorem head_126 : codeOf 126 = [(0, (0, 0, 0)), (1, (2, 2, 0))] ++ jump 126 2 := by rw [jump_jmp, code_126]; rfl
set_option maxRecDepth 100000 in
theorem j126_2 : jump 126 2 = [(2, (1, 2, 0)), (3, (1, 0, 2)), (4, (12, 93, 0)), (7, (5, 3, 148)), (10, (1, 0, 2)), (11, (8, 45, 0)), (14, (1, 2, 0)), (15, (12, 17, 0)), (18, (28, 7, 0)), (21, (2, 3, 2)), (22, (1, 0, 2)), (23, (8, 60, 0)), (26, (1, 2, 0)), (27, (1, 3, 2)), (28, (1, 1, 2)), (29, (0, 0, 50)), (31, (0, 0, 50)), (33, (12, 94, 0)), (36, (11, 0, 0)), (37, (1, 0, 2)), (38, (8, 61, 0)), (41, (0, 0, 36)), (43, (1, 2, 0)), (44, (4, 0, 0)), (45, (1, 3, 2)), (46, (12, 95, 0)), (49, (11, 0, 0)), (50, (0, 0, 0)), (51, (2, 4, 0))] ++ jump 126 53 := by rw [jump_jmp, jump_jmp, code_126]; rfl
set_option maxRecDepth 100000 in
theorem j126_53 : jump 126 53 = [(53, (1, 4, 0)), (55, (1, 0, 2)), (56, (12, 93, 0)), (59, (5, 3, 142)), (62, (1, 0, 2)), (63, (8, 45, 0)), (66, (1, 4, 0)), (68, (12, 17, 0)), (71, (28, 7, 0)), (74, (2, 5, 2)), (76, (1, 0, 2)), (77, (8, 61, 0)), (80, (1, 2, 0)), (81, (0, 0, 6)), (83, (4, 2, 0)), (84, (1, 4, 0)), (86, (4, 0, 0)), (87, (1, 3, 2)), (88, (8, 68, 0)), (91, (1, 5, 2)), (93, (8, 68, 0)), (96, (5, 1, 123)), (99, (1, 3, 2)), (100, (1, 1, 2)), (101, (1, 5, 2)), (103, (8, 67, 0)), (106, (8, 15, 0)), (109, (1, 5, 2)), (111, (8, 67, 0)), (114, (8, 16, 0)), (117, (12, 94, 0)), (120, (7, 0, 135))] ++ jump 126 123 := by rw [jump_jmp, jump_jmp, code_126]; rfl
set_option maxRecDepth 100000 in
theorem j126_123 : jump 126 123 = [(123, (1, 0, 2)), (124, (8, 60, 0)), (127, (1, 2, 0)), (128, (10, 0, 0)), (129, (1, 5, 2)), (131, (12, 95, 0)), (134, (4, 0, 0))] ++ jump 126 135 := by rw [jump_jmp, jump_jmp, code_126]; rfl
set_option maxRecDepth 100000 in
theorem j126_135 : jump 126 135 = [(135, (11, 0, 0)), (136, (3, 4, 1)), (139, (7, 0, 53))] ++ jump 126 142 := by rw [jump_jmp, jump_jmp, code_126]; rfl
set_option maxRecDepth 100000 in
theorem j126_142 : jump 126 142 = [(142, (3, 2, 1)), (145, (7, 0, 2))] ++ jump 126 148 := by rw [jump_jmp, jump_jmp, code_126]; rfl
set_option maxRecDepth 100000 in
theorem j126_148 : jump 126 148 = [(148, (13, 0, 0))] := by rw [jump_jmp, code_126]; rfl
theorem code_127 : codeOf 127 = [(0, (1, 0, 2)), (1, (8, 45, 0)), (4, (12, 13, 0)), (7, (0, 0, 6)), (9, (32, 1, 0)), (12, (13, 1, 0))] := by decide +kernel
theorem code_128 : codeOf 128 = [(0, (0, 0, 1000000)), (2, (2, 4, 0)), (4, (0, 0, 0)), (5, (2, 5, 0)), (7, (1, 5, 0)), (9, (1, 1, 2)), (10, (12, 13, 0)), (13, (5, 3, 76)), (16, (1, 1, 2)), (17, (1, 5, 0)), (19, (12, 17, 0)), (22, (28, 4, 0)), (25, (2, 6, 2)), (27, (1, 0, 2)), (28, (1, 6, 2)), (30, (12, 96, 0)), (33, (6, 0, 70)), (36, (1, 4, 0)), (38, (1, 6, 2)), (40, (1, 0, 2)), (41, (8, 67, 0)), (44, (8, 15, 0)), (47, (1, 0, 2)), (48, (8, 67, 0)), (51, (8, 16, 0)), (54, (12, 78, 0)), (57, (1, 6, 2)), (59, (1, 2, 0)), (60, (1, 3, 0)), (61, (12, 78, 0)), (64, (4, 0, 0)), (65, (32, 1, 0)), (68, (2, 4, 0)), (70, (3, 5, 1)), (73, (7, 0, 7)), (76, (1, 4, 0)), (78, (13, 1, 0))] := by decide +kernel
theorem head_128 : codeOf 128 = [(0, (0, 0, 1000000)), (2, (2, 4, 0)), (4, (0, 0, 0)), (5, (2, 5, 0))] ++ jump 128 7 := by rw [jump_jmp, code_128]; rfl
theorem j128_7 : jump 128 7 = [(7, (1, 5, 0)), (9, (1, 1, 2)), (10, (12, 13, 0)), (13, (5, 3, 76)), (16, (1, 1, 2)), (17, (1, 5, 0)), (19, (12, 17, 0)), (22, (28, 4, 0)), (25, (2, 6, 2)), (27, (1, 0, 2)), (28, (1, 6, 2)), (30, (12, 96, 0)), (33, (6, 0, 70)), (36, (1, 4, 0)), (38, (1, 6, 2)), (40, (1, 0, 2)), (41, (8, 67, 0)), (44, (8, 15, 0)), (47, (1, 0, 2)), (48, (8, 67, 0)), (51, (8, 16, 0)), (54, (12, 78, 0)), (57, (1, 6, 2)), (59, (1, 2, 0)), (60, (1, 3, 0)), (61, (12, 78, 0)), (64, (4, 0, 0)), (65, (32, 1, 0)), (68, (2, 4, 0))] ++ jump 128 70 := by rw [jump_jmp, jump_jmp, code_128]; rfl
theorem j128_70 : jump 128 70 = [(70, (3, 5, 1)), (73, (7, 0, 7))] ++ jump 128 76 := by rw [jump_jmp, jump_jmp, code_128]; rfl
theorem j128_76 : jump 128 76 = [(76, (1, 4, 0)), (78, (13, 1, 0))] := by rw [jump_jmp, code_128]; rfl
theorem code_131 : codeOf 131 = [(0, (1, 0, 2)), (1, (12, 93, 0)), (4, (2, 1, 0)), (5, (0, 0, 0)), (6, (2, 2, 0)), (7, (1, 2, 0)), (8, (0, 0, 1)), (9, (1, 1, 0)), (10, (4, 8, 0)), (11, (5, 3, 93)), (14, (0, 0, 0)), (15, (2, 3, 0)), (16, (1, 3, 0)), (17, (1, 1, 0)), (18, (5, 3, 59)), (21, (1, 2, 0)), (22, (1, 3, 0)), (23, (4, 9, 0)), (24, (0, 0, 1)), (25, (4, 5, 0)), (26, (0, 0, 1)), (27, (5, 1, 53)), (30, (1, 0, 2)), (31, (8, 62, 0)), (34, (1, 2, 0)), (35, (0, 0, 6)), (37, (4, 2, 0)), (38, (1, 3, 0)), (39, (4, 0, 0)), (40, (1, 0, 2)), (41, (1, 3, 0)), (42, (1, 2, 0)), (43, (0, 0, 1)), (44, (1, 3, 0)), (45, (4, 8, 0)), (46, (0, 0, -1)), (47, (4, 7, 0)), (48, (4, 5, 0)), (49, (12, 97, 0)), (52, (11, 0, 0)), (53, (3, 3, 1)), (56, (7, 0, 16)), (59, (1, 0, 2)), (60, (0, 0, 6)), (62, (1, 2, 0)), (63, (12, 97, 0)), (66, (2, 3, 0)), (67, (1, 0, 2)), (68, (8, 63, 0)), (71, (1, 2, 0)), (72, (1, 3, 0)), (73, (1, 0, 2)), (74, (8, 46, 0)), (77, (5, 5, 85)), (80, (0, 0, 1000000)), (82, (7, 0, 86)), (85, (1, 3, 0)), (86, (11, 0, 0)), (87, (3, 2, 1)), (90, (7, 0, 7)), (93, (13, 0, 0))] := by decide +kernel
set_option maxRecDepth 100000 in
theorem head_131 : codeOf 131 = [(0, (1, 0, 2)), (1, (12, 93, 0)), (4, (2, 1, 0)), (5, (0, 0, 0)), (6, (2, 2, 0))] ++ jump 131 7 := by rw [jump_jmp, code_131]; rfl
set_option maxRecDepth 100000 in
theorem j131_7 : jump 131 7 = [(7, (1, 2, 0)), (8, (0, 0, 1)), (9, (1, 1, 0)), (10, (4, 8, 0)), (11, (5, 3, 93)), (14, (0, 0, 0)), (15, (2, 3, 0))] ++ jump 131 16 := by rw [jump_jmp, jump_jmp, code_131]; rfl
set_option maxRecDepth 100000 in
theorem j131_16 : jump 131 16 = [(16, (1, 3, 0)), (17, (1, 1, 0)), (18, (5, 3, 59)), (21, (1, 2, 0)), (22, (1, 3, 0)), (23, (4, 9, 0)), (24, (0, 0, 1)), (25, (4, 5, 0)), (26, (0, 0, 1)), (27, (5, 1, 53)), (30, (1, 0, 2)), (31, (8, 62, 0)), (34, (1, 2, 0)), (35, (0, 0, 6)), (37, (4, 2, 0)), (38, (1, 3, 0)), (39, (4, 0, 0)), (40, (1, 0, 2)), (41, (1, 3, 0)), (42, (1, 2, 0)), (43, (0, 0, 1)), (44, (1, 3, 0)), (45, (4, 8, 0)), (46, (0, 0, -1)), (47, (4, 7, 0)), (48, (4, 5, 0)), (49, (12, 97, 0)), (52, (11, 0, 0))] ++ jump 131 53 := by rw [jump_jmp, jump_jmp, code_131]; rfl
set_option maxRecDepth 100000 in
theorem j131_53 : jump 131 53 = [(53, (3, 3, 1)), (56, (7, 0, 16))] ++ jump 131 59 := by rw [jump_jmp, jump_jmp, code_131]; rfl
set_option maxRecDepth 100000 in
theorem j131_59 : jump 131 59 = [(59, (1, 0, 2)), (60, (0, 0, 6)), (62, (1, 2, 0)), (63, (12, 97, 0)), (66, (2, 3, 0)), (67, (1, 0, 2)), (68, (8, 63, 0)), (71, (1, 2, 0)), (72, (1, 3, 0)), (73, (1, 0, 2)), (74, (8, 46, 0)), (77, (5, 5, 85)), (80, (0, 0, 1000000)), (82, (7, 0, 86))] ++ jump 131 85 := by rw [jump_jmp, jump_jmp, code_131]; rfl
set_option maxRecDepth 100000 in
theorem j131_85 : jump 131 85 = [(85, (1, 3, 0))] ++ jump 131 86 := by rw [jump_jmp, jump_jmp, code_131]; rfl
set_option maxRecDepth 100000 in
theorem j131_86 : jump 131 86 = [(86, (11, 0, 0)), (87, (3, 2, 1)), (90, (7, 0, 7))] ++ jump 131 93 := by rw [jump_jmp, jump_jmp, code_131]; rfl
set_option maxRecDepth 100000 in
theorem j131_93 : jump 131 93 = [(93, (13, 0, 0))] := by rw [jump_jmp, code_131]; rfl
theorem code_132 : codeOf 132 = [(0, (1, 2, 0)), (1, (6, 1, 13)), (4, (1, 0, 2)), (5, (8, 60, 0)), (8, (1, 1, 0)), (9, (10, 0, 0)), (10, (7, 0, 15)), (13, (0, 0, 1000000)), (15, (2, 3, 0)), (16, (1, 0, 2)), (17, (12, 93, 0)), (20, (2, 4, 0)), (22, (0, 0, 0)), (23, (2, 5, 0)), (25, (1, 5, 0)), (27, (1, 4, 0)), (29, (5, 3, 61)), (32, (1, 2, 0)), (33, (1, 5, 0)), (35, (4, 9, 0)), (36, (0, 0, 1)), (37, (4, 5, 0)), (38, (0, 0, 1)), (39, (5, 1, 55)), (42, (1, 3, 0)), (43, (1, 0, 2)), (44, (1, 1, 0)), (45, (1, 5, 0)), (47, (1, 2, 0)), (48, (12, 98, 0)), (51, (32, 1, 0)), (54, (2, 3, 0)), (55, (3, 5, 1)), (58, (7, 0, 25)), (61, (1, 3, 0)), (62, (13, 1, 0))] := by decide +kernel
theorem head_132 : codeOf 132 = [(0, (1, 2, 0)), (1, (6, 1, 13)), (4, (1, 0, 2)), (5, (8, 60, 0)), (8, (1, 1, 0)), (9, (10, 0, 0)), (10, (7, 0, 15))] ++ jump 132 13 := by rw [jump_jmp, code_132]; rfl
theorem j132_13 : jump 132 13 = [(13, (0, 0, 1000000))] ++ jump 132 15 := by rw [jump_jmp, jump_jmp, code_132]; rfl
theorem j132_15 : jump 132 15 = [(15, (2, 3, 0)), (16, (1, 0, 2)), (17, (12, 93, 0)), (20, (2, 4, 0)), (22, (0, 0, 0)), (23, (2, 5, 0))] ++ jump 132 25 := by rw [jump_jmp, jump_jmp, code_132]; rfl
theorem j132_25 : jump 132 25 = [(25, (1, 5, 0)), (27, (1, 4, 0)), (29, (5, 3, 61)), (32, (1, 2, 0)), (33, (1, 5, 0)), (35, (4, 9, 0)), (36, (0, 0, 1)), (37, (4, 5, 0)), (38, (0, 0, 1)), (39, (5, 1, 55)), (42, (1, 3, 0)), (43, (1, 0, 2)), (44, (1, 1, 0)), (45, (1, 5, 0)), (47, (1, 2, 0)), (48, (12, 98, 0)), (51, (32, 1, 0)), (54, (2, 3, 0))] ++ jump 132 55 := by rw [jump_jmp, jump_jmp, code_132]; rfl
theorem j132_55 : jump 132 55 = [(55, (3, 5, 1)), (58, (7, 0, 25))] ++ jump 132 61 := by rw [jump_jmp, jump_jmp, code_132]; rfl
theorem j132_61 : jump 132 61 = [(61, (1, 3, 0)), (62, (13, 1, 0))] := by rw [jump_jmp, code_132]; rfl
theorem code_133 : codeOf 133 = [(0, (1, 0, 2)), (1, (8, 61, 0)), (4, (1, 1, 0)), (5, (0, 0, 6)), (7, (4, 2, 0)), (8, (1, 2, 0)), (9, (4, 0, 0)), (10, (10, 0, 0)), (11, (1, 0, 2)), (12, (8, 62, 0)), (15, (1, 3, 0)), (16, (0, 0, 6)), (18, (4, 2, 0)), (19, (1, 2, 0)), (20, (4, 0, 0)), (21, (10, 0, 0)), (22, (4, 0, 0)), (23, (13, 1, 0))] := by decide +kernel
theorem code_134 : codeOf 134 = [(0, (0, 0, 1)), (1, (2, 2, 0)), (2, (0, 0, 1)), (3, (2, 3, 0)), (4, (1, 3, 0)), (5, (1, 0, 2)), (6, (12, 93, 0)), (9, (5, 3, 22)), (12, (1, 2, 0)), (13, (1, 1, 0)), (14, (4, 2, 0)), (15, (2, 2, 0)), (16, (3, 3, 1)), (19, (7, 0, 4)), (22, (1, 0, 2)), (23, (0, 0, 1000000)), (25, (9, 47, 0)), (28, (0, 0, 0)), (29, (2, 3, 0)), (30, (1, 3, 0)), (31, (1, 2, 0)), (32, (5, 3, 78)), (35, (1, 0, 2)), (36, (1, 3, 0)), (37, (1, 1, 0)), (38, (12, 99, 0)), (41, (2, 4, 0)), (43, (1, 4, 0)), (45, (1, 0, 2)), (46, (8, 47, 0)), (49, (5, 3, 72)), (52, (1, 0, 2)), (53, (1, 4, 0)), (55, (9, 47, 0)), (58, (1, 0, 2)), (59, (8, 65, 0)), (62, (0, 0, 0)), (63, (1, 0, 2)), (64, (8, 64, 0)), (67, (0, 0, 0)), (68, (0, 0, 3)), (69, (29, 0, 0)), (72, (3, 3, 1)), (75, (7, 0, 30)), (78, (13, 0, 0))] := by decide +kernel
theorem head_134 : codeOf 134 = [(0, (0, 0, 1)), (1, (2, 2, 0)), (2, (0, 0, 1)), (3, (2, 3, 0))] ++ jump 134 4 := by rw [jump_jmp, code_134]; rfl
theorem j134_4 : jump 134 4 = [(4, (1, 3, 0)), (5, (1, 0, 2)), (6, (12, 93, 0)), (9, (5, 3, 22)), (12, (1, 2, 0)), (13, (1, 1, 0)), (14, (4, 2, 0)), (15, (2, 2, 0)), (16, (3, 3, 1)), (19, (7, 0, 4))] ++ jump 134 22 := by rw [jump_jmp, jump_jmp, code_134]; rfl
theorem j134_22 : jump 134 22 = [(22, (1, 0, 2)), (23, (0, 0, 1000000)), (25, (9, 47, 0)), (28, (0, 0, 0)), (29, (2, 3, 0))] ++ jump 134 30 := by rw [jump_jmp, jump_jmp, code_134]; rfl
theorem j134_30 : jump 134 30 = [(30, (1, 3, 0)), (31, (1, 2, 0)), (32, (5, 3, 78)), (35, (1, 0, 2)), (36, (1, 3, 0)), (37, (1, 1, 0)), (38, (12, 99, 0)), (41, (2, 4, 0)), (43, (1, 4, 0)), (45, (1, 0, 2)), (46, (8, 47, 0)), (49, (5, 3, 72)), (52, (1, 0, 2)), (53, (1, 4, 0)), (55, (9, 47, 0)), (58, (1, 0, 2)), (59, (8, 65, 0)), (62, (0, 0, 0)), (63, (1, 0, 2)), (64, (8, 64, 0)), (67, (0, 0, 0)), (68, (0, 0, 3)), (69, (29, 0, 0))] ++ jump 134 72 := by rw [jump_jmp, jump_jmp, code_134]; rfl
theorem j134_72 : jump 134 72 = [(72, (3, 3, 1)), (75, (7, 0, 30))] ++ jump 134 78 := by rw [jump_jmp, jump_jmp, code_134]; rfl
theorem j134_78 : jump 134 78 = [(78, (13, 0, 0))] := by rw [jump_jmp, code_134]; rfl
theorem code_135 : codeOf 135 = [(0, (1, 0, 2)), (1, (8, 65, 0)), (4, (0, 0, 0)), (5, (12, 100, 0)), (8, (1, 1, 0)), (9, (2, 3, 0)), (10, (1, 0, 2)), (11, (12, 93, 0)), (14, (0, 0, 1)), (15, (4, 1, 0)), (16, (2, 4, 0)), (18, (1, 4, 0)), (20, (6, 2, 48)), (23, (1, 0, 2)), (24, (8, 65, 0)), (27, (1, 3, 0)), (28, (1, 2, 0)), (29, (4, 4, 0)), (30, (18, 3, 0)), (31, (10, 0, 0)), (32, (0, 0, 1)), (33, (1, 4, 0)), (35, (4, 8, 0)), (36, (4, 6, 0)), (37, (11, 0, 0)), (38, (1, 3, 0)), (39, (1, 2, 0)), (40, (4, 3, 0)), (41, (2, 3, 0)), (42, (3, 4, -1)), (45, (7, 0, 18)), (48, (0, 0, 0)), (49, (2, 4, 0)), (51, (0, 0, 0)), (52, (2, 5, 0)), (54, (1, 5, 0)), (56, (1, 2, 0)), (57, (5, 3, 83)), (60, (1, 4, 0)), (62, (1, 0, 2)), (63, (8, 63, 0)), (66, (1, 0, 2)), (67, (8, 65, 0)), (70, (1, 5, 0)), (72, (10, 0, 0)), (73, (10, 0, 0)), (74, (4, 0, 0)), (75, (2, 4, 0)), (77, (3, 5, 1)), (80, (7, 0, 54)), (83, (1, 4, 0)), (85, (13, 1, 0))] := by decide +kernel
theorem head_135 : codeOf 135 = [(0, (1, 0, 2)), (1, (8, 65, 0)), (4, (0, 0, 0)), (5, (12, 100, 0)), (8, (1, 1, 0)), (9, (2, 3, 0)), (10, (1, 0, 2)), (11, (12, 93, 0)), (14, (0, 0, 1)), (15, (4, 1, 0)), (16, (2, 4, 0))] ++ jump 135 18 := by rw [jump_jmp, code_135]; rfl
theorem j135_18 : jump 135 18 = [(18, (1, 4, 0)), (20, (6, 2, 48)), (23, (1, 0, 2)), (24, (8, 65, 0)), (27, (1, 3, 0)), (28, (1, 2, 0)), (29, (4, 4, 0)), (30, (18, 3, 0)), (31, (10, 0, 0)), (32, (0, 0, 1)), (33, (1, 4, 0)), (35, (4, 8, 0)), (36, (4, 6, 0)), (37, (11, 0, 0)), (38, (1, 3, 0)), (39, (1, 2, 0)), (40, (4, 3, 0)), (41, (2, 3, 0)), (42, (3, 4, -1)), (45, (7, 0, 18))] ++ jump 135 48 := by rw [jump_jmp, jump_jmp, code_135]; rfl
theorem j135_48 : jump 135 48 = [(48, (0, 0, 0)), (49, (2, 4, 0)), (51, (0, 0, 0)), (52, (2, 5, 0))] ++ jump 135 54 := by rw [jump_jmp, jump_jmp, code_135]; rfl
theorem j135_54 : jump 135 54 = [(54, (1, 5, 0)), (56, (1, 2, 0)), (57, (5, 3, 83)), (60, (1, 4, 0)), (62, (1, 0, 2)), (63, (8, 63, 0)), (66, (1, 0, 2)), (67, (8, 65, 0)), (70, (1, 5, 0)), (72, (10, 0, 0)), (73, (10, 0, 0)), (74, (4, 0, 0)), (75, (2, 4, 0)), (77, (3, 5, 1)), (80, (7, 0, 54))] ++ jump 135 83 := by rw [jump_jmp, jump_jmp, code_135]; rfl
theorem j135_83 : jump 135 83 = [(83, (1, 4, 0)), (85, (13, 1, 0))] := by rw [jump_jmp, code_135]; rfl
theorem code_137 : codeOf 137 = [(0, (0, 0, 6)), (2, (2, 3, 0)), (3, (1, 0, 2)), (4, (1, 1, 0)), (5, (12, 102, 0)), (8, (2, 4, 0)), (10, (0, 0, 0)), (11, (2, 5, 0)), (13, (1, 5, 0)), (15, (1, 2, 0)), (16, (5, 4, 61)), (19, (1, 4, 0)), (21, (6, 0, 61)), (24, (1, 0, 2)), (25, (1, 3, 0)), (26, (1, 4, 0)), (28, (12, 103, 0)), (31, (2, 3, 0)), (32, (1, 5, 0)), (34, (1, 2, 0)), (35, (5, 0, 43)), (38, (1, 3, 0)), (39, (0, 0, -1)), (40, (5, 1, 45)), (43, (1, 3, 0)), (44, (13, 1, 0)), (45, (1, 4, 0)), (47, (0, 0, 1)), (48, (1, 3, 0)), (49, (4, 8, 0)), (50, (0, 0, -1)), (51, (4, 7, 0)), (52, (4, 5, 0)), (53, (2, 4, 0)), (55, (3, 5, 1)), (58, (7, 0, 13)), (61, (0, 0, -1)), (62, (13, 1, 0))] := by decide +kernel
theorem head_137 : codeOf 137 = [(0, (0, 0, 6)), (2, (2, 3, 0)), (3, (1, 0, 2)), (4, (1, 1, 0)), (5, (12, 102, 0)), (8, (2, 4, 0)), (10, (0, 0, 0)), (11, (2, 5, 0))] ++ jump 137 13 := by rw [jump_jmp, code_137]; rfl
theorem j137_13 : jump 137 13 = [(13, (1, 5, 0)), (15, (1, 2, 0)), (16, (5, 4, 61)), (19, (1, 4, 0)), (21, (6, 0, 61)), (24, (1, 0, 2)), (25, (1, 3, 0)), (26, (1, 4, 0)), (28, (12, 103, 0)), (31, (2, 3, 0)), (32, (1, 5, 0)), (34, (1, 2, 0)), (35, (5, 0, 43)), (38, (1, 3, 0)), (39, (0, 0, -1)), (40, (5, 1, 45))] ++ jump 137 43 := by rw [jump_jmp, jump_jmp, code_137]; rfl
theorem j137_43 : jump 137 43 = [(43, (1, 3, 0)), (44, (13, 1, 0))] ++ jump 137 45 := by rw [jump_jmp, jump_jmp, code_137]; rfl
theorem j137_45 : jump 137 45 = [(45, (1, 4, 0)), (47, (0, 0, 1)), (48, (1, 3, 0)), (49, (4, 8, 0)), (50, (0, 0, -1)), (51, (4, 7, 0)), (52, (4, 5, 0)), (53, (2, 4, 0)), (55, (3, 5, 1)), (58, (7, 0, 13))] ++ jump 137 61 := by rw [jump_jmp, jump_jmp, code_137]; rfl
theorem j137_61 : jump 137 61 = [(61, (0, 0, -1)), (62, (13, 1, 0))] := by rw [jump_jmp, code_137]; rfl
theorem code_138 : codeOf 138 = [(0, (1, 1, 0)), (1, (0, 0, 0)), (2, (0, 0, 2)), (3, (12, 10, 0)), (6, (6, 0, 18)), (9, (1, 0, 2)), (10, (8, 64, 0)), (13, (1, 1, 0)), (14, (10, 0, 0)), (15, (7, 0, 19)), (18, (0, 0, 0)), (19, (13, 1, 0))] := by decide +kernel
theorem head_138 : codeOf 138 = [(0, (1, 1, 0)), (1, (0, 0, 0)), (2, (0, 0, 2)), (3, (12, 10, 0)), (6, (6, 0, 18)), (9, (1, 0, 2)), (10, (8, 64, 0)), (13, (1, 1, 0)), (14, (10, 0, 0)), (15, (7, 0, 19))] ++ jump 138 18 := by rw [jump_jmp, code_138]; rfl
theorem j138_18 : jump 138 18 = [(18, (0, 0, 0))] ++ jump 138 19 := by rw [jump_jmp, jump_jmp, code_138]; rfl
theorem j138_19 : jump 138 19 = [(19, (13, 1, 0))] := by rw [jump_jmp, code_138]; rfl
theorem code_139 : codeOf 139 = [(0, (1, 0, 2)), (1, (1, 1, 0)), (2, (1, 2, 0)), (3, (12, 97, 0)), (6, (2, 3, 0)), (7, (0, 0, 0)), (8, (2, 4, 0)), (10, (1, 4, 0)), (12, (1, 0, 2)), (13, (12, 93, 0)), (16, (5, 3, 50)), (19, (1, 2, 0)), (20, (1, 4, 0)), (22, (4, 9, 0)), (23, (0, 0, 1)), (24, (4, 5, 0)), (25, (0, 0, 1)), (26, (5, 1, 44)), (29, (1, 0, 2)), (30, (1, 1, 0)), (31, (1, 4, 0)), (33, (1, 2, 0)), (34, (12, 98, 0)), (37, (1, 3, 0)), (38, (5, 1, 44)), (41, (1, 4, 0)), (43, (13, 1, 0)), (44, (3, 4, 1)), (47, (7, 0, 10)), (50, (0, 0, -1)), (51, (13, 1, 0))] := by decide +kernel
theorem head_139 : codeOf 139 = [(0, (1, 0, 2)), (1, (1, 1, 0)), (2, (1, 2, 0)), (3, (12, 97, 0)), (6, (2, 3, 0)), (7, (0, 0, 0)), (8, (2, 4, 0))] ++ jump 139 10 := by rw [jump_jmp, code_139]; rfl
theorem j139_10 : jump 139 10 = [(10, (1, 4, 0)), (12, (1, 0, 2)), (13, (12, 93, 0)), (16, (5, 3, 50)), (19, (1, 2, 0)), (20, (1, 4, 0)), (22, (4, 9, 0)), (23, (0, 0, 1)), (24, (4, 5, 0)), (25, (0, 0, 1)), (26, (5, 1, 44)), (29, (1, 0, 2)), (30, (1, 1, 0)), (31, (1, 4, 0)), (33, (1, 2, 0)), (34, (12, 98, 0)), (37, (1, 3, 0)), (38, (5, 1, 44)), (41, (1, 4, 0)), (43, (13, 1, 0))] ++ jump 139 44 := by rw [jump_jmp, jump_jmp, code_139]; rfl
theorem j139_44 : jump 139 44 = [(44, (3, 4, 1)), (47, (7, 0, 10))] ++ jump 139 50 := by rw [jump_jmp, jump_jmp, code_139]; rfl
theorem j139_50 : jump 139 50 = [(50, (0, 0, -1)), (51, (13, 1, 0))] := by rw [jump_jmp, code_139]; rfl
theorem code_141 : codeOf 141 = [(0, (1, 0, 2)), (1, (8, 63, 0)), (4, (1, 0, 2)), (5, (1, 1, 0)), (6, (12, 102, 0)), (9, (10, 0, 0)), (10, (13, 1, 0))] := by decide +kernel
theorem code_124 : codeOf 124 = [(0, (1, 1, 0)), (1, (0, 0, 1)), (2, (0, 0, 3)), (3, (12, 10, 0)), (6, (6, 1, 12)), (9, (0, 0, -2)), (11, (13, 1, 0)), (12, (1, 0, 2)), (13, (8, 8, 0)), (16, (1, 1, 0)), (17, (1, 0, 2)), (18, (8, 6, 0)), (21, (12, 89, 0)), (24, (6, 0, 37)), (27, (1, 0, 2)), (28, (8, 8, 0)), (31, (8, 47, 0)), (34, (7, 0, 39)), (37, (0, 0, -3)), (39, (13, 1, 0))] := by decide +kernel
theorem head_124 : codeOf 124 = [(0, (1, 1, 0)), (1, (0, 0, 1)), (2, (0, 0, 3)), (3, (12, 10, 0)), (6, (6, 1, 12)), (9, (0, 0, -2)), (11, (13, 1, 0))] ++ jump 124 12 := by rw [jump_jmp, code_124]; rfl
theorem j124_12 : jump 124 12 = [(12, (1, 0, 2)), (13, (8, 8, 0)), (16, (1, 1, 0)), (17, (1, 0, 2)), (18, (8, 6, 0)), (21, (12, 89, 0)), (24, (6, 0, 37)), (27, (1, 0, 2)), (28, (8, 8, 0)), (31, (8, 47, 0)), (34, (7, 0, 39))] ++ jump 124 37 := by rw [jump_jmp, jump_jmp, code_124]; rfl
theorem j124_37 : jump 124 37 = [(37, (0, 0, -3))] ++ jump 124 39 := by rw [jump_jmp, jump_jmp, code_124]; rfl
theorem j124_39 : jump 124 39 = [(39, (13, 1, 0))] := by rw [jump_jmp, code_124]; rfl
theorem code_136 : codeOf 136 = [(0, (1, 1, 0)), (1, (0, 0, 1)), (2, (0, 0, 3)), (3, (12, 10, 0)), (6, (6, 0, 24)), (9, (1, 2, 0)), (10, (0, 0, 0)), (11, (1, 1, 0)), (12, (0, 0, 1)), (13, (4, 1, 0)), (14, (12, 10, 0)), (17, (6, 0, 24)), (20, (1, 3, 0)), (21, (6, 3, 27)), (24, (0, 0, -2)), (26, (13, 1, 0)), (27, (1, 0, 2)), (28, (8, 8, 0)), (31, (1, 1, 0)), (32, (1, 0, 2)), (33, (8, 6, 0)), (36, (12, 89, 0)), (39, (6, 0, 54)), (42, (1, 0, 2)), (43, (8, 8, 0)), (46, (1, 2, 0)), (47, (1, 3, 0)), (48, (12, 101, 0)), (51, (7, 0, 56)), (54, (0, 0, -3)), (56, (13, 1, 0))] := by decide +kernel
theorem head_136 : codeOf 136 = [(0, (1, 1, 0)), (1, (0, 0, 1)), (2, (0, 0, 3)), (3, (12, 10, 0)), (6, (6, 0, 24)), (9, (1, 2, 0)), (10, (0, 0, 0)), (11, (1, 1, 0)), (12, (0, 0, 1)), (13, (4, 1, 0)), (14, (12, 10, 0)), (17, (6, 0, 24)), (20, (1, 3, 0)), (21, (6, 3, 27))] ++ jump 136 24 := by rw [jump_jmp, code_136]; rfl
theorem j136_24 : jump 136 24 = [(24, (0, 0, -2)), (26, (13, 1, 0))] ++ jump 136 27 := by rw [jump_jmp, jump_jmp, code_136]; rfl
theorem j136_27 : jump 136 27 = [(27, (1, 0, 2)), (28, (8, 8, 0)), (31, (1, 1, 0)), (32, (1, 0, 2)), (33, (8, 6, 0)), (36, (12, 89, 0)), (39, (6, 0, 54)), (42, (1, 0, 2)), (43, (8, 8, 0)), (46, (1, 2, 0)), (47, (1, 3, 0)), (48, (12, 101, 0)), (51, (7, 0, 56))] ++ jump 136 54 := by rw [jump_jmp, jump_jmp, code_136]; rfl
theorem j136_54 : jump 136 54 = [(54, (0, 0, -3))] ++ jump 136 56 := by rw [jump_jmp, jump_jmp, code_136]; rfl
theorem j136_56 : jump 136 56 = [(56, (13, 1, 0))] := by rw [jump_jmp, code_136]; rfl
theorem code_140 : codeOf 140 = [(0, (1, 1, 0)), (1, (0, 0, 1)), (2, (0, 0, 3)), (3, (12, 10, 0)), (6, (6, 0, 20)), (9, (1, 2, 0)), (10, (0, 0, 0)), (11, (1, 1, 0)), (12, (0, 0, 1)), (13, (4, 1, 0)), (14, (12, 10, 0)), (17, (6, 1, 23)), (20, (0, 0, -2)), (22, (13, 1, 0)), (23, (1, 0, 2)), (24, (8, 8, 0)), (27, (1, 1, 0)), (28, (1, 0, 2)), (29, (8, 6, 0)), (32, (12, 89, 0)), (35, (6, 0, 49)), (38, (1, 0, 2)), (39, (8, 8, 0)), (42, (1, 2, 0)), (43, (12, 104, 0)), (46, (7, 0, 51)), (49, (0, 0, -3)), (51, (13, 1, 0))] := by decide +kernel
theorem head_140 : codeOf 140 = [(0, (1, 1, 0)), (1, (0, 0, 1)), (2, (0, 0, 3)), (3, (12, 10, 0)), (6, (6, 0, 20)), (9, (1, 2, 0)), (10, (0, 0, 0)), (11, (1, 1, 0)), (12, (0, 0, 1)), (13, (4, 1, 0)), (14, (12, 10, 0)), (17, (6, 1, 23))] ++ jump 140 20 := by rw [jump_jmp, code_140]; rfl
theorem j140_20 : jump 140 20 = [(20, (0, 0, -2)), (22, (13, 1, 0))] ++ jump 140 23 := by rw [jump_jmp, jump_jmp, code_140]; rfl
theorem j140_23 : jump 140 23 = [(23, (1, 0, 2)), (24, (8, 8, 0)), (27, (1, 1, 0)), (28, (1, 0, 2)), (29, (8, 6, 0)), (32, (12, 89, 0)), (35, (6, 0, 49)), (38, (1, 0, 2)), (39, (8, 8, 0)), (42, (1, 2, 0)), (43, (12, 104, 0)), (46, (7, 0, 51))] ++ jump 140 49 := by rw [jump_jmp, jump_jmp, code_140]; rfl
theorem j140_49 : jump 140 49 = [(49, (0, 0, -3))] ++ jump 140 51 := by rw [jump_jmp, jump_jmp, code_140]; rfl
theorem j140_51 : jump 140 51 = [(51, (13, 1, 0))] := by rw [jump_jmp, code_140]; rfl
theorem code_286 : codeOf 286 = [(0, (0, 0, 0)), (1, (2, 2, 0)), (2, (1, 0, 2)), (3, (23, 0, 0)), (4, (2, 3, 0)), (5, (1, 2, 0)), (6, (1, 3, 0)), (7, (5, 3, 20)), (10, (1, 0, 2)), (11, (1, 2, 0)), (12, (1, 1, 0)), (13, (11, 0, 0)), (14, (3, 2, 1)), (17, (7, 0, 5)), (20, (13, 0, 0))] := by decide +kernel
theorem head_286 : codeOf 286 = [(0, (0, 0, 0)), (1, (2, 2, 0)), (2, (1, 0, 2)), (3, (23, 0, 0)), (4, (2, 3, 0))] ++ jump 286 5 := by rw [jump_jmp, code_286]; rfl
theorem j286_5 : jump 286 5 = [(5, (1, 2, 0)), (6, (1, 3, 0)), (7, (5, 3, 20)), (10, (1, 0, 2)), (11, (1, 2, 0)), (12, (1, 1, 0)), (13, (11, 0, 0)), (14, (3, 2, 1)), (17, (7, 0, 5))] ++ jump 286 20 := by rw [jump_jmp, jump_jmp, code_286]; rfl
theorem j286_20 : jump 286 20 = [(20, (13, 0, 0))] := by rw [jump_jmp, code_286]; rfl
theorem pc_f : (((((fks 46).contains 8 = true ∧ fpos 46 = 1) ∧ ((fks 47).contains 8 = true ∧ fpos 47 = 2)) ∧ (((fks 60).contains 8 = true ∧ fpos 60 = 4) ∧ ((fks 61).contains 8 = true ∧ fpos 61 = 5))) ∧ ((((fks 62).contains 8 = true ∧ fpos 62 = 6) ∧ ((fks 63).contains 8 = true ∧ fpos 63 = 7)) ∧ (((fks 64).contains 8 = true ∧ fpos 64 = 8) ∧ ((fks 65).contains 8 = true ∧ fpos 65 = 9)))) ∧ ((((fks 66).contains 8 = true ∧ fpos 66 = 3) ∧ ((fks 68).contains 7 = true ∧ fpos 68 = 1)) ∧ (dcode (fr 47).2.2.1 = 0 ∧ dcode (fr 66).2.2.1 = 0)) := by decide +kernel
theorem pc_sa : ((spec 93 = (1, 0, [(8, 127)]) ∧ spec 94 = (1, 3, [(7, 128)])) ∧ (spec 97 = (1, 2, [(8, 132)]) ∧ spec 98 = (1, 3, [(8, 133)]))) ∧ ((spec 99 = (1, 2, [(8, 135)]) ∧ spec 100 = (0, 2, [(0, 286)])) ∧ (spec 101 = (1, 2, [(8, 137)]) ∧ spec 102 = (1, 1, [(8, 138)]))) := ⟨⟨⟨by decide +kernel, by decide +kernel⟩, by decide +kernel, by decide +kernel⟩, ⟨by decide +kernel, by decide +kernel⟩, by decide +kernel, by decide +kernel⟩
theorem pc_sb : ((spec 103 = (1, 2, [(8, 139)]) ∧ spec 104 = (1, 1, [(8, 141)])) ∧ (spec 89 = (1, 2, [(8, 125)]) ∧ spec 90 = (1, 1, [(8, 126)]))) ∧ (spec 91 = (1, 0, [(8, 131)]) ∧ spec 92 = (1, 1, [(8, 134)])) := by decide +kernel
theorem pc_ml : (((1 ≤ mL 127 ∧ 4 ≤ mL 128) ∧ (3 ≤ mL 132 ∧ 4 ≤ mL 133)) ∧ ((3 ≤ mL 135 ∧ 2 ≤ mL 286) ∧ (3 ≤ mL 137 ∧ 2 ≤ mL 138))) ∧ (((3 ≤ mL 139 ∧ 2 ≤ mL 141) ∧ (3 ≤ mL 125 ∧ 2 ≤ mL 126)) ∧ (1 ≤ mL 131 ∧ 2 ≤ mL 134)) := by decide +kernel
theorem bq_bit : ∀ S, S < 64 → ∀ j, j < 6 → ((nI S >>> (nI j &&& 31)) &&& Int32.ofInt 1) = (if Nat.testBit S j = true then Int32.ofInt 1 else Int32.ofInt 0) := by decide +kernel
theorem bq_rm : ∀ S, S < 64 → ∀ j, j < 6 → Nat.testBit S j = true → (nI S &&& ((Int32.ofInt 1 <<< (nI j &&& 31)) ^^^ Int32.ofInt (-1))) = nI (S - 2 ^ j) := by decide +kernel
theorem bq_sh : ∀ n, n < 7 → (Int32.ofInt 1 <<< (nI n &&& 31)) = nI (2 ^ n) := by decide +kernel
theorem bq_or : ∀ A, A < 64 → ∀ t, t < 6 → A % 2 ^ (t + 1) = 0 → ((nI A ||| (Int32.ofInt 1 <<< (nI t &&& 31))) = nI (A + 2 ^ t)) ∧ (A + 2 ^ t < 64 ∧ ((A + 2 ^ t) % 2 ^ t = 0 ∧ A % 2 ^ t = 0)) := by decide +kernel
theorem bq_lt : ∀ n, n < 7 → 2 ^ n ≤ 64 := by decide +kernel
/-- TASKS and TIPS of both sides -/
noncomputable def PTs (ad : AD) (h : AH) (t : Nat) (s : Int32) : Prop := At ad h 7 t 1 (.int s) ∧ At ad h 88 0 t (.int s)
noncomputable def PD (ad : AD) (h : AH) (n T : Nat) (tk : Nat → TKD) (d : Nat → TPD) (sz : Nat → Int32) : Prop := BdH ad h n T tk d ∧ ∀ t, t < n → PTs ad h t (sz t)
section
variable {σ : Nat → Nat} {ad : AD} {h h1 h' : AH} {np n T ox m t i j qp ql x y S p : Nat} {ex ho : Nat → Nat → Prop} {Q : Option Value → AH → Prop} {d : Nat → TPD} {tk : Nat → TKD} {sz : Nat → Int32} {pp : TKD} {tl : List (Nat × AI)} {L : LV} {St : List Value} {M pc : Nat} {c : Int} {hw : Nat → Nat} {on : Nat → Nat → Nat} {rc nl : Nat}
theorem nxp {c p : Nat} (h1 : c < 29 ∨ (34 < c ∧ c < 90)) (h2 : c ≠ 8) (h3 : c ≠ 11) : ¬ XP c p := fun e => by
  unfold XP at e
  omega
theorem lsp_frm (hf : Frm ad h h') (hl : LsP ad h n) : LsP ad h' n := by
  obtain ⟨q, mc, ed, a1, a2, a3⟩ := hl
  refine ⟨q, mc, ed, hf.1 _ _ _ _ (fun e => by unfold XP at e; omega) a1, hf.2.1 _ _ _ (by omega) (by omega) (by omega) a2, ?_⟩
  rcases a3 with a3 | ⟨bq, us, b1, b2, b3⟩
  · exact Or.inl a3
  · exact Or.inr ⟨bq, us, b1, hf.2.1 _ _ _ (by omega) (by omega) (by omega) b2, b3⟩
theorem lsq_frm {el N : Nat} (hf : Frm ad h h') (hl : LsQ ad h ql el N) : LsQ ad h' ql el N := by
  obtain ⟨mc, ed, a2, a3⟩ := hl
  refine ⟨mc, ed, hf.2.1 _ _ _ (by omega) (by omega) (by omega) a2, ?_⟩
  rcases a3 with a3 | ⟨bq, us, b1, b2, b3⟩
  · exact Or.inl a3
  · exact Or.inr ⟨bq, us, b1, hf.2.1 _ _ _ (by omega) (by omega) (by omega) b2, b3⟩
theorem lse_frm {f el N : Nat} (hf : Frm ad h h') (hl : LsE ad h f el N) : LsE ad h' f el N := by
  obtain ⟨q, mc, ed, a1, a2, a3⟩ := hl
  refine ⟨q, mc, ed, hf.1 _ _ _ _ (nxp (by omega) (by omega) (by omega)) a1, hf.2.1 _ _ _ (by omega) (by omega) (by omega) a2, ?_⟩
  rcases a3 with a3 | ⟨bq, us, b1, b2, b3⟩
  · exact Or.inl a3
  · exact Or.inr ⟨bq, us, b1, hf.2.1 _ _ _ (by omega) (by omega) (by omega) b2, b3⟩
theorem ptp_frm {p : TPD} (hf : Frm ad h h') (hp : PTp ad h t p) : PTp ad h' t p := by
  obtain ⟨⟨⟨⟨a1, a2⟩, a3⟩, ⟨b1, b2⟩, b3⟩, ⟨c1, c2⟩, ⟨d1, d2⟩, e1, e2⟩ := hp
  have f := fun {c i p W} (h1 : c < 29 ∨ (34 < c ∧ c < 90)) (h2 : c ≠ 8) (h3 : c ≠ 11) ha => hf.1 c i p W (nxp h1 h2 h3) ha
  exact ⟨⟨⟨⟨f (by omega) (by omega) (by omega) a1, f (by omega) (by omega) (by omega) a2⟩, a3⟩, ⟨f (by omega) (by omega) (by omega) b1, f (by omega) (by omega) (by omega) b2⟩, b3⟩, ⟨f (by omega) (by omega) (by omega) c1, f (by omega) (by omega) (by omega) c2⟩, ⟨f (by omega) (by omega) (by omega) d1, f (by omega) (by omega) (by omega) d2⟩, f (by omega) (by omega) (by omega) e1, f (by omega) (by omega) (by omega) e2⟩
theorem pkb_frm {kk : Nat} (hf : Frm ad h h') (hp : PKb ad h kk x y) : PKb ad h' kk x y := by
  obtain ⟨⟨⟨a1, a2⟩, a3⟩, ⟨b1, b2⟩, b3⟩ := hp
  have f := fun {c i p W} (h1 : c < 29 ∨ (34 < c ∧ c < 90)) (h2 : c ≠ 8) (h3 : c ≠ 11) ha => hf.1 c i p W (nxp h1 h2 h3) ha
  exact ⟨⟨⟨f (by omega) (by omega) (by omega) a1, f (by omega) (by omega) (by omega) a2⟩, a3⟩, ⟨f (by omega) (by omega) (by omega) b1, f (by omega) (by omega) (by omega) b2⟩, b3⟩
theorem ptk_frm (hf : Frm ad h h') (hp : PTk ad h t pp) : PTk ad h' t pp := by
  obtain ⟨⟨kk, qk, ⟨⟨a1, a2⟩, a3, a4⟩, a5⟩, b1, b2⟩ := hp
  have f := fun {c i p W} (h1 : c < 29 ∨ (34 < c ∧ c < 90)) (h2 : c ≠ 8) (h3 : c ≠ 11) ha => hf.1 c i p W (nxp h1 h2 h3) ha
  exact ⟨⟨kk, qk, ⟨⟨f (by omega) (by omega) (by omega) a1, a2⟩, f (by omega) (by omega) (by omega) a3, a4⟩, pkb_frm hf a5⟩, f (by omega) (by omega) (by omega) b1, f (by omega) (by omega) (by omega) b2⟩
theorem pts_frm {s : Int32} (hf : Frm ad h h') (hp : PTs ad h t s) : PTs ad h' t s := ⟨hf.1 _ _ _ _ (nxp (by omega) (by omega) (by omega)) hp.1, hf.1 _ _ _ _ (nxp (by omega) (by omega) (by omega)) hp.2⟩
theorem pd_frm (hf : Frm ad h h') (hp : PD ad h n T tk d sz) : PD ad h' n T tk d sz := by
  obtain ⟨⟨⟨⟨a1, a2, a3⟩, ⟨a4, a5⟩, q, a6, a7⟩, b1, b2⟩, b3⟩ := hp
  exact ⟨⟨⟨⟨a1, lsp_frm hf a2, lse_frm hf a3⟩, ⟨hf.1 _ _ _ _ (fun e => by unfold XP at e; omega) a4, hf.1 _ _ _ _ (fun e => by unfold XP at e; omega) a5⟩, q, hf.1 _ _ _ _ (nxp (by omega) (by omega) (by omega)) a6, a7⟩, fun t ht => ptk_frm hf (b1 t ht), fun t ht => ptp_frm hf (b2 t ht)⟩, fun t ht => pts_frm hf (b3 t ht)⟩
/-! bounds -/
theorem byD_top : byD d pp x y T ≤ 1000000 := mnJ_top T
theorem hwD_top (i : Nat) : hwD n T tk d i ≤ 1000000 := by
  unfold hwD
  by_cases e : i < n
  · rw [if_pos e]; exact byD_top
  · rw [if_neg e]; omega
theorem bY_lt (hp : PTk ad h t pp) : bY pp < 200 := by
  obtain ⟨⟨kk, qk, -, ⟨-, hx⟩, -, hy⟩, -⟩ := hp
  have l1 := mA_lt hx (show 50 < 100 by omega)
  have l2 := mA_lt hy (show 50 < 100 by omega)
  unfold bY
  omega
theorem onD_top (hK : ∀ t, t < n → PTk ad h t (tk t)) (i j : Nat) (hj : j < n) : onD n T tk d sz i j ≤ 1000200 := by
  have h1 := bY_lt (hK j hj)
  have h2 := hwD_top (n := n) (T := T) (tk := tk) (d := d) i
  unfold onD
  by_cases e : i < n
  · rw [if_pos e]
    by_cases f : sz i = sz j
    · rw [if_pos f]
      have := byD_top (d := d) (pp := tk i) (x := (tk j).1.1) (y := (tk j).1.2) (T := T)
      omega
    · rw [if_neg f]; omega
  · rw [if_neg e]; omega
/-! the number of TASKS -/
theorem rl_tc (hT : TS ad h np ex ho) (hqp : ad 8 0 = some qp) (hl : LsP ad h n) (hn : n ≤ 6) (h4 : am_w St ≤ 8) (hk : Rt σ M tl L (.int (nI n) :: St) h Q) : Rt σ M ((pc, (12, 93, c)) :: tl) L (.ref qp :: St) h Q := by
  obtain ⟨⟨⟨-, f45, f45'⟩, -⟩, -⟩ := bd_f
  obtain ⟨⟨-, -, c8m, c8⟩, -⟩ := bd_c.1
  obtain ⟨⟨⟨s93, -⟩, -⟩, -⟩ := pc_sa
  obtain ⟨⟨⟨m127, -⟩, -⟩, -⟩ := pc_ml.1
  obtain ⟨q, mc, ed, a1, a2, a3⟩ := hl
  obtain ⟨vp, xp, -⟩ := at_kind hT.1 (by omega) (by omega) a1 hqp
  rw [c8] at xp
  refine rl_callv (as := []) (r := St) s93 rfl rfl xp h4 (ref_ok m127) ?_
  rw [code_127]
  refine rl_load rfl rfl (ra_get hT.1 (by omega) (by omega) hqp (by rw [f45']; exact a1) (by rw [c8]; exact f45) (rl_qsz ⟨mc, ed, a2, a3⟩ (by show 0 ≤ 8; omega) (rl_const (rl_min (by show 0 ≤ 8; omega) (rl_ret1 ?_)))))
  show Rt σ M tl L (.int (if nI 6 < nI n then nI 6 else nI n) :: St) h Q
  rw [if_neg (by rw [tx_lt (by omega) (by omega)]; omega)]
  exact hk
theorem four_okR {q q' M : Nat} {a b : Int32} (hm : 4 ≤ mL M) : am_ok [.ref q, .ref q', .int a, .int b] M = true := by
  unfold am_ok
  rw [decide_eq_true (show ([.ref q, .ref q', .int a, .int b] : List Value).length ≤ mL M from hm)]
  rfl
theorem X_byT {q : Nat} (hT : TS ad h np ex ho) (hqt : ad 7 t = some q) (hp : PTk ad h t pp) (hq4 : LsQ ad h ql 4 T) (hT6 : T ≤ 6) (hP : ∀ t, t < T → PTp ad h t (d t)) (hx : x < 100) (hy : y < 100) (hQ : Q (some (.int (nI (byD d pp x y T)))) h) : Rt σ 128 (codeOf 128) (am_args 0 [.ref q, .ref ql, .int (nI x), .int (nI y)]) [] h Q := by
  obtain ⟨⟨-, ⟨f67, f67'⟩, -⟩, -⟩ := bd_f
  obtain ⟨f15, f15'⟩ := fi_f.1.1.2
  obtain ⟨f16, f16'⟩ := fi_f.1.2.1
  obtain ⟨⟨-, s78, -⟩, -⟩ := fi_sp
  obtain ⟨⟨-, s96⟩, -⟩ := bd_sp.1
  obtain ⟨⟨-, m129⟩, -⟩ := bd_ml.1
  obtain ⟨⟨⟨-, m109⟩, -⟩, -⟩ := fi_ml
  obtain ⟨⟨-, -, c7m, c7, -⟩, -⟩ := bd_c
  obtain ⟨⟨⟨⟨-, c4'⟩, -⟩, -⟩, -⟩ := wg_c
  obtain ⟨-, -, -, -, c2', -⟩ := fi_c
  have hp0 := hp
  obtain ⟨⟨kk, qk, ⟨⟨g1, g2⟩, -⟩, ⟨⟨k1, -⟩, hkx⟩, ⟨k2, -⟩, hky⟩, g5, -⟩ := hp
  obtain ⟨vt, xvt, -⟩ := at_kind hT.1 (by omega) (by omega) g5 hqt
  rw [c7] at xvt
  have loop : ∀ (r i : Nat) (L : LV), i + r = T → lv_get 0 L = some (.ref q) → lv_get 1 L = some (.ref ql) → lv_get 2 L = some (.int (nI x)) → lv_get 3 L = some (.int (nI y)) → lv_get 4 L = some (.int (nI (byD d pp x y i))) → lv_get 5 L = some (.int (nI i)) → Rt σ 128 (jump 128 7) L [] h Q := by
    intro r
    induction r with
    | zero =>
      intro i L hi l0 l1 l2 l3 l4 l5
      have ei : i = T := by omega
      subst ei
      rw [j128_7]
      refine rl_load l5 rfl (rl_load l1 rfl (rl_qsz hq4 (by show 1 ≤ 8; omega) (rl_icmpT ?_ ?_)))
      · show some (decide (nI i ≤ nI i)) = some true
        rw [decide_eq_true ((tx_le (by omega) (by omega)).mpr (Nat.le_refl _))]
      · show Rt σ 128 (jump 128 76) _ _ _ _
        rw [j128_76]
        exact rl_load l4 rfl (rl_ret1 hQ)
    | succ r ih =>
      intro i L hi l0 l1 l2 l3 l4 l5
      have hiT : i < T := by omega
      have hpp := hP i hiT
      have ml := mi_lt hpp hkx hky
      have ml5 := mi_lt hpp hx hy
      have lT := byD_top (d := d) (pp := pp) (x := x) (y := y) (T := i)
      rw [j128_7]
      refine rl_load l5 rfl (rl_load l1 rfl (rl_qsz hq4 (by show 1 ≤ 8; omega) (rl_icmpF ?_ (rl_load l1 rfl (rl_qget hT (by omega) c4' (by omega) hq4 (by omega) l5 hiT (by show 0 ≤ 8; omega) fun q4 hqq4 => rl_store rfl (rl_load (get_put rfl rfl (by omega) l0) rfl (rl_load (v := .ref q4) rfl rfl (rl_callv (as := [.ref q4]) (r := []) s96 rfl rfl xvt (by show 0 ≤ 8; omega) (ref2_ok m129) (X_mayGo hT hqt hp0 hqq4 hpp ?_)))))))))
      · show some (decide (nI T ≤ nI i)) = some false
        rw [decide_eq_false (by rw [tx_le (by omega) (by omega)]; omega)]
      have g6 : ∀ {k : Nat} {u : Value}, k ≤ 5 → u.category = 1 → lv_get k L = some u → lv_get k (lv_put 6 (.ref q4) L) = some u := fun {k u} hk hu hz => get_put hu rfl (by omega) hz
      show Rt σ 128 _ _ (.int (bif tkB (d i) pp.2 (Int32.ofInt 12) then 1 else 0) :: []) h Q
      cases hb1 : tkB (d i) pp.2 (Int32.ofInt 12)
      · have eT : byD d pp x y (i + 1) = byD d pp x y i := by
          unfold byD
          rw [mnJ, hb1, cond_false]
        refine rl_ifT rfl ?_
        show Rt σ 128 (jump 128 70) _ _ _ _
        rw [j128_70]
        refine rl_iinc (g6 (by omega) rfl l5) (rl_goto ?_)
        rw [nI_suc (by omega)]
        exact ih (i + 1) _ (by omega) (get_put rfl rfl (by omega) (g6 (by omega) rfl l0)) (get_put rfl rfl (by omega) (g6 (by omega) rfl l1)) (get_put rfl rfl (by omega) (g6 (by omega) rfl l2)) (get_put rfl rfl (by omega) (g6 (by omega) rfl l3)) (by rw [eT]; exact get_put rfl rfl (by omega) (g6 (by omega) rfl l4)) rfl
      have eT : nI (byD d pp x y (i + 1)) = (if nI (miT pp.1.1 pp.1.2 (d i) + miT x y (d i)) < nI (byD d pp x y i) then nI (miT pp.1.1 pp.1.2 (d i) + miT x y (d i)) else nI (byD d pp x y i)) := by
        rw [mn_nI (by omega) (by omega)]
        unfold byD
        rw [mnJ, hb1, cond_true]
      obtain ⟨v4, xv4, -⟩ := at_kind hT.1 (by omega) (by omega) hpp.1.1.1.1 hqq4
      rw [c4'] at xv4
      refine rl_ifF rfl (rl_load (g6 (by omega) rfl l4) rfl (rl_load (v := .ref q4) rfl rfl (rl_load (g6 (by omega) rfl l0) rfl (ra_get hT.1 (by omega) (by omega) hqt (by rw [f67']; exact g1) (by rw [c7]; exact f67) (ra_get hT.1 (by omega) (by omega) g2 (by rw [f15']; exact k1) (by rw [c2']; exact f15) (rl_load (g6 (by omega) rfl l0) rfl (ra_get hT.1 (by omega) (by omega) hqt (by rw [f67']; exact g1) (by rw [c7]; exact f67) (ra_get hT.1 (by omega) (by omega) g2 (by rw [f16']; exact k2) (by rw [c2']; exact f16) ?_))))))))
      refine rl_callv (as := [.int (nI pp.1.1), .int (nI pp.1.2)]) (r := [.int (nI (byD d pp x y i))]) s78 rfl rfl xv4 (by show 1 ≤ 8; omega) (three_ok m109) (X_milesTo hT hqq4 hpp hkx hky ?_)
      refine rl_load (v := .ref q4) rfl rfl (rl_load (g6 (by omega) rfl l2) rfl (rl_load (g6 (by omega) rfl l3) rfl (rl_callv (as := [.int (nI x), .int (nI y)]) (r := [.int (nI (miT pp.1.1 pp.1.2 (d i))), .int (nI (byD d pp x y i))]) s78 rfl rfl xv4 (by show 2 ≤ 8; omega) (three_ok m109) (X_milesTo hT hqq4 hpp hx hy (rl_bin (z := nI (miT pp.1.1 pp.1.2 (d i) + miT x y (d i))) (by show some _ = some _; rw [nI_plus (by omega)]) (rl_min (by show 0 ≤ 8; omega) ?_))))))
      rw [← eT]
      refine rl_store rfl ?_
      rw [j128_70]
      refine rl_iinc (get_put rfl rfl (by omega) (g6 (by omega) rfl l5)) (rl_goto ?_)
      rw [nI_suc (by omega)]
      have g5 : ∀ {k : Nat} {u : Value}, k ≤ 3 → u.category = 1 → lv_get k L = some u → lv_get k (lv_put 5 (.int (nI (i + 1))) (lv_put 4 (.int (nI (byD d pp x y (i + 1)))) (lv_put 6 (.ref q4) L))) = some u := fun {k u} hk hu hz => get_put hu rfl (by omega) (get_put hu rfl (by omega) (g6 (by omega) hu hz))
      exact ih (i + 1) _ (by omega) (g5 (by omega) rfl l0) (g5 (by omega) rfl l1) (g5 (by omega) rfl l2) (g5 (by omega) rfl l3) (get_put rfl rfl (by omega) rfl) rfl
  rw [head_128]
  refine rl_const (rl_store rfl (rl_const (rl_store rfl ?_)))
  exact loop T 0 _ (by omega) rfl rfl rfl rfl rfl rfl
/-! the legs -/
theorem X_legs (hT : TS ad h np ex ho) (hqp : ad 8 0 = some qp) (hD : PD ad h n T tk d sz) (hq4 : LsQ ad h ql 4 T) (h6 : At ad h 29 0 6 (.int (nI 0))) (hk : ∀ h', TS ad h' np ex ho → Frm ad h h' → LgS ad h' n (hwD n T tk d) (onD n T tk d sz) n n 0 → Q none h') : Rt σ 126 (codeOf 126) (am_args 0 [.ref qp, .ref ql]) [] h Q := by
  obtain ⟨⟨⟨-, f45, f45'⟩, ⟨f67, f67'⟩, -⟩, -⟩ := bd_f
  obtain ⟨f15, f15'⟩ := fi_f.1.1.2
  obtain ⟨f16, f16'⟩ := fi_f.1.2.1
  obtain ⟨⟨⟨-, ⟨f60, f60'⟩, f61, f61'⟩, -⟩, ⟨-, f68, f68'⟩, -⟩ := pc_f
  obtain ⟨⟨⟨-, s94⟩, -⟩, -⟩ := pc_sa
  obtain ⟨⟨s95, -⟩, -⟩ := bd_sp.1
  obtain ⟨⟨m130, -⟩, -⟩ := bd_ml.1
  obtain ⟨⟨⟨-, m128⟩, -⟩, -⟩ := pc_ml.1
  obtain ⟨⟨-, -, c8m, c8⟩, -, c7m, c7, -⟩ := bd_c.1
  obtain ⟨-, -, -, -, c2', -⟩ := fi_c
  obtain ⟨⟨⟨t4, t5, -⟩, -⟩, -⟩ := pl_t
  have n6 : n ≤ 6 := hD.1.1.1.1.1
  have T6 : T ≤ 6 := hD.1.1.1.1.2
  have on6 : ∀ k, onD n T tk d sz 6 k = bY (tk k) := fun k => by
    unfold onD
    rw [if_neg (by omega)]
  -- the inner loop, in a task's row
  have inner : ∀ (i : Nat), i < n → (∀ h', TS ad h' np ex ho → Frm ad h h' → LgS ad h' n (hwD n T tk d) (onD n T tk d sz) (i + 1) (i + 1) 0 → ∀ L : LV, lv_get 0 L = some (.ref qp) → lv_get 1 L = some (.ref ql) → lv_get 2 L = some (.int (nI i)) → Rt σ 126 (jump 126 142) L [] h' Q) → ∀ (r j : Nat) (h' : AH) (L : LV) (qi : Nat), j + r = n → TS ad h' np ex ho → Frm ad h h' → LgS ad h' n (hwD n T tk d) (onD n T tk d sz) (i + 1) i j → ad 7 i = some qi → lv_get 0 L = some (.ref qp) → lv_get 1 L = some (.ref ql) → lv_get 2 L = some (.int (nI i)) → lv_get 3 L = some (.ref qi) → lv_get 4 L = some (.int (nI j)) → Rt σ 126 (jump 126 53) L [] h' Q := by
    intro i hi hend r
    induction r with
    | zero =>
      intro j h' L qi hj hT' hF hS hqi l0 l1 l2 l3 l4
      have ej : j = n := by omega
      subst ej
      obtain ⟨⟨⟨⟨-, lp, -⟩, -⟩, -⟩, -⟩ := pd_frm hF hD
      rw [j126_53]
      refine rl_load l4 rfl (rl_load l0 rfl (rl_tc hT' hqp lp n6 (by show 1 ≤ 8; omega) (rl_icmpT ?_ ?_)))
      · show some (decide (nI j ≤ nI j)) = some true
        rw [decide_eq_true ((tx_le (by omega) (by omega)).mpr (Nat.le_refl _))]
      · obtain ⟨b1, b2, b3, b4⟩ := hS
        refine hend h' hT' hF ⟨b1, b2, fun t k ht hk' => ?_, fun k hk' => absurd hk' (Nat.not_lt_zero _)⟩ L l0 l1 l2
        by_cases e : t < i
        · exact b3 t k e hk'
        · have et : t = i := by omega
          rw [et]
          exact b4 k hk'
    | succ r ih =>
      intro j h' L qi hj hT' hF hS hqi l0 l1 l2 l3 l4
      have hjn : j < n := by omega
      obtain ⟨⟨⟨⟨-, lp, -⟩, -⟩, hK, hP⟩, hZ⟩ := pd_frm hF hD
      have hq4' := lsq_frm hF hq4
      have hki := hK i hi
      have hkj := hK j hjn
      have hon := onD_top (T := T) (d := d) (sz := sz) hK i j hjn
      obtain ⟨q7, mc, ed, a1, a2, a3⟩ := lp
      have lp : LsP ad h' n := ⟨q7, mc, ed, a1, a2, a3⟩
      obtain ⟨vi, xi, -⟩ := at_kind hT'.1 (by omega) (by omega) (hZ i hi).1 hqi
      rw [c7] at xi
      rw [j126_53]
      refine rl_load l4 rfl (rl_load l0 rfl (rl_tc hT' hqp lp n6 (by show 1 ≤ 8; omega) (rl_icmpF ?_ (rl_load l0 rfl (ra_get hT'.1 (by omega) (by omega) hqp (by rw [f45']; exact a1) (by rw [c8]; exact f45) (rl_qget hT' (by omega) c7 (by omega) ⟨mc, ed, a2, a3⟩ (by omega) l4 hjn (by show 0 ≤ 8; omega) fun qj hqj => rl_store rfl ?_))))))
      · show some (decide (nI n ≤ nI j)) = some false
        rw [decide_eq_false (by rw [tx_le (by omega) (by omega)]; omega)]
      have g5 : ∀ {k : Nat} {u : Value}, k ≤ 4 → u.category = 1 → lv_get k L = some u → lv_get k (lv_put 5 (.ref qj) L) = some u := fun {k u} hk hu hz => get_put hu rfl (by omega) hz
      -- behind the value
      have fin : ∀ q30, ad 30 0 = some q30 → Rt σ 126 (jump 126 135) (lv_put 5 (.ref qj) L) [.int (nI (onD n T tk d sz i j)), .int (nI (i * 6 + j)), .ref q30] h' Q := fun q30 hq30 => by
        rw [j126_135]
        refine rl_prow hT' pr_30 hq30 (by omega) (by omega) i2n_full fun h2 hT2 hO => rl_iinc (g5 (by omega) rfl l4) (rl_goto ?_)
        rw [nI_suc (by omega)]
        obtain ⟨b1, b2, b3, b4⟩ := hS
        have o := fun {c' i' p' W} (hne : ¬ (c' = 30 ∧ (i' = 0 ∧ p' = i * 6 + j))) ha => hO.1.2 c' i' p' W hne ha
        refine ih (j + 1) h2 _ qi (by omega) hT2 (frm_trans hF (frm_one hO (Or.inl (by omega)))) ⟨o (fun e => absurd e.1 (by omega)) b1, fun t ht => ⟨o (fun e => absurd e.1 (by omega)) (b2 t ht).1, o (fun e => absurd e.2.2 (by omega)) (b2 t ht).2⟩, fun t k ht hk' => o (fun e => absurd e.2.2 (by omega)) (b3 t k ht hk'), fun k hk' => ?_⟩ hqi (get_put rfl rfl (by omega) (g5 (by omega) rfl l0)) (get_put rfl rfl (by omega) (g5 (by omega) rfl l1)) (get_put rfl rfl (by omega) (g5 (by omega) rfl l2)) (get_put rfl rfl (by omega) (g5 (by omega) rfl l3)) rfl
        by_cases e : k = j
        · subst e
          exact hO.1.1
        · exact o (fun f => absurd f.2.2 (by omega)) (b4 k (by omega))
      refine rl_load (g5 (by omega) rfl l0) rfl (ra_prow hT' hqp (by rw [f61']; exact t5) f61 fun q30 hq30 => rl_load (g5 (by omega) rfl l2) rfl (rl_const (rl_bin (z := nI (i * 6)) (by show some (nI i * nI 6) = some _; rw [pk_mul]) (rl_load (g5 (by omega) rfl l4) rfl (rl_bin (z := nI (i * 6 + j)) (by show some _ = some _; rw [nI_plus (by omega)]) (rl_load (g5 (by omega) rfl l3) rfl (ra_get hT'.1 (by omega) (by omega) hqi (by rw [f68']; exact (hZ i hi).1) (by rw [c7]; exact f68) (rl_load (v := .ref qj) rfl rfl (ra_get hT'.1 (by omega) (by omega) hqj (by rw [f68']; exact (hZ j hjn).1) (by rw [c7]; exact f68) ?_)))))))))
      by_cases es : sz i = sz j
      · have ev : onD n T tk d sz i j = byD d (tk i) (tk j).1.1 (tk j).1.2 T := by
          unfold onD
          rw [if_pos hi, if_pos es]
        obtain ⟨⟨kk, qk, ⟨⟨g1, g2⟩, -⟩, ⟨⟨k1, -⟩, hkx⟩, ⟨k2, -⟩, hky⟩, -⟩ := hkj
        refine rl_icmpF (by show some (decide (¬ sz i = sz j)) = some false; rw [decide_eq_false (fun f => f es)]) (rl_load (g5 (by omega) rfl l3) rfl (rl_load (g5 (by omega) rfl l1) rfl (rl_load (v := .ref qj) rfl rfl (ra_get hT'.1 (by omega) (by omega) hqj (by rw [f67']; exact g1) (by rw [c7]; exact f67) (ra_get hT'.1 (by omega) (by omega) g2 (by rw [f15']; exact k1) (by rw [c2']; exact f15) (rl_load (v := .ref qj) rfl rfl (ra_get hT'.1 (by omega) (by omega) hqj (by rw [f67']; exact g1) (by rw [c7]; exact f67) (ra_get hT'.1 (by omega) (by omega) g2 (by rw [f16']; exact k2) (by rw [c2']; exact f16) (rl_callv (as := [.ref ql, .int (nI (tk j).1.1), .int (nI (tk j).1.2)]) (r := [.int (nI (i * 6 + j)), .ref q30]) s94 rfl rfl xi (by show 2 ≤ 8; omega) (four_okR m128) (X_byT hT' hqi hki hq4' T6 hP hkx hky (rl_goto ?_)))))))))))
        have := fin q30 hq30
        rw [ev] at this
        exact this
      · have ev : onD n T tk d sz i j = hwD n T tk d i + bY (tk j) := by
          unfold onD
          rw [if_pos hi, if_neg es]
        have hb := bY_lt hkj
        have hh := hwD_top (n := n) (T := T) (tk := tk) (d := d) i
        obtain ⟨vj, xj, -⟩ := at_kind hT'.1 (by omega) (by omega) (hZ j hjn).1 hqj
        rw [c7] at xj
        refine rl_icmpT (by show some (decide (¬ sz i = sz j)) = some true; rw [decide_eq_true es]) ?_
        show Rt σ 126 (jump 126 123) _ _ _ _
        rw [j126_123]
        refine rl_load (g5 (by omega) rfl l0) rfl (ra_prow hT' hqp (by rw [f60']; exact t4) f60 fun q29 hq29 => rl_load (g5 (by omega) rfl l2) rfl (ra_ald (p := i) hT'.1 (by omega) (by rw [pr_29.1.1.2]; omega) hq29 (hS.2.1 i (by omega)).1 (by rw [pr_29.1.1.2]; rfl) (by omega) (rl_load (v := .ref qj) rfl rfl (rl_callv (as := []) (r := [.int (nI (hwD n T tk d i)), .int (nI (i * 6 + j)), .ref q30]) s95 rfl rfl xj (by show 3 ≤ 8; omega) (ref_ok m130) (X_fromY hT' hqj hkj (rl_bin (z := nI (onD n T tk d sz i j)) (by show some _ = some _; rw [nI_plus (by omega), ev]) (fin q30 hq30)))))))
  -- the outer loop
  have outer : ∀ (r i : Nat) (h' : AH) (L : LV), i + r = n → TS ad h' np ex ho → Frm ad h h' → LgS ad h' n (hwD n T tk d) (onD n T tk d sz) i i 0 → lv_get 0 L = some (.ref qp) → lv_get 1 L = some (.ref ql) → lv_get 2 L = some (.int (nI i)) → Rt σ 126 (jump 126 2) L [] h' Q := by
    intro r
    induction r with
    | zero =>
      intro i h' L hi hT' hF hS l0 l1 l2
      have ei : i = n := by omega
      subst ei
      obtain ⟨⟨⟨⟨-, lp, -⟩, -⟩, -⟩, -⟩ := pd_frm hF hD
      rw [j126_2]
      refine rl_load l2 rfl (rl_load l0 rfl (rl_tc hT' hqp lp n6 (by show 1 ≤ 8; omega) (rl_icmpT ?_ ?_)))
      · show some (decide (nI i ≤ nI i)) = some true
        rw [decide_eq_true ((tx_le (by omega) (by omega)).mpr (Nat.le_refl _))]
      · show Rt σ 126 (jump 126 148) _ _ _ _
        rw [j126_148]
        exact rl_ret0 (hk h' hT' hF hS)
    | succ r ih =>
      intro i h' L hi hT' hF hS l0 l1 l2
      have hin : i < n := by omega
      obtain ⟨⟨⟨⟨-, lp, -⟩, -⟩, hK, hP⟩, hZ⟩ := pd_frm hF hD
      have hq4' := lsq_frm hF hq4
      have hki := hK i hin
      obtain ⟨q7, mc, ed, a1, a2, a3⟩ := lp
      have lp : LsP ad h' n := ⟨q7, mc, ed, a1, a2, a3⟩
      rw [j126_2]
      refine rl_load l2 rfl (rl_load l0 rfl (rl_tc hT' hqp lp n6 (by show 1 ≤ 8; omega) (rl_icmpF ?_ (rl_load l0 rfl (ra_get hT'.1 (by omega) (by omega) hqp (by rw [f45']; exact a1) (by rw [c8]; exact f45) (rl_qget hT' (by omega) c7 (by omega) ⟨mc, ed, a2, a3⟩ (by omega) l2 hin (by show 0 ≤ 8; omega) fun qi hqi => rl_store rfl ?_))))))
      · show some (decide (nI n ≤ nI i)) = some false
        rw [decide_eq_false (by rw [tx_le (by omega) (by omega)]; omega)]
      have g3 : ∀ {k : Nat} {u : Value}, k ≤ 2 → u.category = 1 → lv_get k L = some u → lv_get k (lv_put 3 (.ref qi) L) = some u := fun {k u} hk hu hz => get_put hu rfl (by omega) hz
      obtain ⟨vi, xi, -⟩ := at_kind hT'.1 (by omega) (by omega) (hZ i hin).1 hqi
      rw [c7] at xi
      have hb := bY_lt hki
      have eh : hwD n T tk d i = byD d (tk i) 50 50 T := by
        unfold hwD
        rw [if_pos hin]
      refine rl_load (g3 (by omega) rfl l0) rfl (ra_prow hT' hqp (by rw [f60']; exact t4) f60 fun q29 hq29 => rl_load (g3 (by omega) rfl l2) rfl (rl_load (v := .ref qi) rfl rfl (rl_load (g3 (by omega) rfl l1) rfl (rl_const (rl_const (rl_callv (as := [.ref ql, .int (nI 50), .int (nI 50)]) (r := [.int (nI i), .ref q29]) s94 rfl rfl xi (by show 2 ≤ 8; omega) (four_okR m128) (X_byT hT' hqi hki hq4' T6 hP (by omega) (by omega) (rl_prow hT' pr_29 hq29 (by omega) (by omega) i2n_full fun h2 hT2 hO => ?_))))))))
      have hF2 := frm_trans hF (frm_one hO (Or.inl (by omega)))
      obtain ⟨⟨⟨⟨-, lp2, -⟩, -⟩, hK2, hP2⟩, hZ2⟩ := pd_frm hF2 hD
      obtain ⟨vi2, xi2, -⟩ := at_kind hT2.1 (by omega) (by omega) (hZ2 i hin).1 hqi
      rw [c7] at xi2
      refine rl_load (g3 (by omega) rfl l0) rfl (ra_prow hT2 hqp (by rw [f61']; exact t5) f61 fun q30 hq30 => rl_const (rl_load (g3 (by omega) rfl l2) rfl (rl_bin (z := nI (36 + i)) (by show some (nI 36 + nI i) = some _; rw [nI_plus (by omega)]) (rl_load (v := .ref qi) rfl rfl (rl_callv (as := []) (r := [.int (nI (36 + i)), .ref q30]) s95 rfl rfl xi2 (by show 2 ≤ 8; omega) (ref_ok m130) (X_fromY hT2 hqi (hK2 i hin) (rl_prow hT2 pr_30 hq30 (by omega) (by omega) i2n_full fun h3 hT3 hO3 => ?_)))))))
      obtain ⟨b1, b2, b3, b4⟩ := hS
      have o := fun {c' i' p' W} (h1 : ¬ (c' = 29 ∧ (i' = 0 ∧ p' = i))) (h2 : ¬ (c' = 30 ∧ (i' = 0 ∧ p' = 36 + i))) ha => hO3.1.2 c' i' p' W h2 (hO.1.2 c' i' p' W h1 ha)
      have hS3 : LgS ad h3 n (hwD n T tk d) (onD n T tk d sz) (i + 1) i 0 := by
        refine ⟨o (fun e => absurd e.2.2 (by omega)) (fun e => absurd e.1 (by omega)) b1, fun t ht => ?_, fun t k ht hk' => o (fun e => absurd e.1 (by omega)) (fun e => absurd e.2.2 (by omega)) (b3 t k ht hk'), fun k hk' => absurd hk' (Nat.not_lt_zero _)⟩
        by_cases e : t = i
        · subst e
          rw [eh, on6]
          exact ⟨hO3.1.2 _ _ _ _ (fun e => absurd e.1 (by omega)) hO.1.1, hO3.1.1⟩
        · exact ⟨o (fun f => absurd f.2.2 (by omega)) (fun f => absurd f.1 (by omega)) (b2 t (by omega)).1, o (fun f => absurd f.1 (by omega)) (fun f => absurd f.2.2 (by omega)) (b2 t (by omega)).2⟩
      refine rl_const (rl_store rfl ?_)
      refine inner i hin (fun h4 hT4 hF4 hS4 L4 m0 m1 m2 => ?_) n 0 h3 _ qi (by omega) hT3 (frm_trans hF2 (frm_one hO3 (Or.inl (by omega)))) hS3 hqi (get_put rfl rfl (by omega) (g3 (by omega) rfl l0)) (get_put rfl rfl (by omega) (g3 (by omega) rfl l1)) (get_put rfl rfl (by omega) (g3 (by omega) rfl l2)) (get_put rfl rfl (by omega) rfl) rfl
      rw [j126_142]
      refine rl_iinc m2 (rl_goto ?_)
      rw [nI_suc (by omega)]
      exact ih (i + 1) h4 _ (by omega) hT4 hF4 hS4 (get_put rfl rfl (by omega) m0) (get_put rfl rfl (by omega) m1) rfl
  rw [head_126]
  refine rl_const (rl_store rfl ?_)
  exact outer n 0 h _ (by omega) hT frm_refl ⟨h6, fun t ht => absurd ht (Nat.not_lt_zero _), fun t k ht => absurd ht (Nat.not_lt_zero _), fun k hk' => absurd hk' (Nat.not_lt_zero _)⟩ rfl rfl rfl
end
end
