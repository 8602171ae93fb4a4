section
/-! ===== FROM BELOW: both sides by hand ===== -/
theorem code_142 : codeOf 142 = [(0, (1, 0, 2)), (1, (8, 8, 0)), (4, (1, 0, 2)), (5, (8, 6, 0)), (8, (12, 105, 0)), (11, (13, 1, 0))] := by decide +kernel
theorem code_143 : codeOf 143 = [(0, (1, 0, 2)), (1, (8, 45, 0)), (4, (12, 106, 0)), (7, (6, 0, 12)), (10, (0, 0, 0)), (11, (13, 1, 0)), (12, (0, 0, 0)), (13, (2, 2, 0)), (14, (0, 0, 1000000)), (16, (2, 3, 0)), (17, (0, 0, 1000000)), (19, (2, 4, 0)), (21, (0, 0, 0)), (22, (2, 5, 0)), (24, (1, 5, 0)), (26, (1, 0, 2)), (27, (8, 45, 0)), (30, (12, 13, 0)), (33, (5, 3, 168)), (36, (1, 0, 2)), (37, (8, 45, 0)), (40, (1, 5, 0)), (42, (12, 17, 0)), (45, (28, 7, 0)), (48, (2, 6, 2)), (50, (0, 0, 1000000)), (52, (2, 7, 0)), (54, (0, 0, 0)), (55, (2, 8, 0)), (57, (1, 8, 0)), (59, (1, 1, 2)), (60, (12, 13, 0)), (63, (5, 3, 137)), (66, (1, 1, 2)), (67, (1, 8, 0)), (69, (12, 17, 0)), (72, (28, 4, 0)), (75, (2, 9, 2)), (77, (1, 6, 2)), (79, (1, 9, 2)), (81, (12, 96, 0)), (84, (6, 0, 131)), (87, (1, 7, 0)), (89, (1, 9, 2)), (91, (1, 6, 2)), (93, (8, 67, 0)), (96, (8, 15, 0)), (99, (1, 6, 2)), (101, (8, 67, 0)), (104, (8, 16, 0)), (107, (12, 78, 0)), (110, (32, 1, 0)), (113, (2, 7, 0)), (115, (1, 4, 0)), (117, (1, 9, 2)), (119, (0, 0, 50)), (121, (0, 0, 50)), (123, (12, 78, 0)), (126, (32, 1, 0)), (129, (2, 4, 0)), (131, (3, 8, 1)), (134, (7, 0, 57)), (137, (1, 7, 0)), (139, (0, 0, 1000000)), (141, (5, 1, 147)), (144, (0, 0, -3)), (146, (13, 1, 0)), (147, (1, 2, 0)), (148, (1, 7, 0)), (150, (4, 0, 0)), (151, (2, 2, 0)), (152, (1, 3, 0)), (153, (1, 6, 2)), (155, (12, 95, 0)), (158, (32, 1, 0)), (161, (2, 3, 0)), (162, (3, 5, 1)), (165, (7, 0, 24)), (168, (1, 2, 0)), (169, (1, 3, 0)), (170, (4, 0, 0)), (171, (1, 4, 0)), (173, (4, 0, 0)), (174, (13, 1, 0))] := by decide +kernel
set_option maxRecDepth 100000 in
theorem head_143 : codeOf 143 = [(0, (1, 0, 2)), (1, (8, 45, 0)), (4, (12, 106, 0)), (7, (6, 0, 12)), (10, (0, 0, 0)), (11, (13, 1, 0))] ++ jump 143 12 := by rw [jump_jmp, code_143]; rfl
set_option maxRecDepth 100000 in
theorem j143_12 : jump 143 12 = [(12, (0, 0, 0)), (13, (2, 2, 0)), (14, (0, 0, 1000000)), (16, (2, 3, 0)), (17, (0, 0, 1000000)), (19, (2, 4, 0)), (21, (0, 0, 0)), (22, (2, 5, 0))] ++ jump 143 24 := by rw [jump_jmp, jump_jmp, code_143]; rfl
set_option maxRecDepth 100000 in
theorem j143_24 : jump 143 24 = [(24, (1, 5, 0)), (26, (1, 0, 2)), (27, (8, 45, 0)), (30, (12, 13, 0)), (33, (5, 3, 168)), (36, (1, 0, 2)), (37, (8, 45, 0)), (40, (1, 5, 0)), (42, (12, 17, 0)), (45, (28, 7, 0)), (48, (2, 6, 2)), (50, (0, 0, 1000000)), (52, (2, 7, 0)), (54, (0, 0, 0)), (55, (2, 8, 0))] ++ jump 143 57 := by rw [jump_jmp, jump_jmp, code_143]; rfl
set_option maxRecDepth 100000 in
theorem j143_57 : jump 143 57 = [(57, (1, 8, 0)), (59, (1, 1, 2)), (60, (12, 13, 0)), (63, (5, 3, 137)), (66, (1, 1, 2)), (67, (1, 8, 0)), (69, (12, 17, 0)), (72, (28, 4, 0)), (75, (2, 9, 2)), (77, (1, 6, 2)), (79, (1, 9, 2)), (81, (12, 96, 0)), (84, (6, 0, 131)), (87, (1, 7, 0)), (89, (1, 9, 2)), (91, (1, 6, 2)), (93, (8, 67, 0)), (96, (8, 15, 0)), (99, (1, 6, 2)), (101, (8, 67, 0)), (104, (8, 16, 0)), (107, (12, 78, 0)), (110, (32, 1, 0)), (113, (2, 7, 0)), (115, (1, 4, 0)), (117, (1, 9, 2)), (119, (0, 0, 50)), (121, (0, 0, 50)), (123, (12, 78, 0)), (126, (32, 1, 0)), (129, (2, 4, 0))] ++ jump 143 131 := by rw [jump_jmp, jump_jmp, code_143]; rfl
set_option maxRecDepth 100000 in
theorem j143_131 : jump 143 131 = [(131, (3, 8, 1)), (134, (7, 0, 57))] ++ jump 143 137 := by rw [jump_jmp, jump_jmp, code_143]; rfl
set_option maxRecDepth 100000 in
theorem j143_137 : jump 143 137 = [(137, (1, 7, 0)), (139, (0, 0, 1000000)), (141, (5, 1, 147)), (144, (0, 0, -3)), (146, (13, 1, 0))] ++ jump 143 147 := by rw [jump_jmp, jump_jmp, code_143]; rfl
set_option maxRecDepth 100000 in
theorem j143_147 : jump 143 147 = [(147, (1, 2, 0)), (148, (1, 7, 0)), (150, (4, 0, 0)), (151, (2, 2, 0)), (152, (1, 3, 0)), (153, (1, 6, 2)), (155, (12, 95, 0)), (158, (32, 1, 0)), (161, (2, 3, 0)), (162, (3, 5, 1)), (165, (7, 0, 24))] ++ jump 143 168 := by rw [jump_jmp, jump_jmp, code_143]; rfl
set_option maxRecDepth 100000 in
theorem j143_168 : jump 143 168 = [(168, (1, 2, 0)), (169, (1, 3, 0)), (170, (4, 0, 0)), (171, (1, 4, 0)), (173, (4, 0, 0)), (174, (13, 1, 0))] := by rw [jump_jmp, code_143]; rfl
theorem code_129 : codeOf 129 = [(0, (1, 1, 2)), (1, (1, 0, 2)), (2, (8, 69, 0)), (5, (0, 0, 12)), (7, (12, 79, 0)), (10, (13, 4, 0))] := by decide +kernel
theorem code_130 : codeOf 130 = [(0, (1, 0, 2)), (1, (8, 67, 0)), (4, (8, 15, 0)), (7, (1, 0, 2)), (8, (8, 67, 0)), (11, (8, 16, 0)), (14, (0, 0, 50)), (16, (0, 0, 50)), (18, (12, 80, 0)), (21, (13, 1, 0))] := by decide +kernel
theorem code_256 : codeOf 256 = [(0, (0, 0, 50)), (2, (0, 0, 50)), (4, (1, 0, 2)), (5, (8, 86, 0)), (8, (1, 0, 2)), (9, (8, 125, 0)), (12, (1, 1, 0)), (13, (10, 0, 0)), (14, (10, 0, 0)), (15, (1, 0, 2)), (16, (8, 87, 0)), (19, (1, 0, 2)), (20, (8, 125, 0)), (23, (1, 1, 0)), (24, (10, 0, 0)), (25, (10, 0, 0)), (26, (12, 169, 0)), (29, (13, 1, 0))] := by decide +kernel
theorem code_261 : codeOf 261 = [(0, (0, 0, 0)), (1, (2, 1, 0)), (2, (0, 0, 1000000)), (5, (2, 2, 0)), (6, (0, 0, 1000000)), (9, (2, 3, 0)), (10, (0, 0, 0)), (11, (2, 4, 0)), (13, (1, 4, 0)), (15, (1, 0, 2)), (16, (8, 150, 0)), (19, (5, 3, 173)), (22, (0, 0, 1000000)), (25, (2, 5, 0)), (27, (0, 0, 0)), (28, (2, 6, 0)), (30, (1, 6, 0)), (32, (1, 0, 2)), (33, (8, 139, 0)), (36, (5, 3, 130)), (39, (1, 0, 2)), (40, (1, 6, 0)), (42, (1, 0, 2)), (43, (8, 127, 0)), (46, (1, 4, 0)), (48, (10, 0, 0)), (49, (0, 0, 12)), (51, (12, 167, 0)), (54, (6, 0, 124)), (57, (1, 0, 2)), (58, (1, 0, 2)), (59, (8, 125, 0)), (62, (1, 4, 0)), (64, (10, 0, 0)), (65, (1, 6, 0)), (67, (12, 168, 0)), (70, (2, 7, 0)), (72, (1, 0, 2)), (73, (8, 92, 0)), (76, (1, 6, 0)), (78, (10, 0, 0)), (79, (1, 0, 2)), (80, (8, 93, 0)), (83, (1, 6, 0)), (85, (10, 0, 0)), (86, (0, 0, 50)), (88, (0, 0, 50)), (90, (12, 169, 0)), (93, (2, 8, 0)), (95, (1, 7, 0)), (97, (1, 5, 0)), (99, (5, 3, 107)), (102, (1, 7, 0)), (104, (7, 0, 109)), (107, (1, 5, 0)), (109, (2, 5, 0)), (111, (1, 8, 0)), (113, (1, 3, 0)), (114, (5, 3, 122)), (117, (1, 8, 0)), (119, (7, 0, 123)), (122, (1, 3, 0)), (123, (2, 3, 0)), (124, (3, 6, 1)), (127, (7, 0, 30)), (130, (1, 5, 0)), (132, (0, 0, 1000000)), (135, (5, 1, 141)), (138, (0, 0, -3)), (140, (13, 1, 0)), (141, (1, 1, 0)), (142, (1, 5, 0)), (144, (4, 0, 0)), (145, (2, 1, 0)), (146, (1, 0, 2)), (147, (1, 4, 0)), (149, (12, 180, 0)), (152, (1, 2, 0)), (153, (5, 3, 165)), (156, (1, 0, 2)), (157, (1, 4, 0)), (159, (12, 180, 0)), (162, (7, 0, 166)), (165, (1, 2, 0)), (166, (2, 2, 0)), (167, (3, 4, 1)), (170, (7, 0, 13)), (173, (1, 0, 2)), (174, (8, 150, 0)), (177, (6, 1, 184)), (180, (0, 0, 0)), (181, (7, 0, 189)), (184, (1, 1, 0)), (185, (1, 2, 0)), (186, (4, 0, 0)), (187, (1, 3, 0)), (188, (4, 0, 0)), (189, (13, 1, 0))] := by decide +kernel
set_option maxRecDepth 100000 in
theorem head_261 : codeOf 261 = [(0, (0, 0, 0)), (1, (2, 1, 0)), (2, (0, 0, 1000000)), (5, (2, 2, 0)), (6, (0, 0, 1000000)), (9, (2, 3, 0)), (10, (0, 0, 0)), (11, (2, 4, 0))] ++ jump 261 13 := by rw [jump_jmp, code_261]; rfl
set_option maxRecDepth 100000 in
theorem j261_13 : jump 261 13 = [(13, (1, 4, 0)), (15, (1, 0, 2)), (16, (8, 150, 0)), (19, (5, 3, 173)), (22, (0, 0, 1000000)), (25, (2, 5, 0)), (27, (0, 0, 0)), (28, (2, 6, 0))] ++ jump 261 30 := by rw [jump_jmp, jump_jmp, code_261]; rfl
set_option maxRecDepth 100000 in
theorem j261_30 : jump 261 30 = [(30, (1, 6, 0)), (32, (1, 0, 2)), (33, (8, 139, 0)), (36, (5, 3, 130)), (39, (1, 0, 2)), (40, (1, 6, 0)), (42, (1, 0, 2)), (43, (8, 127, 0)), (46, (1, 4, 0)), (48, (10, 0, 0)), (49, (0, 0, 12)), (51, (12, 167, 0)), (54, (6, 0, 124)), (57, (1, 0, 2)), (58, (1, 0, 2)), (59, (8, 125, 0)), (62, (1, 4, 0)), (64, (10, 0, 0)), (65, (1, 6, 0)), (67, (12, 168, 0)), (70, (2, 7, 0)), (72, (1, 0, 2)), (73, (8, 92, 0)), (76, (1, 6, 0)), (78, (10, 0, 0)), (79, (1, 0, 2)), (80, (8, 93, 0)), (83, (1, 6, 0)), (85, (10, 0, 0)), (86, (0, 0, 50)), (88, (0, 0, 50)), (90, (12, 169, 0)), (93, (2, 8, 0)), (95, (1, 7, 0)), (97, (1, 5, 0)), (99, (5, 3, 107)), (102, (1, 7, 0)), (104, (7, 0, 109))] ++ jump 261 107 := by rw [jump_jmp, jump_jmp, code_261]; rfl
set_option maxRecDepth 100000 in
theorem j261_107 : jump 261 107 = [(107, (1, 5, 0))] ++ jump 261 109 := by rw [jump_jmp, jump_jmp, code_261]; rfl
set_option maxRecDepth 100000 in
theorem j261_109 : jump 261 109 = [(109, (2, 5, 0)), (111, (1, 8, 0)), (113, (1, 3, 0)), (114, (5, 3, 122)), (117, (1, 8, 0)), (119, (7, 0, 123))] ++ jump 261 122 := by rw [jump_jmp, jump_jmp, code_261]; rfl
set_option maxRecDepth 100000 in
theorem j261_122 : jump 261 122 = [(122, (1, 3, 0))] ++ jump 261 123 := by rw [jump_jmp, jump_jmp, code_261]; rfl
set_option maxRecDepth 100000 in
theorem j261_123 : jump 261 123 = [(123, (2, 3, 0))] ++ jump 261 124 := by rw [jump_jmp, jump_jmp, code_261]; rfl
set_option maxRecDepth 100000 in
theorem j261_124 : jump 261 124 = [(124, (3, 6, 1)), (127, (7, 0, 30))] ++ jump 261 130 := by rw [jump_jmp, jump_jmp, code_261]; rfl
set_option maxRecDepth 100000 in
theorem j261_130 : jump 261 130 = [(130, (1, 5, 0)), (132, (0, 0, 1000000)), (135, (5, 1, 141)), (138, (0, 0, -3)), (140, (13, 1, 0))] ++ jump 261 141 := by rw [jump_jmp, jump_jmp, code_261]; rfl
set_option maxRecDepth 100000 in
theorem j261_141 : jump 261 141 = [(141, (1, 1, 0)), (142, (1, 5, 0)), (144, (4, 0, 0)), (145, (2, 1, 0)), (146, (1, 0, 2)), (147, (1, 4, 0)), (149, (12, 180, 0)), (152, (1, 2, 0)), (153, (5, 3, 165)), (156, (1, 0, 2)), (157, (1, 4, 0)), (159, (12, 180, 0)), (162, (7, 0, 166))] ++ jump 261 165 := by rw [jump_jmp, jump_jmp, code_261]; rfl
set_option maxRecDepth 100000 in
theorem j261_165 : jump 261 165 = [(165, (1, 2, 0))] ++ jump 261 166 := by rw [jump_jmp, jump_jmp, code_261]; rfl
set_option maxRecDepth 100000 in
theorem j261_166 : jump 261 166 = [(166, (2, 2, 0)), (167, (3, 4, 1)), (170, (7, 0, 13))] ++ jump 261 173 := by rw [jump_jmp, jump_jmp, code_261]; rfl
set_option maxRecDepth 100000 in
theorem j261_173 : jump 261 173 = [(173, (1, 0, 2)), (174, (8, 150, 0)), (177, (6, 1, 184)), (180, (0, 0, 0)), (181, (7, 0, 189))] ++ jump 261 184 := by rw [jump_jmp, jump_jmp, code_261]; rfl
set_option maxRecDepth 100000 in
theorem j261_184 : jump 261 184 = [(184, (1, 1, 0)), (185, (1, 2, 0)), (186, (4, 0, 0)), (187, (1, 3, 0)), (188, (4, 0, 0))] ++ jump 261 189 := by rw [jump_jmp, jump_jmp, code_261]; rfl
set_option maxRecDepth 100000 in
theorem j261_189 : jump 261 189 = [(189, (13, 1, 0))] := by rw [jump_jmp, code_261]; rfl
theorem bd_sp : ((spec 95 = (1, 0, [(7, 130)]) ∧ spec 96 = (1, 1, [(7, 129)])) ∧ (spec 105 = (1, 1, [(8, 143)]) ∧ spec 106 = (1, 0, [(12, 287)]))) ∧ spec 180 = (1, 1, [(11, 256)]) := by decide +kernel
theorem bd_ml : ((1 ≤ mL 130 ∧ 2 ≤ mL 129) ∧ (2 ≤ mL 143 ∧ 1 ≤ mL 287)) ∧ 2 ≤ mL 256 := by decide +kernel
theorem bd_f : ((((fks 8).contains 10 = true ∧ fpos 8 = 12) ∧ ((fks 45).contains 8 = true ∧ fpos 45 = 0)) ∧ (((fks 67).contains 7 = true ∧ fpos 67 = 0) ∧ ((fks 69).contains 7 = true ∧ fpos 69 = 2))) ∧ (((fks 150).contains 11 = true ∧ fpos 150 = 54) ∧ (((fks 127).contains 11 = true ∧ fpos 127 = 57) ∧ ((fks 125).contains 11 = true ∧ fpos 125 = 55))) := by decide +kernel
theorem bd_c : ((ct_at 10 12 = some (7, 8, 0) ∧ (ct_at 8 0 = some (7, 16, 0) ∧ (cdm 8 = 0 ∧ cdk 8 = 8))) ∧ ((16, 7, 1, 6) ∈ lstt ∧ (cdm 7 = 0 ∧ (cdk 7 = 7 ∧ 3 ≤ (cd 7).2.2.length)))) ∧ (((ct_at 11 55 = some (7, 87, 0) ∧ cdk 87 = 20) ∧ (ct_at 11 57 = some (7, 89, 0) ∧ cdk 89 = 20)) ∧ (tgc (7, 0, 2147483648) = 2 ∧ mEmpty = 287)) := by decide +kernel
theorem bd_h : (hcL.drop 20).take 3 = [(0, 2050, 2147483648, 2147483654), (2, 7, 1, 0), (0, 1462, 1, 0)] := by decide +kernel
theorem cpf_s1 : ((cp_at ffS1).1 = 8 ∧ (cp_at ffS1).2.1 = [(7, 0, 2147483648), (87, 1, 2147483648)]) ∧ ((cp_at ffS1).2.2.1 = [[(100, 2147483648, 2147483671), (0, 2147483648, 2147483671)]] ∧ ffS1 < npL) := by decide +kernel
theorem cpf_s3 : ((cp_at ffS3).1 = 7 + 1 ∧ (cp_at ffS3).2.1 = [(7, 0, 2147483648 + 2), (89, 1, 2147483648)]) ∧ ((cp_at ffS3).2.2.1 = [[(0, 2147483648, 2147483653), (0, 2147483648, 2147483653)]] ∧ ffS3 < npL) := by decide +kernel
/-- the list of tasks -/
noncomputable def LsP (ad : AD) (h : AH) (n : Nat) : Prop := ∃ ql mc ed, At ad h 8 0 0 (.ref ql) ∧ (h.1 ql = some (12, [.int mc, ed, .int (nI n)]) ∧ (n = 0 ∨ ∃ bq us, ed = .ref bq ∧ (h.1 bq = some (24, us) ∧ ∀ s, s < n → ∃ q, us[s]? = some (.ref q) ∧ ad 7 s = some q)))
noncomputable def PTk (ad : AD) (h : AH) (t : Nat) (p : TKD) : Prop := (∃ kk qk, ((At ad h 7 t 0 (.ref qk) ∧ ad 2 kk = some qk) ∧ (At ad h 87 0 t (.int (nI kk)) ∧ kk < 24)) ∧ PKb ad h kk p.1.1 p.1.2) ∧ (At ad h 7 t 2 (.int p.2) ∧ At ad h 89 0 t (.int p.2))
noncomputable def BdH (ad : AD) (h : AH) (n T : Nat) (tk : Nat → TKD) (d : Nat → TPD) : Prop := (((n ≤ 6 ∧ T ≤ 6) ∧ (LsP ad h n ∧ LsE ad h 10 4 T)) ∧ ((At ad h 11 0 54 (.int (nI n)) ∧ At ad h 11 0 11 (.int (nI T))) ∧ ∃ qp, At ad h 10 0 12 (.ref qp) ∧ ad 8 0 = some qp)) ∧ ((∀ t, t < n → PTk ad h t (tk t)) ∧ ∀ t, t < T → PTp ad h t (d t))
/-- FROM BELOW -/
noncomputable def bT (d : Nat → TPD) (p : TKD) : Nat → Nat
  | 0 => 1000000
  | i + 1 => bif tkB (d i) p.2 (Int32.ofInt 12) then (if miT p.1.1 p.1.2 (d i) < bT d p i then miT p.1.1 p.1.2 (d i) else bT d p i) else bT d p i
noncomputable def bF (d : Nat → TPD) (s : Int32) (f : Nat) : Nat → Nat
  | 0 => f
  | i + 1 => bif tkB (d i) s (Int32.ofInt 12) then (if miT 50 50 (d i) < bF d s f i then miT 50 50 (d i) else bF d s f i) else bF d s f i
noncomputable def sS (d : Nat → TPD) (tk : Nat → TKD) (T : Nat) : Nat → Nat
  | 0 => 0
  | t + 1 => sS d tk T t + bT d (tk t) T
noncomputable def kS (tk : Nat → TKD) : Nat → Nat
  | 0 => 1000000
  | t + 1 => if bY (tk t) < kS tk t then bY (tk t) else kS tk t
noncomputable def fbS (d : Nat → TPD) (tk : Nat → TKD) (T : Nat) : Nat → Nat
  | 0 => 1000000
  | t + 1 => bF d (tk t).2 (fbS d tk T t) T
noncomputable def bR (d : Nat → TPD) (tk : Nat → TKD) (T : Nat) : Nat → Nat → Int32
  | 0, t => nI (sS d tk T t + kS tk t + fbS d tk T t)
  | r + 1, t => if bT d (tk t) T = 1000000 then Int32.ofInt (-3) else bR d tk T r (t + 1)
section
variable {σ : Nat → Nat} {ad : AD} {h : AH} {np n T ox m t i kk x y : Nat} {ex ho : Nat → Nat → Prop} {Q : Option Value → AH → Prop} {s hr : Int32} {d : Nat → TPD} {tk : Nat → TKD} {p : TKD} {tl : List (Nat × AI)} {L : LV} {S : List Value} {M pc pc1 pc2 pc3 pc4 j : Nat} {c c1 c2 c3 c4 : Int}
theorem mA_c (a b : Nat) : mA a b = mA b a := by
  unfold mA
  omega
theorem bT_le : ∀ i, bT d p i ≤ 1000000 := by
  intro i
  induction i with
  | zero => exact Nat.le_refl _
  | succ i ih =>
    rw [bT]
    cases tkB (d i) p.2 (Int32.ofInt 12)
    · rw [cond_false]; exact ih
    · rw [cond_true]
      split <;> omega
theorem bF_le {f : Nat} (hf : f ≤ 1000000) : ∀ i, bF d s f i ≤ 1000000 := by
  intro i
  induction i with
  | zero => exact hf
  | succ i ih =>
    rw [bF]
    cases tkB (d i) s (Int32.ofInt 12)
    · rw [cond_false]; exact ih
    · rw [cond_true]
      split <;> omega
theorem sS_le : ∀ t, sS d tk T t ≤ t * 1000000 := by
  intro t
  induction t with
  | zero => exact Nat.le_refl _
  | succ t ih =>
    rw [sS]
    have := bT_le (d := d) (p := tk t) T
    omega
theorem kS_le : ∀ t, kS tk t ≤ 1000000 := by
  intro t
  induction t with
  | zero => exact Nat.le_refl _
  | succ t ih =>
    rw [kS]
    split <;> omega
theorem fbS_le : ∀ t, fbS d tk T t ≤ 1000000 := by
  intro t
  induction t with
  | zero => exact Nat.le_refl _
  | succ t ih =>
    rw [fbS]
    exact bF_le ih T
theorem mn_nI {a b : Nat} (ha : a < 2147483648) (hb : b < 2147483648) : (if nI b < nI a then nI b else nI a) = nI (if b < a then b else a) := by
  by_cases e : b < a
  · rw [if_pos e, if_pos ((tx_lt hb ha).mpr e)]
  · rw [if_neg e, if_neg (fun f => e ((tx_lt hb ha).mp f))]
theorem X_mayGo {q q4 : Nat} {pp : TPD} (hT : TS ad h np ex ho) (hq : ad 7 t = some q) (hp : PTk ad h t p) (hq4 : ad 4 i = some q4) (hpp : PTp ad h i pp) (hQ : Q (some (.int (bif tkB pp p.2 (Int32.ofInt 12) then 1 else 0))) h) : Rt σ 129 (codeOf 129) (am_args 0 [.ref q, .ref q4]) [] h Q := by
  obtain ⟨⟨-, -, f69, f69'⟩, -⟩ := bd_f
  obtain ⟨⟨-, -, c7m, c7, -⟩, -⟩ := bd_c
  obtain ⟨⟨-, -, s79⟩, -⟩ := fi_sp
  obtain ⟨⟨-, m111, -⟩, -⟩ := fi_ml
  obtain ⟨⟨⟨⟨-, c4'⟩, -⟩, -⟩, -⟩ := wg_c
  obtain ⟨v4, xv4, -⟩ := at_kind hT.1 (by omega) (by omega) hpp.1.1.1.1 hq4
  rw [c4'] at xv4
  rw [code_129]
  refine rl_load (v := .ref q4) rfl rfl (rl_load rfl rfl (ra_get hT.1 (by omega) (by omega) hq (by rw [f69']; exact hp.2.1) (by rw [c7]; exact f69) (rl_const (rl_callv (as := [.int p.2, .int (Int32.ofInt 12)]) (r := []) s79 rfl rfl xv4 (by show 0 ≤ 8; omega) (three_ok m111) (X_takes hT hq4 hpp (rl_ret4 ?_ hQ))))))
  cases tkB pp p.2 (Int32.ofInt 12)
  · exact Or.inl rfl
  · exact Or.inr rfl
theorem X_fromY {q : Nat} (hT : TS ad h np ex ho) (hq : ad 7 t = some q) (hp : PTk ad h t p) (hQ : Q (some (.int (nI (bY p)))) h) : Rt σ 130 (codeOf 130) (am_args 0 [.ref q]) [] h Q := by
  obtain ⟨⟨-, ⟨f67, f67'⟩, -⟩, -⟩ := bd_f
  obtain ⟨⟨-, -, c7m, c7, -⟩, -⟩ := bd_c
  obtain ⟨f15, f15'⟩ := fi_f.1.1.2
  obtain ⟨f16, f16'⟩ := fi_f.1.2.1
  obtain ⟨-, -, -, -, c2', -⟩ := fi_c
  obtain ⟨-, ⟨s80, -⟩, -⟩ := fi_sp
  obtain ⟨⟨-, -, m110⟩, -⟩ := fi_ml
  obtain ⟨⟨kk, qk, ⟨⟨g1, g2⟩, -⟩, ⟨⟨k1, -⟩, hx⟩, ⟨k2, -⟩, hy⟩, -⟩ := hp
  have mok : am_ok [.int (nI p.1.1), .int (nI p.1.2), .int (nI 50), .int (nI 50)] 110 = true := by
    unfold am_ok
    rw [decide_eq_true (show ([.int (nI p.1.1), .int (nI p.1.2), .int (nI 50), .int (nI 50)] : List Value).length ≤ mL 110 from m110)]
    rfl
  have l1 := mA_lt hx (show 50 < 100 by omega)
  have l2 := mA_lt hy (show 50 < 100 by omega)
  rw [code_130]
  refine rl_load rfl rfl (ra_get hT.1 (by omega) (by omega) hq (by rw [f67']; exact g1) (by rw [c7]; exact f67) (ra_get hT.1 (by omega) (by omega) g2 (by rw [f15']; exact k1) (by rw [c2']; exact f15) (rl_load rfl rfl (ra_get hT.1 (by omega) (by omega) hq (by rw [f67']; exact g1) (by rw [c7]; exact f67) (ra_get hT.1 (by omega) (by omega) g2 (by rw [f16']; exact k2) (by rw [c2']; exact f16) (rl_const (rl_const (rl_calls (as := [.int (nI p.1.1), .int (nI p.1.2), .int (nI 50), .int (nI 50)]) (r := []) s80 rfl rfl (by show 0 ≤ 8; omega) mok ?_))))))))
  rw [code_110]
  refine rl_load rfl rfl (rl_load rfl rfl (rl_bin rfl (rl_abs (by show 0 ≤ 8; omega) (rl_load rfl rfl (rl_load rfl rfl (rl_bin rfl (rl_abs (by show 1 ≤ 8; omega) (rl_bin (z := nI (bY p)) ?_ (rl_ret1 (rl_ret1 hQ))))))))))
  show some _ = some _
  rw [ab_nI hx (by omega), ab_nI hy (by omega), nI_plus (by omega)]
  rfl
theorem M_fromY (hT : TS ad h np ex ho) (hm : ad 11 0 = some m) (ht : t < 6) (hp : PTk ad h t p) (hQ : Q (some (.int (nI (bY p)))) h) : Rt σ 256 (codeOf 256) (am_args 0 [.ref m, .int (nI t)]) [] h Q := by
  obtain ⟨-, -, -, f125, f125'⟩ := bd_f
  obtain ⟨-, ⟨⟨t87, k87⟩, -⟩, -⟩ := bd_c
  obtain ⟨-, ⟨⟨f86, f86'⟩, f87, f87'⟩, -⟩ := fi_g
  obtain ⟨-, ⟨⟨t49, k49⟩, t50, k50⟩, -⟩ := fi_c
  obtain ⟨-, -, -, s169⟩ := fi_sp
  obtain ⟨-, -, m239⟩ := fi_ml
  obtain ⟨⟨kk, qk, ⟨-, g3, g4⟩, ⟨⟨-, x2⟩, x3⟩, ⟨-, y2⟩, y3⟩, -⟩ := hp
  have mok : am_ok [.int (nI 50), .int (nI 50), .int (nI p.1.1), .int (nI p.1.2)] 239 = true := by
    unfold am_ok
    rw [decide_eq_true (show ([.int (nI 50), .int (nI 50), .int (nI p.1.1), .int (nI p.1.2)] : List Value).length ≤ mL 239 from m239)]
    rfl
  rw [code_256]
  exact rl_const (rl_const (rl_load rfl rfl (ra_row hT hm (by rw [f86']; exact t49) f86 fun q49 hq49 => rl_load rfl rfl (ra_row hT hm (by rw [f125']; exact t87) f125 fun q87 hq87 => rl_load rfl rfl (ra_ald hT.1 (by omega) (by omega) hq87 g3 (by rw [k87]; rfl) (by omega) (ra_ald hT.1 (by omega) (by omega) hq49 x2 (by rw [k49]; rfl) (by omega) (rl_load rfl rfl (ra_row hT hm (by rw [f87']; exact t50) f87 fun q50 hq50 => rl_load rfl rfl (ra_row hT hm (by rw [f125']; exact t87) f125 fun q87' hq87' => rl_load rfl rfl (ra_ald hT.1 (by omega) (by omega) hq87' g3 (by rw [k87]; rfl) (by omega) (ra_ald hT.1 (by omega) (by omega) hq50 y2 (by rw [k50]; rfl) (by omega) (rl_calls (as := [.int (nI 50), .int (nI 50), .int (nI p.1.1), .int (nI p.1.2)]) (r := []) s169 rfl rfl (by show 0 ≤ 8; omega) mok (M_apart (by omega) (by omega) x3 y3 (rl_ret1 hQ))))))))))))))
end
end
