/-! ===== the law, where two calls are taken by hand (printed by wip/e2/prt.py) ===== -/
theorem law_h3 : (jmp 18 (codeOf lawM)).drop 6 = [(27, (1, 0, 2)), (28, (1, 3, 0)), (29, (10, 0, 0)), (30, (0, 0, 63)), (32, (4, 5, 0)), (33, (22, 9, 0))] ++ (jmp 18 (codeOf lawM)).drop 12 := by decide +kernel
noncomputable def swL : Nat := 9
noncomputable def swD : Nat := 2096
noncomputable def swTs : List Nat := [256, 279, 328, 381, 430, 463, 486, 519, 594, 627, 670, 703, 726, 749, 782, 815, 868, 891, 924, 967, 1030, 1043, 1066, 1099, 1122, 1175, 1198, 1231, 1264, 1317, 1360, 1403, 1446, 1489, 1512, 1555, 1588, 1611, 1654, 1667, 1690, 1713, 1756, 1789, 1802, 1845, 1868, 1921, 1964, 2027, 2060, 2083]
theorem law_sw : swt[swL]? = some (0, 51, swD, swTs) := by decide +kernel
theorem law_9 : jump lawM 627 = [(627, (1, 1, 2)), (628, (1, 0, 2)), (629, (1, 3, 0)), (630, (0, 0, 1)), (631, (4, 0, 0)), (632, (10, 0, 0)), (633, (1, 0, 2)), (634, (1, 3, 0)), (635, (0, 0, 2)), (636, (4, 0, 0)), (637, (10, 0, 0)), (638, (1, 0, 2)), (639, (1, 3, 0)), (640, (0, 0, 3)), (641, (4, 0, 0)), (642, (10, 0, 0)), (643, (12, 213, 0)), (646, (18, 1, 0)), (647, (1, 2, 2)), (648, (1, 0, 2)), (649, (1, 3, 0)), (650, (0, 0, 1)), (651, (4, 0, 0)), (652, (10, 0, 0)), (653, (1, 0, 2)), (654, (1, 3, 0)), (655, (0, 0, 2)), (656, (4, 0, 0)), (657, (10, 0, 0)), (658, (1, 0, 2)), (659, (1, 3, 0)), (660, (0, 0, 3)), (661, (4, 0, 0)), (662, (10, 0, 0)), (663, (12, 214, 0)), (666, (18, 1, 0)), (667, (7, 0, 2096))] ++ jump lawM 670 := by rw [jump_jmp, jump_jmp]; decide +kernel
theorem law_t9 : swTs[9]? = some 627 := by decide +kernel
theorem law_x9 : spec 213 = (1, 3, [(10, 33)]) := by decide +kernel
theorem law_m9 : spec 214 = (1, 3, [(11, 179)]) := by decide +kernel
theorem law_s213 : spec 213 = (1, 3, [(10, 33)]) := by decide +kernel
theorem law_s214 : spec 214 = (1, 3, [(11, 179)]) := by decide +kernel
theorem law_10 : jump lawM 670 = [(670, (1, 1, 2)), (671, (1, 0, 2)), (672, (1, 3, 0)), (673, (0, 0, 1)), (674, (4, 0, 0)), (675, (10, 0, 0)), (676, (1, 0, 2)), (677, (1, 3, 0)), (678, (0, 0, 2)), (679, (4, 0, 0)), (680, (10, 0, 0)), (681, (12, 215, 0)), (684, (18, 1, 0)), (685, (1, 2, 2)), (686, (1, 0, 2)), (687, (1, 3, 0)), (688, (0, 0, 1)), (689, (4, 0, 0)), (690, (10, 0, 0)), (691, (1, 0, 2)), (692, (1, 3, 0)), (693, (0, 0, 2)), (694, (4, 0, 0)), (695, (10, 0, 0)), (696, (12, 216, 0)), (699, (18, 1, 0)), (700, (7, 0, 2096))] ++ jump lawM 703 := by rw [jump_jmp, jump_jmp]; decide +kernel
theorem law_t10 : swTs[10]? = some 670 := by decide +kernel
theorem law_x10 : spec 215 = (1, 2, [(10, 35)]) := by decide +kernel
theorem law_m10 : spec 216 = (1, 2, [(11, 189)]) := by decide +kernel
theorem law_s215 : spec 215 = (1, 2, [(10, 35)]) := by decide +kernel
theorem law_s216 : spec 216 = (1, 2, [(11, 189)]) := by decide +kernel
theorem law_11 : jump lawM 703 = [(703, (1, 1, 2)), (704, (1, 0, 2)), (705, (1, 3, 0)), (706, (0, 0, 1)), (707, (4, 0, 0)), (708, (10, 0, 0)), (709, (12, 217, 0)), (712, (18, 1, 0)), (713, (1, 2, 2)), (714, (1, 0, 2)), (715, (1, 3, 0)), (716, (0, 0, 1)), (717, (4, 0, 0)), (718, (10, 0, 0)), (719, (12, 218, 0)), (722, (18, 1, 0)), (723, (7, 0, 2096))] ++ jump lawM 726 := by rw [jump_jmp, jump_jmp]; decide +kernel
theorem law_t11 : swTs[11]? = some 703 := by decide +kernel
theorem law_x11 : spec 217 = (1, 1, [(10, 49)]) := by decide +kernel
theorem law_m11 : spec 218 = (1, 1, [(11, 191)]) := by decide +kernel
theorem law_s217 : spec 217 = (1, 1, [(10, 49)]) := by decide +kernel
theorem law_s218 : spec 218 = (1, 1, [(11, 191)]) := by decide +kernel
noncomputable def enL : Nat := 2096
theorem law_fin : jump lawM enL = [(2096, (3, 3, 7)), (2099, (7, 0, 18))] ++ (jump lawM enL).drop 2 := by rw [jump_jmp]; decide +kernel
