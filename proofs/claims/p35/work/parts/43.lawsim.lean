/-! simulation of the law's body (printed by a program) -/
theorem w_214 : Cond.methodLink "QuasigroveLaw" 39 yX11_grid ∈ g_GW := g_mem (i := 214) (by decide +kernel) rfl
theorem w_322 : Cond.methodLink "QuasigroveLaw" 43 yX11_linear ∈ g_GW := g_mem (i := 322) (by decide +kernel) rfl
theorem w_344 : Cond.methodLink "QuasigroveLaw" 46 yX11_conjugate ∈ g_GW := g_mem (i := 344) (by decide +kernel) rfl
theorem w_375 : Cond.methodLink "QuasigroveLaw" 52 yX11_cell ∈ g_GW := g_mem (i := 375) (by decide +kernel) rfl
theorem w_384 : Cond.methodLink "QuasigroveLaw" 63 yX11_of ∈ g_GW := g_mem (i := 384) (by decide +kernel) rfl
theorem w_401 : Cond.methodLink "QuasigroveLaw" 66 yX11_distance ∈ g_GW := g_mem (i := 401) (by decide +kernel) rfl
theorem w_405 : Cond.methodLink "QuasigroveLaw" 55 yX11_can ∈ g_GW := g_mem (i := 405) (by decide +kernel) rfl
theorem w_410 : Cond.methodLink "QuasigroveLaw" 61 yX11_forced ∈ g_GW := g_mem (i := 410) (by decide +kernel) rfl
theorem w_445 : Cond.methodLink "QuasigroveLaw" 69 yX11_logic ∈ g_GW := g_mem (i := 445) (by decide +kernel) rfl
theorem w_461 : Cond.methodLink "QuasigroveLaw" 35 yL_up ∈ g_GW := g_mem (i := 461) (by decide +kernel) rfl
theorem w_464 : Cond.methodLink "QuasigroveLaw" 31 yL_cell ∈ g_GW := g_mem (i := 464) (by decide +kernel) rfl
theorem w_465 : Cond.static yL_cell ∈ g_GW := g_mem (i := 465) (by decide +kernel) rfl
theorem w_467 : Cond.methodLink "QuasigroveLaw" 49 yL_act ∈ g_GW := g_mem (i := 467) (by decide +kernel) rfl
theorem w_511 : Cond.methodLink "QuasigroveLaw" 58 yL_forced ∈ g_GW := g_mem (i := 511) (by decide +kernel) rfl
def tb_lawb0 : List (Nat × Instr × Nat) := [(0, .new 8, 3), (3, .dup, 1), (4, .invokespecial 30, 3), (7, .astore_n 1, 1), (8, .bipush 25, 2), (10, .newarray .int, 2), (12, .astore_n 2, 1), (13, .bipush 25, 2), (15, .newarray .int, 2), (17, .astore_n 3, 1), (18, .bipush 25, 2), (20, .newarray .int, 2), (22, .astore 4, 2), (24, .aload_n 0, 1), (25, .iconst 0, 1), (26, .invokestatic 31, 3), (29, .istore 5, 2), (31, .iconst 2, 1), (32, .iload 5, 2), (34, .iconst 4, 1), (35, .invokestatic 35, 3), (38, .iadd, 1), (39, .istore 6, 2), (41, .iload 5, 2), (43, .bipush 16, 2), (45, .idiv, 1), (46, .iconst 2, 1), (47, .invokestatic 35, 3), (50, .ifCond .ne 7, 3), (53, .iconst 1, 1), (54, .goto 4, 3), (57, .iconst 0, 1), (58, .istore 7, 2), (60, .iload 7, 2), (62, .ifCond .eq 12, 3), (65, .aload_n 1, 1), (66, .iload 6, 2), (68, .invokevirtual 39, 3), (71, .goto 20, 3), (74, .aload_n 1, 1)]
theorem dt_lawb0 : decAll code tb_lawb0 := by unfold decAll tb_lawb0; decide +kernel
def tb_lawb1 : List (Nat × Instr × Nat) := [(75, .iload 6, 2), (77, .iconst 1, 1), (78, .iconst 1, 1), (79, .iload 5, 2), (81, .bipush 32, 2), (83, .idiv, 1), (84, .iconst 5, 1), (85, .invokestatic 35, 3), (88, .invokevirtual 43, 3), (91, .ifCond .ne 17, 3), (94, .aload_n 1, 1), (95, .iconst 0, 1), (96, .iconst 0, 1), (97, .invokevirtual 46, 3), (100, .iconst 1, 1), (101, .if_icmp .ne 7, 3), (104, .iconst 1, 1), (105, .goto 4, 3), (108, .iconst 0, 1), (109, .istore 8, 2), (111, .iconst 0, 1), (112, .istore 9, 2), (114, .iload 9, 2), (116, .iload 6, 2), (118, .iload 6, 2), (120, .imul, 1), (121, .if_icmp .ge 54, 3), (124, .aload_n 2, 1), (125, .iload 9, 2), (127, .iload 7, 2), (129, .ifCond .eq 7, 3), (132, .iconst (-1), 1), (133, .goto 27, 3), (136, .iload 9, 2), (138, .iload 6, 2), (140, .idiv, 1), (141, .iload 9, 2), (143, .iload 6, 2), (145, .irem, 1), (146, .iadd, 1)]
theorem dt_lawb1 : decAll code tb_lawb1 := by unfold decAll tb_lawb1; decide +kernel
def tb_lawb2 : List (Nat × Instr × Nat) := [(147, .iload 5, 2), (149, .bipush 32, 2), (151, .idiv, 1), (152, .iconst 5, 1), (153, .invokestatic 35, 3), (156, .iadd, 1), (157, .iload 6, 2), (159, .irem, 1), (160, .iastore, 1), (161, .aload_n 3, 1), (162, .iload 9, 2), (164, .aload_n 2, 1), (165, .iload 9, 2), (167, .iaload, 1), (168, .iastore, 1), (169, .iinc 9 1, 3), (172, .goto (-58), 3), (175, .iconst 1, 1), (176, .istore 9, 2), (178, .iload 9, 2), (180, .bipush 45, 2), (182, .if_icmp .ge 889, 3), (185, .iload 8, 2), (187, .ifCond .eq 884, 3), (190, .aload_n 0, 1), (191, .iload 9, 2), (193, .invokestatic 31, 3), (196, .istore 10, 2), (198, .iload 10, 2), (200, .bipush 16, 2), (202, .idiv, 1), (203, .iload 6, 2), (205, .invokestatic 35, 3), (208, .istore 11, 2), (210, .iload 10, 2), (212, .bipush 64, 2), (214, .idiv, 1), (215, .iload 6, 2), (217, .invokestatic 35, 3), (220, .istore 12, 2)]
theorem dt_lawb2 : decAll code tb_lawb2 := by unfold decAll tb_lawb2; decide +kernel
def tb_lawb3 : List (Nat × Instr × Nat) := [(222, .iload 6, 2), (224, .iload 11, 2), (226, .imul, 1), (227, .iload 12, 2), (229, .iadd, 1), (230, .istore 13, 2), (232, .iload 10, 2), (234, .iconst 4, 1), (235, .invokestatic 35, 3), (238, .iconst 3, 1), (239, .if_icmp .ge 181, 3), (242, .iload 10, 2), (244, .bipush 16, 2), (246, .invokestatic 35, 3), (249, .iconst 4, 1), (250, .if_icmp .ge 7, 3), (253, .iconst (-1), 1), (254, .goto 14, 3), (257, .iload 10, 2), (259, .sipush 256, 3), (262, .idiv, 1), (263, .iload 6, 2), (265, .invokestatic 35, 3), (268, .istore 14, 2), (270, .iconst 0, 1), (271, .istore 15, 2), (273, .iconst 0, 1), (274, .istore 16, 2), (276, .iload 16, 2), (278, .iload 6, 2), (280, .if_icmp .ge 65, 3), (283, .iload 15, 2), (285, .ifCond .ne 47, 3), (288, .iload 16, 2), (290, .iload 12, 2), (292, .if_icmp .eq 18, 3), (295, .aload_n 2, 1), (296, .iload 6, 2), (298, .iload 11, 2), (300, .imul, 1)]
theorem dt_lawb3 : decAll code tb_lawb3 := by unfold decAll tb_lawb3; decide +kernel
def tb_lawb4 : List (Nat × Instr × Nat) := [(301, .iload 16, 2), (303, .iadd, 1), (304, .iaload, 1), (305, .iload 14, 2), (307, .if_icmp .eq 25, 3), (310, .iload 16, 2), (312, .iload 11, 2), (314, .if_icmp .eq 22, 3), (317, .aload_n 2, 1), (318, .iload 6, 2), (320, .iload 16, 2), (322, .imul, 1), (323, .iload 12, 2), (325, .iadd, 1), (326, .iaload, 1), (327, .iload 14, 2), (329, .if_icmp .ne 7, 3), (332, .iconst 1, 1), (333, .goto 4, 3), (336, .iconst 0, 1), (337, .istore 15, 2), (339, .iinc 16 1, 3), (342, .goto (-66), 3), (345, .iload 14, 2), (347, .ifCond .lt 8, 3), (350, .iload 15, 2), (352, .ifCond .ne 7, 3), (355, .iconst 1, 1), (356, .goto 4, 3), (359, .iconst 0, 1), (360, .istore 16, 2), (362, .aload_n 1, 1), (363, .iconst 0, 1), (364, .iconst 0, 1), (365, .iload 11, 2), (367, .iload 12, 2), (369, .iload 14, 2), (371, .invokestatic 49, 3), (374, .iload 16, 2), (376, .ifCond .eq 10, 3)]
theorem dt_lawb4 : decAll code tb_lawb4 := by unfold decAll tb_lawb4; decide +kernel
def tb_lawb5 : List (Nat × Instr × Nat) := [(379, .aload_n 2, 1), (380, .iload 13, 2), (382, .iaload, 1), (383, .goto 6, 3), (386, .sipush (-1003), 3), (389, .if_icmp .ne 7, 3), (392, .iconst 1, 1), (393, .goto 4, 3), (396, .iconst 0, 1), (397, .istore 8, 2), (399, .aload_n 2, 1), (400, .iload 13, 2), (402, .iload 16, 2), (404, .ifCond .eq 8, 3), (407, .iload 14, 2), (409, .goto 7, 3), (412, .aload_n 2, 1), (413, .iload 13, 2), (415, .iaload, 1), (416, .iastore, 1), (417, .goto 330, 3), (420, .iload 10, 2), (422, .sipush 256, 3), (425, .idiv, 1), (426, .iload 6, 2), (428, .invokestatic 35, 3), (431, .istore 14, 2), (433, .iconst 1, 1), (434, .istore 15, 2), (436, .iconst 0, 1), (437, .istore 16, 2), (439, .iload 16, 2), (441, .iload 6, 2), (443, .if_icmp .ge 47, 3), (446, .iload 15, 2), (448, .ifCond .eq 33, 3), (451, .aload_n 2, 1), (452, .iload 6, 2), (454, .iload 11, 2), (456, .imul, 1)]
theorem dt_lawb5 : decAll code tb_lawb5 := by unfold decAll tb_lawb5; decide +kernel
def tb_lawb6 : List (Nat × Instr × Nat) := [(457, .iload 16, 2), (459, .iadd, 1), (460, .iaload, 1), (461, .ifCond .lt 20, 3), (464, .aload_n 2, 1), (465, .iload 6, 2), (467, .iload 14, 2), (469, .imul, 1), (470, .iload 16, 2), (472, .iadd, 1), (473, .iaload, 1), (474, .ifCond .lt 7, 3), (477, .iconst 1, 1), (478, .goto 4, 3), (481, .iconst 0, 1), (482, .istore 15, 2), (484, .iinc 16 1, 3), (487, .goto (-48), 3), (490, .iconst 0, 1), (491, .istore 16, 2), (493, .iload 12, 2), (495, .istore 17, 2), (497, .iconst 0, 1), (498, .istore 18, 2), (500, .iload 11, 2), (502, .iload 14, 2), (504, .if_icmp .eq 89, 3), (507, .iload 15, 2), (509, .ifCond .eq 84, 3), (512, .iload 18, 2), (514, .iload 17, 2), (516, .ishr, 1), (517, .iconst 1, 1), (518, .iand, 1), (519, .ifCond .ne 74, 3), (522, .iload 18, 2), (524, .iconst 1, 1), (525, .iload 17, 2), (527, .ishl, 1), (528, .ior, 1)]
theorem dt_lawb6 : decAll code tb_lawb6 := by unfold decAll tb_lawb6; decide +kernel
def tb_lawb7 : List (Nat × Instr × Nat) := [(529, .istore 18, 2), (531, .iinc 16 1, 3), (534, .iload 17, 2), (536, .istore 19, 2), (538, .iconst 0, 1), (539, .istore 20, 2), (541, .iload 20, 2), (543, .iload 6, 2), (545, .if_icmp .ge 41, 3), (548, .aload_n 2, 1), (549, .iload 6, 2), (551, .iload 11, 2), (553, .imul, 1), (554, .iload 20, 2), (556, .iadd, 1), (557, .iaload, 1), (558, .aload_n 2, 1), (559, .iload 6, 2), (561, .iload 14, 2), (563, .imul, 1), (564, .iload 17, 2), (566, .iadd, 1), (567, .iaload, 1), (568, .if_icmp .ne 8, 3), (571, .iload 20, 2), (573, .goto 5, 3), (576, .iload 19, 2), (578, .istore 19, 2), (580, .iinc 20 1, 3), (583, .goto (-42), 3), (586, .iload 19, 2), (588, .istore 17, 2), (590, .goto (-90), 3), (593, .aload_n 1, 1), (594, .iconst 1, 1), (595, .iconst 0, 1), (596, .iload 11, 2), (598, .iload 14, 2), (600, .iload 12, 2), (602, .invokestatic 49, 3)]
theorem dt_lawb7 : decAll code tb_lawb7 := by unfold decAll tb_lawb7; decide +kernel
def tb_lawb8 : List (Nat × Instr × Nat) := [(605, .iload 11, 2), (607, .iload 14, 2), (609, .if_icmp .ne 9, 3), (612, .sipush (-1002), 3), (615, .goto 16, 3), (618, .iload 15, 2), (620, .ifCond .eq 8, 3), (623, .iload 16, 2), (625, .goto 6, 3), (628, .sipush (-1003), 3), (631, .if_icmp .ne 7, 3), (634, .iconst 1, 1), (635, .goto 4, 3), (638, .iconst 0, 1), (639, .istore 8, 2), (641, .iconst 0, 1), (642, .istore 19, 2), (644, .iload 19, 2), (646, .iload 6, 2), (648, .if_icmp .ge 99, 3), (651, .aload_n 2, 1), (652, .iload 6, 2), (654, .iload 11, 2), (656, .imul, 1), (657, .iload 19, 2), (659, .iadd, 1), (660, .iaload, 1), (661, .istore 20, 2), (663, .iload 18, 2), (665, .iload 19, 2), (667, .ishr, 1), (668, .iconst 1, 1), (669, .iand, 1), (670, .iconst 1, 1), (671, .if_icmp .ne 7, 3), (674, .iconst 1, 1), (675, .goto 4, 3), (678, .iconst 0, 1), (679, .istore 21, 2), (681, .aload_n 2, 1)]
theorem dt_lawb8 : decAll code tb_lawb8 := by unfold decAll tb_lawb8; decide +kernel
def tb_lawb9 : List (Nat × Instr × Nat) := [(682, .iload 6, 2), (684, .iload 11, 2), (686, .imul, 1), (687, .iload 19, 2), (689, .iadd, 1), (690, .iload 21, 2), (692, .ifCond .eq 16, 3), (695, .aload_n 2, 1), (696, .iload 6, 2), (698, .iload 14, 2), (700, .imul, 1), (701, .iload 19, 2), (703, .iadd, 1), (704, .iaload, 1), (705, .goto 5, 3), (708, .iload 20, 2), (710, .iastore, 1), (711, .aload_n 2, 1), (712, .iload 6, 2), (714, .iload 14, 2), (716, .imul, 1), (717, .iload 19, 2), (719, .iadd, 1), (720, .iload 21, 2), (722, .ifCond .eq 8, 3), (725, .iload 20, 2), (727, .goto 13, 3), (730, .aload_n 2, 1), (731, .iload 6, 2), (733, .iload 14, 2), (735, .imul, 1), (736, .iload 19, 2), (738, .iadd, 1), (739, .iaload, 1), (740, .iastore, 1), (741, .iinc 19 1, 3), (744, .goto (-100), 3), (747, .iconst 0, 1), (748, .istore 14, 2), (750, .iconst 0, 1)]
theorem dt_lawb9 : decAll code tb_lawb9 := by unfold decAll tb_lawb9; decide +kernel
def tb_lawb10 : List (Nat × Instr × Nat) := [(751, .istore 15, 2), (753, .iconst 0, 1), (754, .istore 16, 2), (756, .iconst 0, 1), (757, .istore 17, 2), (759, .iload 17, 2), (761, .iload 6, 2), (763, .iload 6, 2), (765, .imul, 1), (766, .if_icmp .ge 166, 3), (769, .iload 14, 2), (771, .aload_n 2, 1), (772, .iload 17, 2), (774, .iaload, 1), (775, .ifCond .ge 7, 3), (778, .iconst 0, 1), (779, .goto 4, 3), (782, .iconst 1, 1), (783, .iadd, 1), (784, .istore 14, 2), (786, .iload 15, 2), (788, .aload_n 2, 1), (789, .iload 17, 2), (791, .iaload, 1), (792, .ifCond .ge 18, 3), (795, .aload_n 2, 1), (796, .iload 6, 2), (798, .iload 17, 2), (800, .invokestatic 26, 3), (803, .ifCond .ne 7, 3), (806, .iconst 1, 1), (807, .goto 4, 3), (810, .iconst 0, 1), (811, .iadd, 1), (812, .istore 15, 2), (814, .iload 16, 2), (816, .aload_n 2, 1), (817, .iload 17, 2), (819, .iaload, 1), (820, .aload_n 3, 1)]
theorem dt_lawb10 : decAll code tb_lawb10 := by unfold decAll tb_lawb10; decide +kernel
def tb_lawb11 : List (Nat × Instr × Nat) := [(821, .iload 17, 2), (823, .iaload, 1), (824, .if_icmp .ne 7, 3), (827, .iconst 0, 1), (828, .goto 4, 3), (831, .iconst 1, 1), (832, .iadd, 1), (833, .istore 16, 2), (835, .aload 4, 2), (837, .iload 17, 2), (839, .aload_n 2, 1), (840, .iload 17, 2), (842, .iaload, 1), (843, .iastore, 1), (844, .iload 8, 2), (846, .ifCond .eq 77, 3), (849, .aload_n 1, 1), (850, .iconst 0, 1), (851, .iload 17, 2), (853, .iload 6, 2), (855, .idiv, 1), (856, .iload 17, 2), (858, .iload 6, 2), (860, .irem, 1), (861, .invokevirtual 52, 3), (864, .aload_n 2, 1), (865, .iload 17, 2), (867, .iaload, 1), (868, .if_icmp .ne 55, 3), (871, .aload_n 1, 1), (872, .iconst 0, 1), (873, .iload 17, 2), (875, .iload 6, 2), (877, .idiv, 1), (878, .iload 17, 2), (880, .iload 6, 2), (882, .irem, 1), (883, .invokevirtual 55, 3), (886, .aload_n 2, 1), (887, .iload 6, 2)]
theorem dt_lawb11 : decAll code tb_lawb11 := by unfold decAll tb_lawb11; decide +kernel
def tb_lawb12 : List (Nat × Instr × Nat) := [(889, .iload 17, 2), (891, .invokestatic 26, 3), (894, .if_icmp .ne 29, 3), (897, .aload_n 1, 1), (898, .iconst 1, 1), (899, .iload 17, 2), (901, .iload 6, 2), (903, .idiv, 1), (904, .iload 17, 2), (906, .iload 6, 2), (908, .irem, 1), (909, .invokevirtual 52, 3), (912, .aload_n 3, 1), (913, .iload 17, 2), (915, .iaload, 1), (916, .if_icmp .ne 7, 3), (919, .iconst 1, 1), (920, .goto 4, 3), (923, .iconst 0, 1), (924, .istore 8, 2), (926, .iinc 17 1, 3), (929, .goto (-170), 3), (932, .iconst 0, 1), (933, .istore 17, 2), (935, .aload 4, 2), (937, .iload 6, 2), (939, .invokestatic 58, 3), (942, .istore 18, 2), (944, .iload 8, 2), (946, .ifCond .eq 61, 3), (949, .aload_n 1, 1), (950, .iconst 0, 1), (951, .invokevirtual 61, 3), (954, .iload 18, 2), (956, .if_icmp .ne 51, 3), (959, .aload_n 1, 1), (960, .iconst 0, 1), (961, .iconst 0, 1), (962, .invokevirtual 63, 3), (965, .iload 6, 2)]
theorem dt_lawb12 : decAll code tb_lawb12 := by unfold decAll tb_lawb12; decide +kernel
def tb_lawb13 : List (Nat × Instr × Nat) := [(967, .if_icmp .ne 40, 3), (970, .aload_n 1, 1), (971, .iconst 0, 1), (972, .iconst 1, 1), (973, .invokevirtual 63, 3), (976, .iload 14, 2), (978, .if_icmp .ne 29, 3), (981, .aload_n 1, 1), (982, .iconst 0, 1), (983, .iconst 2, 1), (984, .invokevirtual 63, 3), (987, .iload 15, 2), (989, .if_icmp .ne 18, 3), (992, .aload_n 1, 1), (993, .iconst 0, 1), (994, .iconst 1, 1), (995, .invokevirtual 66, 3), (998, .iload 16, 2), (1000, .if_icmp .ne 7, 3), (1003, .iconst 1, 1), (1004, .goto 4, 3), (1007, .iconst 0, 1), (1008, .istore 8, 2), (1010, .iload 18, 2), (1012, .ifCond .lt 31, 3), (1015, .aload 4, 2), (1017, .iload 18, 2), (1019, .bipush 10, 2), (1021, .idiv, 1), (1022, .iload 18, 2), (1024, .bipush 10, 2), (1026, .irem, 1), (1027, .iastore, 1), (1028, .iinc 17 1, 3), (1031, .aload 4, 2), (1033, .iload 6, 2), (1035, .invokestatic 58, 3), (1038, .istore 18, 2), (1040, .goto (-30), 3), (1043, .iload 8, 2)]
theorem dt_lawb13 : decAll code tb_lawb13 := by unfold decAll tb_lawb13; decide +kernel
def tb_lawb14 : List (Nat × Instr × Nat) := [(1045, .ifCond .eq 17, 3), (1048, .aload_n 1, 1), (1049, .iconst 0, 1), (1050, .invokevirtual 69, 3), (1053, .iload 17, 2), (1055, .if_icmp .ne 7, 3), (1058, .iconst 1, 1), (1059, .goto 4, 3), (1062, .iconst 0, 1), (1063, .istore 8, 2), (1065, .iinc 9 1, 3), (1068, .goto (-890), 3), (1071, .iload 8, 2), (1073, .ireturn, 1)]
theorem dt_lawb14 : decAll code tb_lawb14 := by unfold decAll tb_lawb14; decide +kernel
set_option maxRecDepth 100000 in
set_option maxHeartbeats 8000000 in
theorem s_L_law_L114 {θ : Th} {ad : Nat → Nat} {cs : Nat × Nat} {b N : Nat} {xs : Nat → Int32} (htr : θ.2.1.stackTraces = false) (X : Cx θ g_strs code 22 "QuasigroveLaw" 12 448) (hS9 : Sx θ b N xs) (hRc : Rc θ cs)
    {v5 : Int32} {v6 : Int32} {v7 : Int32} {v8 : Int32} {kx175 : St → Option Int32} (hkx175 : ∀ (σ : St), kx175 σ = some 1 → G θ cs (g_SH, ad) σ 175 [some (.ref b), some (.ref (ad 0)), some (.ref (ad 82)), some (.ref (ad 83)), some (.ref (ad 84)), none, some (.int v6), none, some (.int v8), none, none, none, none, none, none, none, none, none, none, none, none, none] []) :
    ∀ (n : Nat) (v9 : Int32) (σ : St), f_L_law_L114 v5 v6 v7 v8 kx175 n v9 σ = some 1 → G θ cs (g_SH, ad) σ 114 [some (.ref b), some (.ref (ad 0)), some (.ref (ad 82)), some (.ref (ad 83)), some (.ref (ad 84)), some (.int v5), some (.int v6), some (.int v7), some (.int v8), some (.int v9), none, none, none, none, none, none, none, none, none, none, none, none] [] := by
  intro n
  induction n with
  | zero => intro v9 σ h; rw [f_L_law_L114] at h; cases h
  | succ n ih =>
    intro v9 σ h
    rw [f_L_law_L114] at h
    refine G_iload (pc := 114) X (dg dt_lawb1 22 rfl) rfl ?_
    refine G_iload (pc := 116) X (dg dt_lawb1 23 rfl) rfl ?_
    refine G_iload (pc := 118) X (dg dt_lawb1 24 rfl) rfl ?_
    refine G_imul (pc := 120) X (dg dt_lawb1 25 rfl) ?_
    refine G_icmp_ge (pc := 121) 175 X (dg dt_lawb1 26 rfl) (by decide) h (fun h => ?_) (fun h => ?_)
    · exact G_wk (hkx175 σ h) ⟨rfl, ⟨rfl, ⟨rfl, ⟨rfl, ⟨rfl, ⟨rfl, ⟨rfl, trivial⟩⟩⟩⟩⟩⟩⟩
    · refine G_aload_n (pc := 124) 2 X (dg dt_lawb1 27 rfl) rfl rfl ?_
      refine G_iload (pc := 125) X (dg dt_lawb1 28 rfl) rfl ?_
      refine G_iload (pc := 127) X (dg dt_lawb1 29 rfl) rfl ?_
      refine jn_go (fun j160_16 => ∀ (s_17 : Int32), j160_16 s_17 = some 1 → G θ cs (g_SH, ad) σ 160 [some (.ref b), some (.ref (ad 0)), some (.ref (ad 82)), some (.ref (ad 83)), some (.ref (ad 84)), some (.int v5), some (.int v6), some (.int v7), some (.int v8), some (.int v9), none, none, none, none, none, none, none, none, none, none, none, none] [.int s_17, .int v9, .ref (ad 82)]) h ?_ (fun j160_16 hj160_16 h => ?_)
      · intro s_17 h
        refine G_iast (pc := 160) X (dg dt_lawb2 8 rfl) sh_82 h (fun σ_18 h => ?_)
        refine G_aload_n (pc := 161) 3 X (dg dt_lawb2 9 rfl) rfl rfl ?_
        refine G_iload (pc := 162) X (dg dt_lawb2 10 rfl) rfl ?_
        refine G_aload_n (pc := 164) 2 X (dg dt_lawb2 11 rfl) rfl rfl ?_
        refine G_iload (pc := 165) X (dg dt_lawb2 12 rfl) rfl ?_
        refine G_iald (pc := 167) X (dg dt_lawb2 13 rfl) sh_82 h (fun r_19 h => ?_)
        refine G_iast (pc := 168) X (dg dt_lawb2 14 rfl) sh_83 h (fun σ_20 h => ?_)
        refine G_iinc (pc := 169) (v9 + 1) X (dg dt_lawb2 15 rfl) rfl (Nat.le_of_ble_eq_true rfl) rfl rfl ?_
        refine G_goto (pc := 172) 114 X (dg dt_lawb2 16 rfl) (by decide) ?_
        exact G_wk (ih (v9 + 1) σ_20 h) ⟨rfl, ⟨rfl, ⟨rfl, ⟨rfl, ⟨rfl, ⟨rfl, ⟨rfl, ⟨rfl, ⟨rfl, ⟨rfl, trivial⟩⟩⟩⟩⟩⟩⟩⟩⟩⟩
      refine G_if_eq (pc := 129) 136 X (dg dt_lawb1 30 rfl) (by decide) h (fun h => ?_) (fun h => ?_)
      · refine G_iload (pc := 136) X (dg dt_lawb1 33 rfl) rfl ?_
        refine G_iload (pc := 138) X (dg dt_lawb1 34 rfl) rfl ?_
        refine G_idiv (pc := 140) X (dg dt_lawb1 35 rfl) h (fun q_21 h => ?_)
        refine G_iload (pc := 141) X (dg dt_lawb1 36 rfl) rfl ?_
        refine G_iload (pc := 143) X (dg dt_lawb1 37 rfl) rfl ?_
        refine G_irem (pc := 145) X (dg dt_lawb1 38 rfl) h (fun q_22 h => ?_)
        refine G_iadd (pc := 146) X (dg dt_lawb1 39 rfl) ?_
        refine G_iload (pc := 147) X (dg dt_lawb2 0 rfl) rfl ?_
        refine G_bipush (pc := 149) 32 X (dg dt_lawb2 1 rfl) (by decide) ?_
        refine G_idiv (pc := 151) X (dg dt_lawb2 2 rfl) h (fun q_23 h => ?_)
        refine G_iconst (pc := 152) 5 X (dg dt_lawb2 3 rfl) (by decide) ?_
        obtain ⟨r_25, hc_24, h⟩ := cap_go h
        refine G_callS (pc := 153) (S := [.int (q_21 + q_22), .int v9, .ref (ad 82)]) [.int q_23, .int 5] nosub X (dg dt_lawb2 4 rfl) cb_L_up w_462 w_461 (s_L_up _ ad _ _ _ hc_24) rfl ⟨Nat.le_of_ble_eq_true rfl, Nat.le_of_ble_eq_true rfl⟩  (Nat.le_of_ble_eq_true rfl) hRc ?_
        refine G_iadd (pc := 156) X (dg dt_lawb2 5 rfl) ?_
        refine G_iload (pc := 157) X (dg dt_lawb2 6 rfl) rfl ?_
        refine G_irem (pc := 159) X (dg dt_lawb2 7 rfl) h (fun q_26 h => ?_)
        exact G_wk (hj160_16 q_26 h) ⟨rfl, ⟨rfl, ⟨rfl, ⟨rfl, ⟨rfl, ⟨rfl, ⟨rfl, ⟨rfl, ⟨rfl, ⟨rfl, trivial⟩⟩⟩⟩⟩⟩⟩⟩⟩⟩
      · refine G_iconst (pc := 132) (-1) X (dg dt_lawb1 31 rfl) (by decide) ?_
        refine G_goto (pc := 133) 160 X (dg dt_lawb1 32 rfl) (by decide) ?_
        exact G_wk (hj160_16 (-1) h) ⟨rfl, ⟨rfl, ⟨rfl, ⟨rfl, ⟨rfl, ⟨rfl, ⟨rfl, ⟨rfl, ⟨rfl, ⟨rfl, trivial⟩⟩⟩⟩⟩⟩⟩⟩⟩⟩
set_option maxRecDepth 100000 in
set_option maxHeartbeats 8000000 in
theorem s_L_law_L759 {θ : Th} {ad : Nat → Nat} {cs : Nat × Nat} {b N : Nat} {xs : Nat → Int32} (htr : θ.2.1.stackTraces = false) (X : Cx θ g_strs code 22 "QuasigroveLaw" 12 448) (hS9 : Sx θ b N xs) (hRc : Rc θ cs)
    {v6 : Int32} {v9 : Int32} {kx932 : Int32 → Int32 → Int32 → Int32 → St → Option Int32} (hkx932 : ∀ (v8 : Int32) (v14 : Int32) (v15 : Int32) (v16 : Int32) (σ : St), kx932 v8 v14 v15 v16 σ = some 1 → G θ cs (g_SH, ad) σ 932 [some (.ref b), some (.ref (ad 0)), some (.ref (ad 82)), some (.ref (ad 83)), some (.ref (ad 84)), none, some (.int v6), none, some (.int v8), some (.int v9), none, none, none, none, some (.int v14), some (.int v15), some (.int v16), none, none, none, none, none] []) :
    ∀ (n : Nat) (v8 : Int32) (v14 : Int32) (v15 : Int32) (v16 : Int32) (v17 : Int32) (σ : St), f_L_law_L759 v6 v9 kx932 n v8 v14 v15 v16 v17 σ = some 1 → G θ cs (g_SH, ad) σ 759 [some (.ref b), some (.ref (ad 0)), some (.ref (ad 82)), some (.ref (ad 83)), some (.ref (ad 84)), none, some (.int v6), none, some (.int v8), some (.int v9), none, none, none, none, some (.int v14), some (.int v15), some (.int v16), some (.int v17), none, none, none, none] [] := by
  intro n
  induction n with
  | zero => intro v8 v14 v15 v16 v17 σ h; rw [f_L_law_L759] at h; cases h
  | succ n ih =>
    intro v8 v14 v15 v16 v17 σ h
    rw [f_L_law_L759] at h
    refine G_iload (pc := 759) X (dg dt_lawb10 5 rfl) rfl ?_
    refine G_iload (pc := 761) X (dg dt_lawb10 6 rfl) rfl ?_
    refine G_iload (pc := 763) X (dg dt_lawb10 7 rfl) rfl ?_
    refine G_imul (pc := 765) X (dg dt_lawb10 8 rfl) ?_
    refine G_icmp_ge (pc := 766) 932 X (dg dt_lawb10 9 rfl) (by decide) h (fun h => ?_) (fun h => ?_)
    · exact G_wk (hkx932 v8 v14 v15 v16 σ h) ⟨rfl, ⟨rfl, ⟨rfl, ⟨rfl, ⟨rfl, ⟨rfl, ⟨rfl, ⟨rfl, ⟨rfl, ⟨rfl, ⟨rfl, trivial⟩⟩⟩⟩⟩⟩⟩⟩⟩⟩⟩
    · refine G_iload (pc := 769) X (dg dt_lawb10 10 rfl) rfl ?_
      refine G_aload_n (pc := 771) 2 X (dg dt_lawb10 11 rfl) rfl rfl ?_
      refine G_iload (pc := 772) X (dg dt_lawb10 12 rfl) rfl ?_
      refine G_iald (pc := 774) X (dg dt_lawb10 13 rfl) sh_82 h (fun r_42 h => ?_)
      refine jn_go (fun j783_43 => ∀ (s_44 : Int32), j783_43 s_44 = some 1 → G θ cs (g_SH, ad) σ 783 [some (.ref b), some (.ref (ad 0)), some (.ref (ad 82)), some (.ref (ad 83)), some (.ref (ad 84)), none, some (.int v6), none, some (.int v8), some (.int v9), none, none, none, none, none, some (.int v15), some (.int v16), some (.int v17), none, none, none, none] [.int s_44, .int v14]) h ?_ (fun j783_43 hj783_43 h => ?_)
      · intro s_44 h
        refine G_iadd (pc := 783) X (dg dt_lawb10 18 rfl) ?_
        refine G_istore (pc := 784) X (dg dt_lawb10 19 rfl) (Nat.le_of_ble_eq_true rfl) rfl ?_
        refine G_iload (pc := 786) X (dg dt_lawb10 20 rfl) rfl ?_
        refine G_aload_n (pc := 788) 2 X (dg dt_lawb10 21 rfl) rfl rfl ?_
        refine G_iload (pc := 789) X (dg dt_lawb10 22 rfl) rfl ?_
        refine G_iald (pc := 791) X (dg dt_lawb10 23 rfl) sh_82 h (fun r_45 h => ?_)
        refine jn_go (fun j811_46 => ∀ (s_47 : Int32), j811_46 s_47 = some 1 → G θ cs (g_SH, ad) σ 811 [some (.ref b), some (.ref (ad 0)), some (.ref (ad 82)), some (.ref (ad 83)), some (.ref (ad 84)), none, some (.int v6), none, some (.int v8), some (.int v9), none, none, none, none, some (.int (v14 + s_44)), none, some (.int v16), some (.int v17), none, none, none, none] [.int s_47, .int v15]) h ?_ (fun j811_46 hj811_46 h => ?_)
        · intro s_47 h
          refine G_iadd (pc := 811) X (dg dt_lawb10 33 rfl) ?_
          refine G_istore (pc := 812) X (dg dt_lawb10 34 rfl) (Nat.le_of_ble_eq_true rfl) rfl ?_
          refine G_iload (pc := 814) X (dg dt_lawb10 35 rfl) rfl ?_
          refine G_aload_n (pc := 816) 2 X (dg dt_lawb10 36 rfl) rfl rfl ?_
          refine G_iload (pc := 817) X (dg dt_lawb10 37 rfl) rfl ?_
          refine G_iald (pc := 819) X (dg dt_lawb10 38 rfl) sh_82 h (fun r_48 h => ?_)
          refine G_aload_n (pc := 820) 3 X (dg dt_lawb10 39 rfl) rfl rfl ?_
          refine G_iload (pc := 821) X (dg dt_lawb11 0 rfl) rfl ?_
          refine G_iald (pc := 823) X (dg dt_lawb11 1 rfl) sh_83 h (fun r_49 h => ?_)
          refine jn_go (fun j832_50 => ∀ (s_51 : Int32), j832_50 s_51 = some 1 → G θ cs (g_SH, ad) σ 832 [some (.ref b), some (.ref (ad 0)), some (.ref (ad 82)), some (.ref (ad 83)), some (.ref (ad 84)), none, some (.int v6), none, some (.int v8), some (.int v9), none, none, none, none, some (.int (v14 + s_44)), some (.int (v15 + s_47)), none, some (.int v17), none, none, none, none] [.int s_51, .int v16]) h ?_ (fun j832_50 hj832_50 h => ?_)
          · intro s_51 h
            refine G_iadd (pc := 832) X (dg dt_lawb11 6 rfl) ?_
            refine G_istore (pc := 833) X (dg dt_lawb11 7 rfl) (Nat.le_of_ble_eq_true rfl) rfl ?_
            refine G_aload (pc := 835) X (dg dt_lawb11 8 rfl) rfl ?_
            refine G_iload (pc := 837) X (dg dt_lawb11 9 rfl) rfl ?_
            refine G_aload_n (pc := 839) 2 X (dg dt_lawb11 10 rfl) rfl rfl ?_
            refine G_iload (pc := 840) X (dg dt_lawb11 11 rfl) rfl ?_
            refine G_iald (pc := 842) X (dg dt_lawb11 12 rfl) sh_82 h (fun r_52 h => ?_)
            refine G_iast (pc := 843) X (dg dt_lawb11 13 rfl) sh_84 h (fun σ_53 h => ?_)
            refine G_iload (pc := 844) X (dg dt_lawb11 14 rfl) rfl ?_
            refine jn_go (fun j924_54 => ∀ (s_55 : Int32) (σ_56 : St), j924_54 s_55 σ_56 = some 1 → G θ cs (g_SH, ad) σ_56 924 [some (.ref b), some (.ref (ad 0)), some (.ref (ad 82)), some (.ref (ad 83)), some (.ref (ad 84)), none, some (.int v6), none, none, some (.int v9), none, none, none, none, some (.int (v14 + s_44)), some (.int (v15 + s_47)), some (.int (v16 + s_51)), some (.int v17), none, none, none, none] [.int s_55]) h ?_ (fun j924_54 hj924_54 h => ?_)
            · intro s_55 σ_56 h
              refine G_istore (pc := 924) X (dg dt_lawb12 19 rfl) (Nat.le_of_ble_eq_true rfl) rfl ?_
              refine G_iinc (pc := 926) (v17 + 1) X (dg dt_lawb12 20 rfl) rfl (Nat.le_of_ble_eq_true rfl) rfl rfl ?_
              refine G_goto (pc := 929) 759 X (dg dt_lawb12 21 rfl) (by decide) ?_
              exact G_wk (ih s_55 (v14 + s_44) (v15 + s_47) (v16 + s_51) (v17 + 1) σ_56 h) ⟨rfl, ⟨rfl, ⟨rfl, ⟨rfl, ⟨rfl, ⟨rfl, ⟨rfl, ⟨rfl, ⟨rfl, ⟨rfl, ⟨rfl, ⟨rfl, trivial⟩⟩⟩⟩⟩⟩⟩⟩⟩⟩⟩⟩
            refine jn_go (fun j923_57 => ∀ (σ_58 : St), j923_57 σ_58 = some 1 → G θ cs (g_SH, ad) σ_58 923 [some (.ref b), some (.ref (ad 0)), some (.ref (ad 82)), some (.ref (ad 83)), some (.ref (ad 84)), none, some (.int v6), none, none, some (.int v9), none, none, none, none, some (.int (v14 + s_44)), some (.int (v15 + s_47)), some (.int (v16 + s_51)), some (.int v17), none, none, none, none] []) h ?_ (fun j923_57 hj923_57 h => ?_)
            · intro σ_58 h
              refine G_iconst (pc := 923) 0 X (dg dt_lawb12 18 rfl) (by decide) ?_
              exact G_wk (hj924_54 0 σ_58 h) ⟨rfl, ⟨rfl, ⟨rfl, ⟨rfl, ⟨rfl, ⟨rfl, ⟨rfl, ⟨rfl, ⟨rfl, ⟨rfl, ⟨rfl, trivial⟩⟩⟩⟩⟩⟩⟩⟩⟩⟩⟩
            refine G_if_eq (pc := 846) 923 X (dg dt_lawb11 15 rfl) (by decide) h (fun h => ?_) (fun h => ?_)
            · exact G_wk (hj923_57 σ_53 h) ⟨rfl, ⟨rfl, ⟨rfl, ⟨rfl, ⟨rfl, ⟨rfl, ⟨rfl, ⟨rfl, ⟨rfl, ⟨rfl, ⟨rfl, trivial⟩⟩⟩⟩⟩⟩⟩⟩⟩⟩⟩
            · refine G_aload_n (pc := 849) 1 X (dg dt_lawb11 16 rfl) rfl rfl ?_
              refine G_iconst (pc := 850) 0 X (dg dt_lawb11 17 rfl) (by decide) ?_
              refine G_iload (pc := 851) X (dg dt_lawb11 18 rfl) rfl ?_
              refine G_iload (pc := 853) X (dg dt_lawb11 19 rfl) rfl ?_
              refine G_idiv (pc := 855) X (dg dt_lawb11 20 rfl) h (fun q_59 h => ?_)
              refine G_iload (pc := 856) X (dg dt_lawb11 21 rfl) rfl ?_
              refine G_iload (pc := 858) X (dg dt_lawb11 22 rfl) rfl ?_
              refine G_irem (pc := 860) X (dg dt_lawb11 23 rfl) h (fun q_60 h => ?_)
              obtain ⟨r_62, σ_63, hc_61, h⟩ := cay_go h
              refine G_callV (pc := 861) (S := []) [.int 0, .int q_59, .int q_60] (fun _ h => h) X (dg dt_lawb11 24 rfl) cb_Q_cell cv_Q_cell w_375 (s_Q_cell htr () ad _ _ _ _ hc_61) rfl ⟨Nat.le_of_ble_eq_true rfl, Nat.le_of_ble_eq_true rfl⟩ sh_0 rfl (Nat.le_of_ble_eq_true rfl) hRc ?_
              refine G_aload_n (pc := 864) 2 X (dg dt_lawb11 25 rfl) rfl rfl ?_
              refine G_iload (pc := 865) X (dg dt_lawb11 26 rfl) rfl ?_
              refine G_iald (pc := 867) X (dg dt_lawb11 27 rfl) sh_82 h (fun r_64 h => ?_)
              refine G_icmp_ne (pc := 868) 923 X (dg dt_lawb11 28 rfl) (by decide) h (fun h => ?_) (fun h => ?_)
              · exact G_wk (hj923_57 σ_63 h) ⟨rfl, ⟨rfl, ⟨rfl, ⟨rfl, ⟨rfl, ⟨rfl, ⟨rfl, ⟨rfl, ⟨rfl, ⟨rfl, ⟨rfl, trivial⟩⟩⟩⟩⟩⟩⟩⟩⟩⟩⟩
              · refine G_aload_n (pc := 871) 1 X (dg dt_lawb11 29 rfl) rfl rfl ?_
                refine G_iconst (pc := 872) 0 X (dg dt_lawb11 30 rfl) (by decide) ?_
                refine G_iload (pc := 873) X (dg dt_lawb11 31 rfl) rfl ?_
                refine G_iload (pc := 875) X (dg dt_lawb11 32 rfl) rfl ?_
                refine G_idiv (pc := 877) X (dg dt_lawb11 33 rfl) h (fun q_65 h => ?_)
                refine G_iload (pc := 878) X (dg dt_lawb11 34 rfl) rfl ?_
                refine G_iload (pc := 880) X (dg dt_lawb11 35 rfl) rfl ?_
                refine G_irem (pc := 882) X (dg dt_lawb11 36 rfl) h (fun q_66 h => ?_)
                obtain ⟨r_68, σ_69, hc_67, h⟩ := cay_go h
                refine G_callV (pc := 883) (S := []) [.int 0, .int q_65, .int q_66] (fun _ h => h) X (dg dt_lawb11 37 rfl) cb_Q_can cv_Q_can w_405 (s_Q_can htr () ad _ _ _ _ hc_67) rfl ⟨Nat.le_of_ble_eq_true rfl, Nat.le_of_ble_eq_true rfl⟩ sh_0 rfl (Nat.le_of_ble_eq_true rfl) hRc ?_
                refine G_aload_n (pc := 886) 2 X (dg dt_lawb11 38 rfl) rfl rfl ?_
                refine G_iload (pc := 887) X (dg dt_lawb11 39 rfl) rfl ?_
                refine G_iload (pc := 889) X (dg dt_lawb12 0 rfl) rfl ?_
                obtain ⟨r_71, hc_70, h⟩ := cap_go h
                refine G_callS (pc := 891) (S := [.int r_68]) [.ref (ad 82), .int v6, .int v17] nosub X (dg dt_lawb12 1 rfl) cb_L_set w_509 w_508 (s_L_set _ ad _ _ _ _ gk_82 hc_70) rfl ⟨Nat.le_of_ble_eq_true rfl, Nat.le_of_ble_eq_true rfl⟩  (Nat.le_of_ble_eq_true rfl) hRc ?_
                refine G_icmp_ne (pc := 894) 923 X (dg dt_lawb12 2 rfl) (by decide) h (fun h => ?_) (fun h => ?_)
                · exact G_wk (hj923_57 σ_69 h) ⟨rfl, ⟨rfl, ⟨rfl, ⟨rfl, ⟨rfl, ⟨rfl, ⟨rfl, ⟨rfl, ⟨rfl, ⟨rfl, ⟨rfl, trivial⟩⟩⟩⟩⟩⟩⟩⟩⟩⟩⟩
                · refine G_aload_n (pc := 897) 1 X (dg dt_lawb12 3 rfl) rfl rfl ?_
                  refine G_iconst (pc := 898) 1 X (dg dt_lawb12 4 rfl) (by decide) ?_
                  refine G_iload (pc := 899) X (dg dt_lawb12 5 rfl) rfl ?_
                  refine G_iload (pc := 901) X (dg dt_lawb12 6 rfl) rfl ?_
                  refine G_idiv (pc := 903) X (dg dt_lawb12 7 rfl) h (fun q_72 h => ?_)
                  refine G_iload (pc := 904) X (dg dt_lawb12 8 rfl) rfl ?_
                  refine G_iload (pc := 906) X (dg dt_lawb12 9 rfl) rfl ?_
                  refine G_irem (pc := 908) X (dg dt_lawb12 10 rfl) h (fun q_73 h => ?_)
                  obtain ⟨r_75, σ_76, hc_74, h⟩ := cay_go h
                  refine G_callV (pc := 909) (S := []) [.int 1, .int q_72, .int q_73] (fun _ h => h) X (dg dt_lawb12 11 rfl) cb_Q_cell cv_Q_cell w_375 (s_Q_cell htr () ad _ _ _ _ hc_74) rfl ⟨Nat.le_of_ble_eq_true rfl, Nat.le_of_ble_eq_true rfl⟩ sh_0 rfl (Nat.le_of_ble_eq_true rfl) hRc ?_
                  refine G_aload_n (pc := 912) 3 X (dg dt_lawb12 12 rfl) rfl rfl ?_
                  refine G_iload (pc := 913) X (dg dt_lawb12 13 rfl) rfl ?_
                  refine G_iald (pc := 915) X (dg dt_lawb12 14 rfl) sh_83 h (fun r_77 h => ?_)
                  refine G_icmp_ne (pc := 916) 923 X (dg dt_lawb12 15 rfl) (by decide) h (fun h => ?_) (fun h => ?_)
                  · exact G_wk (hj923_57 σ_76 h) ⟨rfl, ⟨rfl, ⟨rfl, ⟨rfl, ⟨rfl, ⟨rfl, ⟨rfl, ⟨rfl, ⟨rfl, ⟨rfl, ⟨rfl, trivial⟩⟩⟩⟩⟩⟩⟩⟩⟩⟩⟩
                  · refine G_iconst (pc := 919) 1 X (dg dt_lawb12 16 rfl) (by decide) ?_
                    refine G_goto (pc := 920) 924 X (dg dt_lawb12 17 rfl) (by decide) ?_
                    exact G_wk (hj924_54 1 σ_76 h) ⟨rfl, ⟨rfl, ⟨rfl, ⟨rfl, ⟨rfl, ⟨rfl, ⟨rfl, ⟨rfl, ⟨rfl, ⟨rfl, ⟨rfl, trivial⟩⟩⟩⟩⟩⟩⟩⟩⟩⟩⟩
          refine G_icmp_ne (pc := 824) 831 X (dg dt_lawb11 2 rfl) (by decide) h (fun h => ?_) (fun h => ?_)
          · refine G_iconst (pc := 831) 1 X (dg dt_lawb11 5 rfl) (by decide) ?_
            exact G_wk (hj832_50 1 h) ⟨rfl, ⟨rfl, ⟨rfl, ⟨rfl, ⟨rfl, ⟨rfl, ⟨rfl, ⟨rfl, ⟨rfl, ⟨rfl, ⟨rfl, trivial⟩⟩⟩⟩⟩⟩⟩⟩⟩⟩⟩
          · refine G_iconst (pc := 827) 0 X (dg dt_lawb11 3 rfl) (by decide) ?_
            refine G_goto (pc := 828) 832 X (dg dt_lawb11 4 rfl) (by decide) ?_
            exact G_wk (hj832_50 0 h) ⟨rfl, ⟨rfl, ⟨rfl, ⟨rfl, ⟨rfl, ⟨rfl, ⟨rfl, ⟨rfl, ⟨rfl, ⟨rfl, ⟨rfl, trivial⟩⟩⟩⟩⟩⟩⟩⟩⟩⟩⟩
        refine jn_go (fun j810_78 => j810_78 = some 1 → G θ cs (g_SH, ad) σ 810 [some (.ref b), some (.ref (ad 0)), some (.ref (ad 82)), some (.ref (ad 83)), some (.ref (ad 84)), none, some (.int v6), none, some (.int v8), some (.int v9), none, none, none, none, some (.int (v14 + s_44)), none, some (.int v16), some (.int v17), none, none, none, none] [.int v15]) h ?_ (fun j810_78 hj810_78 h => ?_)
        · intro  h
          refine G_iconst (pc := 810) 0 X (dg dt_lawb10 32 rfl) (by decide) ?_
          exact G_wk (hj811_46 0 h) ⟨rfl, ⟨rfl, ⟨rfl, ⟨rfl, ⟨rfl, ⟨rfl, ⟨rfl, ⟨rfl, ⟨rfl, ⟨rfl, ⟨rfl, trivial⟩⟩⟩⟩⟩⟩⟩⟩⟩⟩⟩
        refine G_if_ge (pc := 792) 810 X (dg dt_lawb10 24 rfl) (by decide) h (fun h => ?_) (fun h => ?_)
        · exact G_wk (hj810_78  h) ⟨rfl, ⟨rfl, ⟨rfl, ⟨rfl, ⟨rfl, ⟨rfl, ⟨rfl, ⟨rfl, ⟨rfl, ⟨rfl, ⟨rfl, trivial⟩⟩⟩⟩⟩⟩⟩⟩⟩⟩⟩
        · refine G_aload_n (pc := 795) 2 X (dg dt_lawb10 25 rfl) rfl rfl ?_
          refine G_iload (pc := 796) X (dg dt_lawb10 26 rfl) rfl ?_
          refine G_iload (pc := 798) X (dg dt_lawb10 27 rfl) rfl ?_
          obtain ⟨r_80, hc_79, h⟩ := cap_go h
          refine G_callS (pc := 800) (S := [.int v15]) [.ref (ad 82), .int v6, .int v17] nosub X (dg dt_lawb10 28 rfl) cb_L_set w_509 w_508 (s_L_set _ ad _ _ _ _ gk_82 hc_79) rfl ⟨Nat.le_of_ble_eq_true rfl, Nat.le_of_ble_eq_true rfl⟩  (Nat.le_of_ble_eq_true rfl) hRc ?_
          refine G_if_ne (pc := 803) 810 X (dg dt_lawb10 29 rfl) (by decide) h (fun h => ?_) (fun h => ?_)
          · exact G_wk (hj810_78  h) ⟨rfl, ⟨rfl, ⟨rfl, ⟨rfl, ⟨rfl, ⟨rfl, ⟨rfl, ⟨rfl, ⟨rfl, ⟨rfl, ⟨rfl, trivial⟩⟩⟩⟩⟩⟩⟩⟩⟩⟩⟩
          · refine G_iconst (pc := 806) 1 X (dg dt_lawb10 30 rfl) (by decide) ?_
            refine G_goto (pc := 807) 811 X (dg dt_lawb10 31 rfl) (by decide) ?_
            exact G_wk (hj811_46 1 h) ⟨rfl, ⟨rfl, ⟨rfl, ⟨rfl, ⟨rfl, ⟨rfl, ⟨rfl, ⟨rfl, ⟨rfl, ⟨rfl, ⟨rfl, trivial⟩⟩⟩⟩⟩⟩⟩⟩⟩⟩⟩
      refine G_if_ge (pc := 775) 782 X (dg dt_lawb10 14 rfl) (by decide) h (fun h => ?_) (fun h => ?_)
      · refine G_iconst (pc := 782) 1 X (dg dt_lawb10 17 rfl) (by decide) ?_
        exact G_wk (hj783_43 1 h) ⟨rfl, ⟨rfl, ⟨rfl, ⟨rfl, ⟨rfl, ⟨rfl, ⟨rfl, ⟨rfl, ⟨rfl, ⟨rfl, ⟨rfl, trivial⟩⟩⟩⟩⟩⟩⟩⟩⟩⟩⟩
      · refine G_iconst (pc := 778) 0 X (dg dt_lawb10 15 rfl) (by decide) ?_
        refine G_goto (pc := 779) 783 X (dg dt_lawb10 16 rfl) (by decide) ?_
        exact G_wk (hj783_43 0 h) ⟨rfl, ⟨rfl, ⟨rfl, ⟨rfl, ⟨rfl, ⟨rfl, ⟨rfl, ⟨rfl, ⟨rfl, ⟨rfl, ⟨rfl, trivial⟩⟩⟩⟩⟩⟩⟩⟩⟩⟩⟩
set_option maxRecDepth 100000 in
set_option maxHeartbeats 8000000 in
theorem s_L_law_L1010 {θ : Th} {ad : Nat → Nat} {cs : Nat × Nat} {b N : Nat} {xs : Nat → Int32} (htr : θ.2.1.stackTraces = false) (X : Cx θ g_strs code 22 "QuasigroveLaw" 12 448) (hS9 : Sx θ b N xs) (hRc : Rc θ cs)
    {v6 : Int32} {v8 : Int32} {v9 : Int32} {kx1043 : Int32 → St → Option Int32} (hkx1043 : ∀ (v17 : Int32) (σ : St), kx1043 v17 σ = some 1 → G θ cs (g_SH, ad) σ 1043 [some (.ref b), some (.ref (ad 0)), some (.ref (ad 82)), some (.ref (ad 83)), some (.ref (ad 84)), none, some (.int v6), none, some (.int v8), some (.int v9), none, none, none, none, none, none, none, some (.int v17), none, none, none, none] []) :
    ∀ (n : Nat) (v17 : Int32) (v18 : Int32) (σ : St), f_L_law_L1010 v6 v8 v9 kx1043 n v17 v18 σ = some 1 → G θ cs (g_SH, ad) σ 1010 [some (.ref b), some (.ref (ad 0)), some (.ref (ad 82)), some (.ref (ad 83)), some (.ref (ad 84)), none, some (.int v6), none, some (.int v8), some (.int v9), none, none, none, none, none, none, none, some (.int v17), some (.int v18), none, none, none] [] := by
  intro n
  induction n with
  | zero => intro v17 v18 σ h; rw [f_L_law_L1010] at h; cases h
  | succ n ih =>
    intro v17 v18 σ h
    rw [f_L_law_L1010] at h
    refine G_iload (pc := 1010) X (dg dt_lawb13 23 rfl) rfl ?_
    refine G_if_lt (pc := 1012) 1043 X (dg dt_lawb13 24 rfl) (by decide) h (fun h => ?_) (fun h => ?_)
    · exact G_wk (hkx1043 v17 σ h) ⟨rfl, ⟨rfl, ⟨rfl, ⟨rfl, ⟨rfl, ⟨rfl, ⟨rfl, ⟨rfl, ⟨rfl, trivial⟩⟩⟩⟩⟩⟩⟩⟩⟩
    · refine G_aload (pc := 1015) X (dg dt_lawb13 25 rfl) rfl ?_
      refine G_iload (pc := 1017) X (dg dt_lawb13 26 rfl) rfl ?_
      refine G_bipush (pc := 1019) 10 X (dg dt_lawb13 27 rfl) (by decide) ?_
      refine G_idiv (pc := 1021) X (dg dt_lawb13 28 rfl) h (fun q_91 h => ?_)
      refine G_iload (pc := 1022) X (dg dt_lawb13 29 rfl) rfl ?_
      refine G_bipush (pc := 1024) 10 X (dg dt_lawb13 30 rfl) (by decide) ?_
      refine G_irem (pc := 1026) X (dg dt_lawb13 31 rfl) h (fun q_92 h => ?_)
      refine G_iast (pc := 1027) X (dg dt_lawb13 32 rfl) sh_84 h (fun σ_93 h => ?_)
      refine G_iinc (pc := 1028) (v17 + 1) X (dg dt_lawb13 33 rfl) rfl (Nat.le_of_ble_eq_true rfl) rfl rfl ?_
      refine G_aload (pc := 1031) X (dg dt_lawb13 34 rfl) rfl ?_
      refine G_iload (pc := 1033) X (dg dt_lawb13 35 rfl) rfl ?_
      obtain ⟨r_95, hc_94, h⟩ := cap_go h
      refine G_callS (pc := 1035) (S := []) [.ref (ad 84), .int v6] nosub X (dg dt_lawb13 36 rfl) cb_L_forced w_512 w_511 (s_L_forced _ ad _ _ _ gk_84 hc_94) rfl ⟨Nat.le_of_ble_eq_true rfl, Nat.le_of_ble_eq_true rfl⟩  (Nat.le_of_ble_eq_true rfl) hRc ?_
      refine G_istore (pc := 1038) X (dg dt_lawb13 37 rfl) (Nat.le_of_ble_eq_true rfl) rfl ?_
      refine G_goto (pc := 1040) 1010 X (dg dt_lawb13 38 rfl) (by decide) ?_
      exact G_wk (ih (v17 + 1) r_95 σ_93 h) ⟨rfl, ⟨rfl, ⟨rfl, ⟨rfl, ⟨rfl, ⟨rfl, ⟨rfl, ⟨rfl, ⟨rfl, ⟨rfl, trivial⟩⟩⟩⟩⟩⟩⟩⟩⟩⟩
set_option maxRecDepth 100000 in
set_option maxHeartbeats 8000000 in
theorem s_L_law_L439 {θ : Th} {ad : Nat → Nat} {cs : Nat × Nat} {b N : Nat} {xs : Nat → Int32} (htr : θ.2.1.stackTraces = false) (X : Cx θ g_strs code 22 "QuasigroveLaw" 12 448) (hS9 : Sx θ b N xs) (hRc : Rc θ cs)
    {v6 : Int32} {v9 : Int32} {v11 : Int32} {v12 : Int32} {v14 : Int32} {σ : St} {kx490 : Int32 → Option Int32} (hkx490 : ∀ (v15 : Int32), kx490 v15 = some 1 → G θ cs (g_SH, ad) σ 490 [some (.ref b), some (.ref (ad 0)), some (.ref (ad 82)), some (.ref (ad 83)), some (.ref (ad 84)), none, some (.int v6), none, none, some (.int v9), none, some (.int v11), some (.int v12), none, some (.int v14), some (.int v15), none, none, none, none, none, none] []) :
    ∀ (n : Nat) (v15 : Int32) (v16 : Int32), f_L_law_L439 v6 v9 v11 v12 v14 σ kx490 n v15 v16 = some 1 → G θ cs (g_SH, ad) σ 439 [some (.ref b), some (.ref (ad 0)), some (.ref (ad 82)), some (.ref (ad 83)), some (.ref (ad 84)), none, some (.int v6), none, none, some (.int v9), none, some (.int v11), some (.int v12), none, some (.int v14), some (.int v15), some (.int v16), none, none, none, none, none] [] := by
  intro n
  induction n with
  | zero => intro v15 v16 h; rw [f_L_law_L439] at h; cases h
  | succ n ih =>
    intro v15 v16 h
    rw [f_L_law_L439] at h
    refine G_iload (pc := 439) X (dg dt_lawb5 31 rfl) rfl ?_
    refine G_iload (pc := 441) X (dg dt_lawb5 32 rfl) rfl ?_
    refine G_icmp_ge (pc := 443) 490 X (dg dt_lawb5 33 rfl) (by decide) h (fun h => ?_) (fun h => ?_)
    · exact G_wk (hkx490 v15 h) ⟨rfl, ⟨rfl, ⟨rfl, ⟨rfl, ⟨rfl, ⟨rfl, ⟨rfl, ⟨rfl, ⟨rfl, ⟨rfl, ⟨rfl, trivial⟩⟩⟩⟩⟩⟩⟩⟩⟩⟩⟩
    · refine G_iload (pc := 446) X (dg dt_lawb5 34 rfl) rfl ?_
      refine jn_go (fun j482_126 => ∀ (s_127 : Int32), j482_126 s_127 = some 1 → G θ cs (g_SH, ad) σ 482 [some (.ref b), some (.ref (ad 0)), some (.ref (ad 82)), some (.ref (ad 83)), some (.ref (ad 84)), none, some (.int v6), none, none, some (.int v9), none, some (.int v11), some (.int v12), none, some (.int v14), none, some (.int v16), none, none, none, none, none] [.int s_127]) h ?_ (fun j482_126 hj482_126 h => ?_)
      · intro s_127 h
        refine G_istore (pc := 482) X (dg dt_lawb6 15 rfl) (Nat.le_of_ble_eq_true rfl) rfl ?_
        refine G_iinc (pc := 484) (v16 + 1) X (dg dt_lawb6 16 rfl) rfl (Nat.le_of_ble_eq_true rfl) rfl rfl ?_
        refine G_goto (pc := 487) 439 X (dg dt_lawb6 17 rfl) (by decide) ?_
        exact G_wk (ih s_127 (v16 + 1) h) ⟨rfl, ⟨rfl, ⟨rfl, ⟨rfl, ⟨rfl, ⟨rfl, ⟨rfl, ⟨rfl, ⟨rfl, ⟨rfl, ⟨rfl, ⟨rfl, trivial⟩⟩⟩⟩⟩⟩⟩⟩⟩⟩⟩⟩
      refine jn_go (fun j481_128 => j481_128 = some 1 → G θ cs (g_SH, ad) σ 481 [some (.ref b), some (.ref (ad 0)), some (.ref (ad 82)), some (.ref (ad 83)), some (.ref (ad 84)), none, some (.int v6), none, none, some (.int v9), none, some (.int v11), some (.int v12), none, some (.int v14), none, some (.int v16), none, none, none, none, none] []) h ?_ (fun j481_128 hj481_128 h => ?_)
      · intro  h
        refine G_iconst (pc := 481) 0 X (dg dt_lawb6 14 rfl) (by decide) ?_
        exact G_wk (hj482_126 0 h) ⟨rfl, ⟨rfl, ⟨rfl, ⟨rfl, ⟨rfl, ⟨rfl, ⟨rfl, ⟨rfl, ⟨rfl, ⟨rfl, ⟨rfl, trivial⟩⟩⟩⟩⟩⟩⟩⟩⟩⟩⟩
      refine G_if_eq (pc := 448) 481 X (dg dt_lawb5 35 rfl) (by decide) h (fun h => ?_) (fun h => ?_)
      · exact G_wk (hj481_128  h) ⟨rfl, ⟨rfl, ⟨rfl, ⟨rfl, ⟨rfl, ⟨rfl, ⟨rfl, ⟨rfl, ⟨rfl, ⟨rfl, ⟨rfl, trivial⟩⟩⟩⟩⟩⟩⟩⟩⟩⟩⟩
      · refine G_aload_n (pc := 451) 2 X (dg dt_lawb5 36 rfl) rfl rfl ?_
        refine G_iload (pc := 452) X (dg dt_lawb5 37 rfl) rfl ?_
        refine G_iload (pc := 454) X (dg dt_lawb5 38 rfl) rfl ?_
        refine G_imul (pc := 456) X (dg dt_lawb5 39 rfl) ?_
        refine G_iload (pc := 457) X (dg dt_lawb6 0 rfl) rfl ?_
        refine G_iadd (pc := 459) X (dg dt_lawb6 1 rfl) ?_
        refine G_iald (pc := 460) X (dg dt_lawb6 2 rfl) sh_82 h (fun r_129 h => ?_)
        refine G_if_lt (pc := 461) 481 X (dg dt_lawb6 3 rfl) (by decide) h (fun h => ?_) (fun h => ?_)
        · exact G_wk (hj481_128  h) ⟨rfl, ⟨rfl, ⟨rfl, ⟨rfl, ⟨rfl, ⟨rfl, ⟨rfl, ⟨rfl, ⟨rfl, ⟨rfl, ⟨rfl, trivial⟩⟩⟩⟩⟩⟩⟩⟩⟩⟩⟩
        · refine G_aload_n (pc := 464) 2 X (dg dt_lawb6 4 rfl) rfl rfl ?_
          refine G_iload (pc := 465) X (dg dt_lawb6 5 rfl) rfl ?_
          refine G_iload (pc := 467) X (dg dt_lawb6 6 rfl) rfl ?_
          refine G_imul (pc := 469) X (dg dt_lawb6 7 rfl) ?_
          refine G_iload (pc := 470) X (dg dt_lawb6 8 rfl) rfl ?_
          refine G_iadd (pc := 472) X (dg dt_lawb6 9 rfl) ?_
          refine G_iald (pc := 473) X (dg dt_lawb6 10 rfl) sh_82 h (fun r_130 h => ?_)
          refine G_if_lt (pc := 474) 481 X (dg dt_lawb6 11 rfl) (by decide) h (fun h => ?_) (fun h => ?_)
          · exact G_wk (hj481_128  h) ⟨rfl, ⟨rfl, ⟨rfl, ⟨rfl, ⟨rfl, ⟨rfl, ⟨rfl, ⟨rfl, ⟨rfl, ⟨rfl, ⟨rfl, trivial⟩⟩⟩⟩⟩⟩⟩⟩⟩⟩⟩
          · refine G_iconst (pc := 477) 1 X (dg dt_lawb6 12 rfl) (by decide) ?_
            refine G_goto (pc := 478) 482 X (dg dt_lawb6 13 rfl) (by decide) ?_
            exact G_wk (hj482_126 1 h) ⟨rfl, ⟨rfl, ⟨rfl, ⟨rfl, ⟨rfl, ⟨rfl, ⟨rfl, ⟨rfl, ⟨rfl, ⟨rfl, ⟨rfl, trivial⟩⟩⟩⟩⟩⟩⟩⟩⟩⟩⟩
set_option maxRecDepth 100000 in
set_option maxHeartbeats 8000000 in
theorem s_L_law_L541 {θ : Th} {ad : Nat → Nat} {cs : Nat × Nat} {b N : Nat} {xs : Nat → Int32} (htr : θ.2.1.stackTraces = false) (X : Cx θ g_strs code 22 "QuasigroveLaw" 12 448) (hS9 : Sx θ b N xs) (hRc : Rc θ cs)
    {v6 : Int32} {v9 : Int32} {v11 : Int32} {v12 : Int32} {v14 : Int32} {v15 : Int32} {v16 : Int32} {v17 : Int32} {v18 : Int32} {σ : St} {kx586 : Int32 → Option Int32} (hkx586 : ∀ (v19 : Int32), kx586 v19 = some 1 → G θ cs (g_SH, ad) σ 586 [some (.ref b), some (.ref (ad 0)), some (.ref (ad 82)), some (.ref (ad 83)), some (.ref (ad 84)), none, some (.int v6), none, none, some (.int v9), none, some (.int v11), some (.int v12), none, some (.int v14), some (.int v15), some (.int v16), none, some (.int v18), some (.int v19), none, none] []) :
    ∀ (n : Nat) (v19 : Int32) (v20 : Int32), f_L_law_L541 v6 v9 v11 v12 v14 v15 v16 v17 v18 σ kx586 n v19 v20 = some 1 → G θ cs (g_SH, ad) σ 541 [some (.ref b), some (.ref (ad 0)), some (.ref (ad 82)), some (.ref (ad 83)), some (.ref (ad 84)), none, some (.int v6), none, none, some (.int v9), none, some (.int v11), some (.int v12), none, some (.int v14), some (.int v15), some (.int v16), some (.int v17), some (.int v18), some (.int v19), some (.int v20), none] [] := by
  intro n
  induction n with
  | zero => intro v19 v20 h; rw [f_L_law_L541] at h; cases h
  | succ n ih =>
    intro v19 v20 h
    rw [f_L_law_L541] at h
    refine G_iload (pc := 541) X (dg dt_lawb7 6 rfl) rfl ?_
    refine G_iload (pc := 543) X (dg dt_lawb7 7 rfl) rfl ?_
    refine G_icmp_ge (pc := 545) 586 X (dg dt_lawb7 8 rfl) (by decide) h (fun h => ?_) (fun h => ?_)
    · exact G_wk (hkx586 v19 h) ⟨rfl, ⟨rfl, ⟨rfl, ⟨rfl, ⟨rfl, ⟨rfl, ⟨rfl, ⟨rfl, ⟨rfl, ⟨rfl, ⟨rfl, ⟨rfl, ⟨rfl, ⟨rfl, trivial⟩⟩⟩⟩⟩⟩⟩⟩⟩⟩⟩⟩⟩⟩
    · refine G_aload_n (pc := 548) 2 X (dg dt_lawb7 9 rfl) rfl rfl ?_
      refine G_iload (pc := 549) X (dg dt_lawb7 10 rfl) rfl ?_
      refine G_iload (pc := 551) X (dg dt_lawb7 11 rfl) rfl ?_
      refine G_imul (pc := 553) X (dg dt_lawb7 12 rfl) ?_
      refine G_iload (pc := 554) X (dg dt_lawb7 13 rfl) rfl ?_
      refine G_iadd (pc := 556) X (dg dt_lawb7 14 rfl) ?_
      refine G_iald (pc := 557) X (dg dt_lawb7 15 rfl) sh_82 h (fun r_133 h => ?_)
      refine G_aload_n (pc := 558) 2 X (dg dt_lawb7 16 rfl) rfl rfl ?_
      refine G_iload (pc := 559) X (dg dt_lawb7 17 rfl) rfl ?_
      refine G_iload (pc := 561) X (dg dt_lawb7 18 rfl) rfl ?_
      refine G_imul (pc := 563) X (dg dt_lawb7 19 rfl) ?_
      refine G_iload (pc := 564) X (dg dt_lawb7 20 rfl) rfl ?_
      refine G_iadd (pc := 566) X (dg dt_lawb7 21 rfl) ?_
      refine G_iald (pc := 567) X (dg dt_lawb7 22 rfl) sh_82 h (fun r_134 h => ?_)
      refine jn_go (fun j578_135 => ∀ (s_136 : Int32), j578_135 s_136 = some 1 → G θ cs (g_SH, ad) σ 578 [some (.ref b), some (.ref (ad 0)), some (.ref (ad 82)), some (.ref (ad 83)), some (.ref (ad 84)), none, some (.int v6), none, none, some (.int v9), none, some (.int v11), some (.int v12), none, some (.int v14), some (.int v15), some (.int v16), some (.int v17), some (.int v18), none, some (.int v20), none] [.int s_136]) h ?_ (fun j578_135 hj578_135 h => ?_)
      · intro s_136 h
        refine G_istore (pc := 578) X (dg dt_lawb7 27 rfl) (Nat.le_of_ble_eq_true rfl) rfl ?_
        refine G_iinc (pc := 580) (v20 + 1) X (dg dt_lawb7 28 rfl) rfl (Nat.le_of_ble_eq_true rfl) rfl rfl ?_
        refine G_goto (pc := 583) 541 X (dg dt_lawb7 29 rfl) (by decide) ?_
        exact G_wk (ih s_136 (v20 + 1) h) ⟨rfl, ⟨rfl, ⟨rfl, ⟨rfl, ⟨rfl, ⟨rfl, ⟨rfl, ⟨rfl, ⟨rfl, ⟨rfl, ⟨rfl, ⟨rfl, ⟨rfl, ⟨rfl, ⟨rfl, ⟨rfl, trivial⟩⟩⟩⟩⟩⟩⟩⟩⟩⟩⟩⟩⟩⟩⟩⟩
      refine G_icmp_ne (pc := 568) 576 X (dg dt_lawb7 23 rfl) (by decide) h (fun h => ?_) (fun h => ?_)
      · refine G_iload (pc := 576) X (dg dt_lawb7 26 rfl) rfl ?_
        exact G_wk (hj578_135 v19 h) ⟨rfl, ⟨rfl, ⟨rfl, ⟨rfl, ⟨rfl, ⟨rfl, ⟨rfl, ⟨rfl, ⟨rfl, ⟨rfl, ⟨rfl, ⟨rfl, ⟨rfl, ⟨rfl, ⟨rfl, trivial⟩⟩⟩⟩⟩⟩⟩⟩⟩⟩⟩⟩⟩⟩⟩
      · refine G_iload (pc := 571) X (dg dt_lawb7 24 rfl) rfl ?_
        refine G_goto (pc := 573) 578 X (dg dt_lawb7 25 rfl) (by decide) ?_
        exact G_wk (hj578_135 v20 h) ⟨rfl, ⟨rfl, ⟨rfl, ⟨rfl, ⟨rfl, ⟨rfl, ⟨rfl, ⟨rfl, ⟨rfl, ⟨rfl, ⟨rfl, ⟨rfl, ⟨rfl, ⟨rfl, ⟨rfl, trivial⟩⟩⟩⟩⟩⟩⟩⟩⟩⟩⟩⟩⟩⟩⟩
set_option maxRecDepth 100000 in
set_option maxHeartbeats 8000000 in
theorem s_L_law_L500 {θ : Th} {ad : Nat → Nat} {cs : Nat × Nat} {b N : Nat} {xs : Nat → Int32} (htr : θ.2.1.stackTraces = false) (X : Cx θ g_strs code 22 "QuasigroveLaw" 12 448) (hS9 : Sx θ b N xs) (hRc : Rc θ cs)
    {v6 : Int32} {v9 : Int32} {v11 : Int32} {v12 : Int32} {v14 : Int32} {v15 : Int32} {σ : St} {kx593 : Int32 → Int32 → Option Int32} (hkx593 : ∀ (v16 : Int32) (v18 : Int32), kx593 v16 v18 = some 1 → G θ cs (g_SH, ad) σ 593 [some (.ref b), some (.ref (ad 0)), some (.ref (ad 82)), some (.ref (ad 83)), some (.ref (ad 84)), none, some (.int v6), none, none, some (.int v9), none, some (.int v11), some (.int v12), none, some (.int v14), some (.int v15), some (.int v16), none, some (.int v18), none, none, none] []) :
    ∀ (n : Nat) (v16 : Int32) (v17 : Int32) (v18 : Int32), f_L_law_L500 v6 v9 v11 v12 v14 v15 σ kx593 n v16 v17 v18 = some 1 → G θ cs (g_SH, ad) σ 500 [some (.ref b), some (.ref (ad 0)), some (.ref (ad 82)), some (.ref (ad 83)), some (.ref (ad 84)), none, some (.int v6), none, none, some (.int v9), none, some (.int v11), some (.int v12), none, some (.int v14), some (.int v15), some (.int v16), some (.int v17), some (.int v18), none, none, none] [] := by
  intro n
  induction n with
  | zero => intro v16 v17 v18 h; rw [f_L_law_L500] at h; cases h
  | succ n ih =>
    intro v16 v17 v18 h
    rw [f_L_law_L500] at h
    refine G_iload (pc := 500) X (dg dt_lawb6 24 rfl) rfl ?_
    refine G_iload (pc := 502) X (dg dt_lawb6 25 rfl) rfl ?_
    refine G_icmp_eq (pc := 504) 593 X (dg dt_lawb6 26 rfl) (by decide) h (fun h => ?_) (fun h => ?_)
    · exact G_wk (hkx593 v16 v18 h) ⟨rfl, ⟨rfl, ⟨rfl, ⟨rfl, ⟨rfl, ⟨rfl, ⟨rfl, ⟨rfl, ⟨rfl, ⟨rfl, ⟨rfl, ⟨rfl, ⟨rfl, trivial⟩⟩⟩⟩⟩⟩⟩⟩⟩⟩⟩⟩⟩
    · refine G_iload (pc := 507) X (dg dt_lawb6 27 rfl) rfl ?_
      refine G_if_eq (pc := 509) 593 X (dg dt_lawb6 28 rfl) (by decide) h (fun h => ?_) (fun h => ?_)
      · exact G_wk (hkx593 v16 v18 h) ⟨rfl, ⟨rfl, ⟨rfl, ⟨rfl, ⟨rfl, ⟨rfl, ⟨rfl, ⟨rfl, ⟨rfl, ⟨rfl, ⟨rfl, ⟨rfl, ⟨rfl, trivial⟩⟩⟩⟩⟩⟩⟩⟩⟩⟩⟩⟩⟩
      · refine G_iload (pc := 512) X (dg dt_lawb6 29 rfl) rfl ?_
        refine G_iload (pc := 514) X (dg dt_lawb6 30 rfl) rfl ?_
        refine G_ishr (pc := 516) X (dg dt_lawb6 31 rfl) ?_
        refine G_iconst (pc := 517) 1 X (dg dt_lawb6 32 rfl) (by decide) ?_
        refine G_iand (pc := 518) X (dg dt_lawb6 33 rfl) ?_
        refine G_if_ne (pc := 519) 593 X (dg dt_lawb6 34 rfl) (by decide) h (fun h => ?_) (fun h => ?_)
        · exact G_wk (hkx593 v16 v18 h) ⟨rfl, ⟨rfl, ⟨rfl, ⟨rfl, ⟨rfl, ⟨rfl, ⟨rfl, ⟨rfl, ⟨rfl, ⟨rfl, ⟨rfl, ⟨rfl, ⟨rfl, trivial⟩⟩⟩⟩⟩⟩⟩⟩⟩⟩⟩⟩⟩
        · refine G_iload (pc := 522) X (dg dt_lawb6 35 rfl) rfl ?_
          refine G_iconst (pc := 524) 1 X (dg dt_lawb6 36 rfl) (by decide) ?_
          refine G_iload (pc := 525) X (dg dt_lawb6 37 rfl) rfl ?_
          refine G_ishl (pc := 527) X (dg dt_lawb6 38 rfl) ?_
          refine G_ior (pc := 528) X (dg dt_lawb6 39 rfl) ?_
          refine G_istore_lt (pc := 529) X (dg dt_lawb7 0 rfl) (Nat.le_of_ble_eq_true rfl) rfl h (fun v18_132 h => ?_)
          refine G_iinc (pc := 531) (v16 + 1) X (dg dt_lawb7 1 rfl) rfl (Nat.le_of_ble_eq_true rfl) rfl rfl ?_
          refine G_iload (pc := 534) X (dg dt_lawb7 2 rfl) rfl ?_
          refine G_istore (pc := 536) X (dg dt_lawb7 3 rfl) (Nat.le_of_ble_eq_true rfl) rfl ?_
          refine G_iconst (pc := 538) 0 X (dg dt_lawb7 4 rfl) (by decide) ?_
          refine G_istore (pc := 539) X (dg dt_lawb7 5 rfl) (Nat.le_of_ble_eq_true rfl) rfl ?_
          refine G_weak (L' := [some (.ref b), some (.ref (ad 0)), some (.ref (ad 82)), some (.ref (ad 83)), some (.ref (ad 84)), none, some (.int v6), none, none, some (.int v9), none, some (.int v11), some (.int v12), none, some (.int v14), some (.int v15), some (.int (v16 + 1)), some (.int v17), some (.int v18_132), some (.int v17), some (.int 0), none]) ⟨rfl, ⟨rfl, ⟨rfl, ⟨rfl, ⟨rfl, ⟨rfl, ⟨rfl, ⟨rfl, ⟨rfl, ⟨rfl, ⟨rfl, ⟨rfl, ⟨rfl, ⟨rfl, ⟨rfl, ⟨rfl, trivial⟩⟩⟩⟩⟩⟩⟩⟩⟩⟩⟩⟩⟩⟩⟩⟩ ?_
          refine s_L_law_L541 htr X hS9 hRc (fun v19_137 h => ?_) _ _ _ h
          refine G_iload (pc := 586) X (dg dt_lawb7 30 rfl) rfl ?_
          refine G_istore (pc := 588) X (dg dt_lawb7 31 rfl) (Nat.le_of_ble_eq_true rfl) rfl ?_
          refine G_goto (pc := 590) 500 X (dg dt_lawb7 32 rfl) (by decide) ?_
          exact G_wk (ih (v16 + 1) v19_137 v18_132 h) ⟨rfl, ⟨rfl, ⟨rfl, ⟨rfl, ⟨rfl, ⟨rfl, ⟨rfl, ⟨rfl, ⟨rfl, ⟨rfl, ⟨rfl, ⟨rfl, ⟨rfl, ⟨rfl, trivial⟩⟩⟩⟩⟩⟩⟩⟩⟩⟩⟩⟩⟩⟩
set_option maxRecDepth 100000 in
set_option maxHeartbeats 8000000 in
theorem s_L_law_L644 {θ : Th} {ad : Nat → Nat} {cs : Nat × Nat} {b N : Nat} {xs : Nat → Int32} (htr : θ.2.1.stackTraces = false) (X : Cx θ g_strs code 22 "QuasigroveLaw" 12 448) (hS9 : Sx θ b N xs) (hRc : Rc θ cs)
    {v6 : Int32} {v8 : Int32} {v9 : Int32} {v11 : Int32} {v14 : Int32} {v18 : Int32} {kx747 : St → Option Int32} (hkx747 : ∀ (σ : St), kx747 σ = some 1 → G θ cs (g_SH, ad) σ 747 [some (.ref b), some (.ref (ad 0)), some (.ref (ad 82)), some (.ref (ad 83)), some (.ref (ad 84)), none, some (.int v6), none, some (.int v8), some (.int v9), none, none, none, none, none, none, none, none, none, none, none, none] []) :
    ∀ (n : Nat) (v19 : Int32) (σ : St), f_L_law_L644 v6 v8 v9 v11 v14 v18 kx747 n v19 σ = some 1 → G θ cs (g_SH, ad) σ 644 [some (.ref b), some (.ref (ad 0)), some (.ref (ad 82)), some (.ref (ad 83)), some (.ref (ad 84)), none, some (.int v6), none, some (.int v8), some (.int v9), none, some (.int v11), none, none, some (.int v14), none, none, none, some (.int v18), some (.int v19), none, none] [] := by
  intro n
  induction n with
  | zero => intro v19 σ h; rw [f_L_law_L644] at h; cases h
  | succ n ih =>
    intro v19 σ h
    rw [f_L_law_L644] at h
    refine G_iload (pc := 644) X (dg dt_lawb8 17 rfl) rfl ?_
    refine G_iload (pc := 646) X (dg dt_lawb8 18 rfl) rfl ?_
    refine G_icmp_ge (pc := 648) 747 X (dg dt_lawb8 19 rfl) (by decide) h (fun h => ?_) (fun h => ?_)
    · exact G_wk (hkx747 σ h) ⟨rfl, ⟨rfl, ⟨rfl, ⟨rfl, ⟨rfl, ⟨rfl, ⟨rfl, ⟨rfl, trivial⟩⟩⟩⟩⟩⟩⟩⟩
    · refine G_aload_n (pc := 651) 2 X (dg dt_lawb8 20 rfl) rfl rfl ?_
      refine G_iload (pc := 652) X (dg dt_lawb8 21 rfl) rfl ?_
      refine G_iload (pc := 654) X (dg dt_lawb8 22 rfl) rfl ?_
      refine G_imul (pc := 656) X (dg dt_lawb8 23 rfl) ?_
      refine G_iload (pc := 657) X (dg dt_lawb8 24 rfl) rfl ?_
      refine G_iadd (pc := 659) X (dg dt_lawb8 25 rfl) ?_
      refine G_iald (pc := 660) X (dg dt_lawb8 26 rfl) sh_82 h (fun r_147 h => ?_)
      refine G_istore (pc := 661) X (dg dt_lawb8 27 rfl) (Nat.le_of_ble_eq_true rfl) rfl ?_
      refine G_iload (pc := 663) X (dg dt_lawb8 28 rfl) rfl ?_
      refine G_iload (pc := 665) X (dg dt_lawb8 29 rfl) rfl ?_
      refine G_ishr (pc := 667) X (dg dt_lawb8 30 rfl) ?_
      refine G_iconst (pc := 668) 1 X (dg dt_lawb8 31 rfl) (by decide) ?_
      refine G_iand (pc := 669) X (dg dt_lawb8 32 rfl) ?_
      refine G_iconst (pc := 670) 1 X (dg dt_lawb8 33 rfl) (by decide) ?_
      refine jn_go (fun j679_148 => ∀ (s_149 : Int32), j679_148 s_149 = some 1 → G θ cs (g_SH, ad) σ 679 [some (.ref b), some (.ref (ad 0)), some (.ref (ad 82)), some (.ref (ad 83)), some (.ref (ad 84)), none, some (.int v6), none, some (.int v8), some (.int v9), none, some (.int v11), none, none, some (.int v14), none, none, none, some (.int v18), some (.int v19), some (.int r_147), none] [.int s_149]) h ?_ (fun j679_148 hj679_148 h => ?_)
      · intro s_149 h
        refine G_istore (pc := 679) X (dg dt_lawb8 38 rfl) (Nat.le_of_ble_eq_true rfl) rfl ?_
        refine G_aload_n (pc := 681) 2 X (dg dt_lawb8 39 rfl) rfl rfl ?_
        refine G_iload (pc := 682) X (dg dt_lawb9 0 rfl) rfl ?_
        refine G_iload (pc := 684) X (dg dt_lawb9 1 rfl) rfl ?_
        refine G_imul (pc := 686) X (dg dt_lawb9 2 rfl) ?_
        refine G_iload (pc := 687) X (dg dt_lawb9 3 rfl) rfl ?_
        refine G_iadd (pc := 689) X (dg dt_lawb9 4 rfl) ?_
        refine G_iload (pc := 690) X (dg dt_lawb9 5 rfl) rfl ?_
        refine jn_go (fun j710_150 => ∀ (s_151 : Int32), j710_150 s_151 = some 1 → G θ cs (g_SH, ad) σ 710 [some (.ref b), some (.ref (ad 0)), some (.ref (ad 82)), some (.ref (ad 83)), some (.ref (ad 84)), none, some (.int v6), none, some (.int v8), some (.int v9), none, some (.int v11), none, none, some (.int v14), none, none, none, some (.int v18), some (.int v19), some (.int r_147), some (.int s_149)] [.int s_151, .int ((v6 * v11) + v19), .ref (ad 82)]) h ?_ (fun j710_150 hj710_150 h => ?_)
        · intro s_151 h
          refine G_iast (pc := 710) X (dg dt_lawb9 16 rfl) sh_82 h (fun σ_152 h => ?_)
          refine G_aload_n (pc := 711) 2 X (dg dt_lawb9 17 rfl) rfl rfl ?_
          refine G_iload (pc := 712) X (dg dt_lawb9 18 rfl) rfl ?_
          refine G_iload (pc := 714) X (dg dt_lawb9 19 rfl) rfl ?_
          refine G_imul (pc := 716) X (dg dt_lawb9 20 rfl) ?_
          refine G_iload (pc := 717) X (dg dt_lawb9 21 rfl) rfl ?_
          refine G_iadd (pc := 719) X (dg dt_lawb9 22 rfl) ?_
          refine G_iload (pc := 720) X (dg dt_lawb9 23 rfl) rfl ?_
          refine jn_go (fun j740_153 => ∀ (s_154 : Int32), j740_153 s_154 = some 1 → G θ cs (g_SH, ad) σ_152 740 [some (.ref b), some (.ref (ad 0)), some (.ref (ad 82)), some (.ref (ad 83)), some (.ref (ad 84)), none, some (.int v6), none, some (.int v8), some (.int v9), none, some (.int v11), none, none, some (.int v14), none, none, none, some (.int v18), some (.int v19), none, none] [.int s_154, .int ((v6 * v14) + v19), .ref (ad 82)]) h ?_ (fun j740_153 hj740_153 h => ?_)
          · intro s_154 h
            refine G_iast (pc := 740) X (dg dt_lawb9 34 rfl) sh_82 h (fun σ_155 h => ?_)
            refine G_iinc (pc := 741) (v19 + 1) X (dg dt_lawb9 35 rfl) rfl (Nat.le_of_ble_eq_true rfl) rfl rfl ?_
            refine G_goto (pc := 744) 644 X (dg dt_lawb9 36 rfl) (by decide) ?_
            exact G_wk (ih (v19 + 1) σ_155 h) ⟨rfl, ⟨rfl, ⟨rfl, ⟨rfl, ⟨rfl, ⟨rfl, ⟨rfl, ⟨rfl, ⟨rfl, ⟨rfl, ⟨rfl, ⟨rfl, trivial⟩⟩⟩⟩⟩⟩⟩⟩⟩⟩⟩⟩
          refine G_if_eq (pc := 722) 730 X (dg dt_lawb9 24 rfl) (by decide) h (fun h => ?_) (fun h => ?_)
          · refine G_aload_n (pc := 730) 2 X (dg dt_lawb9 27 rfl) rfl rfl ?_
            refine G_iload (pc := 731) X (dg dt_lawb9 28 rfl) rfl ?_
            refine G_iload (pc := 733) X (dg dt_lawb9 29 rfl) rfl ?_
            refine G_imul (pc := 735) X (dg dt_lawb9 30 rfl) ?_
            refine G_iload (pc := 736) X (dg dt_lawb9 31 rfl) rfl ?_
            refine G_iadd (pc := 738) X (dg dt_lawb9 32 rfl) ?_
            refine G_iald (pc := 739) X (dg dt_lawb9 33 rfl) sh_82 h (fun r_156 h => ?_)
            exact G_wk (hj740_153 r_156 h) ⟨rfl, ⟨rfl, ⟨rfl, ⟨rfl, ⟨rfl, ⟨rfl, ⟨rfl, ⟨rfl, ⟨rfl, ⟨rfl, ⟨rfl, ⟨rfl, trivial⟩⟩⟩⟩⟩⟩⟩⟩⟩⟩⟩⟩
          · refine G_iload (pc := 725) X (dg dt_lawb9 25 rfl) rfl ?_
            refine G_goto (pc := 727) 740 X (dg dt_lawb9 26 rfl) (by decide) ?_
            exact G_wk (hj740_153 r_147 h) ⟨rfl, ⟨rfl, ⟨rfl, ⟨rfl, ⟨rfl, ⟨rfl, ⟨rfl, ⟨rfl, ⟨rfl, ⟨rfl, ⟨rfl, ⟨rfl, trivial⟩⟩⟩⟩⟩⟩⟩⟩⟩⟩⟩⟩
        refine G_if_eq (pc := 692) 708 X (dg dt_lawb9 6 rfl) (by decide) h (fun h => ?_) (fun h => ?_)
        · refine G_iload (pc := 708) X (dg dt_lawb9 15 rfl) rfl ?_
          exact G_wk (hj710_150 r_147 h) ⟨rfl, ⟨rfl, ⟨rfl, ⟨rfl, ⟨rfl, ⟨rfl, ⟨rfl, ⟨rfl, ⟨rfl, ⟨rfl, ⟨rfl, ⟨rfl, ⟨rfl, ⟨rfl, trivial⟩⟩⟩⟩⟩⟩⟩⟩⟩⟩⟩⟩⟩⟩
        · refine G_aload_n (pc := 695) 2 X (dg dt_lawb9 7 rfl) rfl rfl ?_
          refine G_iload (pc := 696) X (dg dt_lawb9 8 rfl) rfl ?_
          refine G_iload (pc := 698) X (dg dt_lawb9 9 rfl) rfl ?_
          refine G_imul (pc := 700) X (dg dt_lawb9 10 rfl) ?_
          refine G_iload (pc := 701) X (dg dt_lawb9 11 rfl) rfl ?_
          refine G_iadd (pc := 703) X (dg dt_lawb9 12 rfl) ?_
          refine G_iald (pc := 704) X (dg dt_lawb9 13 rfl) sh_82 h (fun r_157 h => ?_)
          refine G_goto (pc := 705) 710 X (dg dt_lawb9 14 rfl) (by decide) ?_
          exact G_wk (hj710_150 r_157 h) ⟨rfl, ⟨rfl, ⟨rfl, ⟨rfl, ⟨rfl, ⟨rfl, ⟨rfl, ⟨rfl, ⟨rfl, ⟨rfl, ⟨rfl, ⟨rfl, ⟨rfl, ⟨rfl, trivial⟩⟩⟩⟩⟩⟩⟩⟩⟩⟩⟩⟩⟩⟩
      refine G_icmp_ne (pc := 671) 678 X (dg dt_lawb8 34 rfl) (by decide) h (fun h => ?_) (fun h => ?_)
      · refine G_iconst (pc := 678) 0 X (dg dt_lawb8 37 rfl) (by decide) ?_
        exact G_wk (hj679_148 0 h) ⟨rfl, ⟨rfl, ⟨rfl, ⟨rfl, ⟨rfl, ⟨rfl, ⟨rfl, ⟨rfl, ⟨rfl, ⟨rfl, ⟨rfl, ⟨rfl, ⟨rfl, trivial⟩⟩⟩⟩⟩⟩⟩⟩⟩⟩⟩⟩⟩
      · refine G_iconst (pc := 674) 1 X (dg dt_lawb8 35 rfl) (by decide) ?_
        refine G_goto (pc := 675) 679 X (dg dt_lawb8 36 rfl) (by decide) ?_
        exact G_wk (hj679_148 1 h) ⟨rfl, ⟨rfl, ⟨rfl, ⟨rfl, ⟨rfl, ⟨rfl, ⟨rfl, ⟨rfl, ⟨rfl, ⟨rfl, ⟨rfl, ⟨rfl, ⟨rfl, trivial⟩⟩⟩⟩⟩⟩⟩⟩⟩⟩⟩⟩⟩
set_option maxRecDepth 100000 in
set_option maxHeartbeats 8000000 in
theorem s_L_law_L276 {θ : Th} {ad : Nat → Nat} {cs : Nat × Nat} {b N : Nat} {xs : Nat → Int32} (htr : θ.2.1.stackTraces = false) (X : Cx θ g_strs code 22 "QuasigroveLaw" 12 448) (hS9 : Sx θ b N xs) (hRc : Rc θ cs)
    {v6 : Int32} {v9 : Int32} {v11 : Int32} {v12 : Int32} {v13 : Int32} {v14 : Int32} {σ : St} {kx345 : Int32 → Option Int32} (hkx345 : ∀ (v15 : Int32), kx345 v15 = some 1 → G θ cs (g_SH, ad) σ 345 [some (.ref b), some (.ref (ad 0)), some (.ref (ad 82)), some (.ref (ad 83)), some (.ref (ad 84)), none, some (.int v6), none, none, some (.int v9), none, some (.int v11), some (.int v12), some (.int v13), some (.int v14), some (.int v15), none, none, none, none, none, none] []) :
    ∀ (n : Nat) (v15 : Int32) (v16 : Int32), f_L_law_L276 v6 v9 v11 v12 v13 v14 σ kx345 n v15 v16 = some 1 → G θ cs (g_SH, ad) σ 276 [some (.ref b), some (.ref (ad 0)), some (.ref (ad 82)), some (.ref (ad 83)), some (.ref (ad 84)), none, some (.int v6), none, none, some (.int v9), none, some (.int v11), some (.int v12), some (.int v13), some (.int v14), some (.int v15), some (.int v16), none, none, none, none, none] [] := by
  intro n
  induction n with
  | zero => intro v15 v16 h; rw [f_L_law_L276] at h; cases h
  | succ n ih =>
    intro v15 v16 h
    rw [f_L_law_L276] at h
    refine G_iload (pc := 276) X (dg dt_lawb3 28 rfl) rfl ?_
    refine G_iload (pc := 278) X (dg dt_lawb3 29 rfl) rfl ?_
    refine G_icmp_ge (pc := 280) 345 X (dg dt_lawb3 30 rfl) (by decide) h (fun h => ?_) (fun h => ?_)
    · exact G_wk (hkx345 v15 h) ⟨rfl, ⟨rfl, ⟨rfl, ⟨rfl, ⟨rfl, ⟨rfl, ⟨rfl, ⟨rfl, ⟨rfl, ⟨rfl, ⟨rfl, ⟨rfl, trivial⟩⟩⟩⟩⟩⟩⟩⟩⟩⟩⟩⟩
    · refine G_iload (pc := 283) X (dg dt_lawb3 31 rfl) rfl ?_
      refine jn_go (fun j337_163 => ∀ (s_164 : Int32), j337_163 s_164 = some 1 → G θ cs (g_SH, ad) σ 337 [some (.ref b), some (.ref (ad 0)), some (.ref (ad 82)), some (.ref (ad 83)), some (.ref (ad 84)), none, some (.int v6), none, none, some (.int v9), none, some (.int v11), some (.int v12), some (.int v13), some (.int v14), none, some (.int v16), none, none, none, none, none] [.int s_164]) h ?_ (fun j337_163 hj337_163 h => ?_)
      · intro s_164 h
        refine G_istore (pc := 337) X (dg dt_lawb4 20 rfl) (Nat.le_of_ble_eq_true rfl) rfl ?_
        refine G_iinc (pc := 339) (v16 + 1) X (dg dt_lawb4 21 rfl) rfl (Nat.le_of_ble_eq_true rfl) rfl rfl ?_
        refine G_goto (pc := 342) 276 X (dg dt_lawb4 22 rfl) (by decide) ?_
        exact G_wk (ih s_164 (v16 + 1) h) ⟨rfl, ⟨rfl, ⟨rfl, ⟨rfl, ⟨rfl, ⟨rfl, ⟨rfl, ⟨rfl, ⟨rfl, ⟨rfl, ⟨rfl, ⟨rfl, ⟨rfl, trivial⟩⟩⟩⟩⟩⟩⟩⟩⟩⟩⟩⟩⟩
      refine jn_go (fun j332_165 => j332_165 = some 1 → G θ cs (g_SH, ad) σ 332 [some (.ref b), some (.ref (ad 0)), some (.ref (ad 82)), some (.ref (ad 83)), some (.ref (ad 84)), none, some (.int v6), none, none, some (.int v9), none, some (.int v11), some (.int v12), some (.int v13), some (.int v14), none, some (.int v16), none, none, none, none, none] []) h ?_ (fun j332_165 hj332_165 h => ?_)
      · intro  h
        refine G_iconst (pc := 332) 1 X (dg dt_lawb4 17 rfl) (by decide) ?_
        refine G_goto (pc := 333) 337 X (dg dt_lawb4 18 rfl) (by decide) ?_
        exact G_wk (hj337_163 1 h) ⟨rfl, ⟨rfl, ⟨rfl, ⟨rfl, ⟨rfl, ⟨rfl, ⟨rfl, ⟨rfl, ⟨rfl, ⟨rfl, ⟨rfl, ⟨rfl, trivial⟩⟩⟩⟩⟩⟩⟩⟩⟩⟩⟩⟩
      refine G_if_ne (pc := 285) 332 X (dg dt_lawb3 32 rfl) (by decide) h (fun h => ?_) (fun h => ?_)
      · exact G_wk (hj332_165  h) ⟨rfl, ⟨rfl, ⟨rfl, ⟨rfl, ⟨rfl, ⟨rfl, ⟨rfl, ⟨rfl, ⟨rfl, ⟨rfl, ⟨rfl, ⟨rfl, trivial⟩⟩⟩⟩⟩⟩⟩⟩⟩⟩⟩⟩
      · refine G_iload (pc := 288) X (dg dt_lawb3 33 rfl) rfl ?_
        refine G_iload (pc := 290) X (dg dt_lawb3 34 rfl) rfl ?_
        refine jn_go (fun j310_166 => j310_166 = some 1 → G θ cs (g_SH, ad) σ 310 [some (.ref b), some (.ref (ad 0)), some (.ref (ad 82)), some (.ref (ad 83)), some (.ref (ad 84)), none, some (.int v6), none, none, some (.int v9), none, some (.int v11), some (.int v12), some (.int v13), some (.int v14), none, some (.int v16), none, none, none, none, none] []) h ?_ (fun j310_166 hj310_166 h => ?_)
        · intro  h
          refine G_iload (pc := 310) X (dg dt_lawb4 5 rfl) rfl ?_
          refine G_iload (pc := 312) X (dg dt_lawb4 6 rfl) rfl ?_
          refine jn_go (fun j336_167 => j336_167 = some 1 → G θ cs (g_SH, ad) σ 336 [some (.ref b), some (.ref (ad 0)), some (.ref (ad 82)), some (.ref (ad 83)), some (.ref (ad 84)), none, some (.int v6), none, none, some (.int v9), none, some (.int v11), some (.int v12), some (.int v13), some (.int v14), none, some (.int v16), none, none, none, none, none] []) h ?_ (fun j336_167 hj336_167 h => ?_)
          · intro  h
            refine G_iconst (pc := 336) 0 X (dg dt_lawb4 19 rfl) (by decide) ?_
            exact G_wk (hj337_163 0 h) ⟨rfl, ⟨rfl, ⟨rfl, ⟨rfl, ⟨rfl, ⟨rfl, ⟨rfl, ⟨rfl, ⟨rfl, ⟨rfl, ⟨rfl, ⟨rfl, trivial⟩⟩⟩⟩⟩⟩⟩⟩⟩⟩⟩⟩
          refine G_icmp_eq (pc := 314) 336 X (dg dt_lawb4 7 rfl) (by decide) h (fun h => ?_) (fun h => ?_)
          · exact G_wk (hj336_167  h) ⟨rfl, ⟨rfl, ⟨rfl, ⟨rfl, ⟨rfl, ⟨rfl, ⟨rfl, ⟨rfl, ⟨rfl, ⟨rfl, ⟨rfl, ⟨rfl, trivial⟩⟩⟩⟩⟩⟩⟩⟩⟩⟩⟩⟩
          · refine G_aload_n (pc := 317) 2 X (dg dt_lawb4 8 rfl) rfl rfl ?_
            refine G_iload (pc := 318) X (dg dt_lawb4 9 rfl) rfl ?_
            refine G_iload (pc := 320) X (dg dt_lawb4 10 rfl) rfl ?_
            refine G_imul (pc := 322) X (dg dt_lawb4 11 rfl) ?_
            refine G_iload (pc := 323) X (dg dt_lawb4 12 rfl) rfl ?_
            refine G_iadd (pc := 325) X (dg dt_lawb4 13 rfl) ?_
            refine G_iald (pc := 326) X (dg dt_lawb4 14 rfl) sh_82 h (fun r_168 h => ?_)
            refine G_iload (pc := 327) X (dg dt_lawb4 15 rfl) rfl ?_
            refine G_icmp_ne (pc := 329) 336 X (dg dt_lawb4 16 rfl) (by decide) h (fun h => ?_) (fun h => ?_)
            · exact G_wk (hj336_167  h) ⟨rfl, ⟨rfl, ⟨rfl, ⟨rfl, ⟨rfl, ⟨rfl, ⟨rfl, ⟨rfl, ⟨rfl, ⟨rfl, ⟨rfl, ⟨rfl, trivial⟩⟩⟩⟩⟩⟩⟩⟩⟩⟩⟩⟩
            · exact G_wk (hj332_165  h) ⟨rfl, ⟨rfl, ⟨rfl, ⟨rfl, ⟨rfl, ⟨rfl, ⟨rfl, ⟨rfl, ⟨rfl, ⟨rfl, ⟨rfl, ⟨rfl, trivial⟩⟩⟩⟩⟩⟩⟩⟩⟩⟩⟩⟩
        refine G_icmp_eq (pc := 292) 310 X (dg dt_lawb3 35 rfl) (by decide) h (fun h => ?_) (fun h => ?_)
        · exact G_wk (hj310_166  h) ⟨rfl, ⟨rfl, ⟨rfl, ⟨rfl, ⟨rfl, ⟨rfl, ⟨rfl, ⟨rfl, ⟨rfl, ⟨rfl, ⟨rfl, ⟨rfl, trivial⟩⟩⟩⟩⟩⟩⟩⟩⟩⟩⟩⟩
        · refine G_aload_n (pc := 295) 2 X (dg dt_lawb3 36 rfl) rfl rfl ?_
          refine G_iload (pc := 296) X (dg dt_lawb3 37 rfl) rfl ?_
          refine G_iload (pc := 298) X (dg dt_lawb3 38 rfl) rfl ?_
          refine G_imul (pc := 300) X (dg dt_lawb3 39 rfl) ?_
          refine G_iload (pc := 301) X (dg dt_lawb4 0 rfl) rfl ?_
          refine G_iadd (pc := 303) X (dg dt_lawb4 1 rfl) ?_
          refine G_iald (pc := 304) X (dg dt_lawb4 2 rfl) sh_82 h (fun r_169 h => ?_)
          refine G_iload (pc := 305) X (dg dt_lawb4 3 rfl) rfl ?_
          refine G_icmp_eq (pc := 307) 332 X (dg dt_lawb4 4 rfl) (by decide) h (fun h => ?_) (fun h => ?_)
          · exact G_wk (hj332_165  h) ⟨rfl, ⟨rfl, ⟨rfl, ⟨rfl, ⟨rfl, ⟨rfl, ⟨rfl, ⟨rfl, ⟨rfl, ⟨rfl, ⟨rfl, ⟨rfl, trivial⟩⟩⟩⟩⟩⟩⟩⟩⟩⟩⟩⟩
          · exact G_wk (hj310_166  h) ⟨rfl, ⟨rfl, ⟨rfl, ⟨rfl, ⟨rfl, ⟨rfl, ⟨rfl, ⟨rfl, ⟨rfl, ⟨rfl, ⟨rfl, ⟨rfl, trivial⟩⟩⟩⟩⟩⟩⟩⟩⟩⟩⟩⟩
set_option maxRecDepth 100000 in
set_option maxHeartbeats 8000000 in
theorem s_L_law_L178 {θ : Th} {ad : Nat → Nat} {b N : Nat} {xs : Nat → Int32} (htr : θ.2.1.stackTraces = false) (X : Cx θ g_strs code 22 "QuasigroveLaw" 12 448) (hS9 : Sx θ b N xs) (hR : Rm θ 600000 7000000)
    {v6 : Int32} {kx1071 : Int32 → St → Option Int32} (hkx1071 : ∀ (cs : Nat × Nat) (hcs : cs.1 ≤ 600000 ∧ cs.2 ≤ 7000000) (v8 : Int32) (σ : St), kx1071 v8 σ = some 1 → G θ cs (g_SH, ad) σ 1071 [none, none, none, none, none, none, none, none, some (.int v8), none, none, none, none, none, none, none, none, none, none, none, none, none] []) :
    ∀ (n : Nat) (cs : Nat × Nat) (hcs : cs.1 + n ≤ 600000 ∧ cs.2 + 6 * n ≤ 7000000) (v8 : Int32) (v9 : Int32) (σ : St), f_L_law_L178 N xs v6 kx1071 n v8 v9 σ = some 1 → G θ cs (g_SH, ad) σ 178 [some (.ref b), some (.ref (ad 0)), some (.ref (ad 82)), some (.ref (ad 83)), some (.ref (ad 84)), none, some (.int v6), none, some (.int v8), some (.int v9), none, none, none, none, none, none, none, none, none, none, none, none] [] := by
  intro n
  induction n with
  | zero => intro cs hcs v8 v9 σ h; rw [f_L_law_L178] at h; cases h
  | succ n ih =>
    intro cs hcs v8 v9 σ h
    have hRm1 : Rm θ (cs.1 + 1) (cs.2 + 6) := Rm_of hR (by omega) (by omega)
    have hRc1 : Rc θ (cs.1 + 1, cs.2 + 6) := Rm_rc hRm1
    have hRc : Rc θ cs := Rm_rc (a := cs.1) (b := cs.2) (Rm_of hR (by omega) (by omega))
    rw [f_L_law_L178] at h
    refine G_iload (pc := 178) X (dg dt_lawb2 19 rfl) rfl ?_
    refine G_bipush (pc := 180) 45 X (dg dt_lawb2 20 rfl) (by decide) ?_
    refine G_icmp_ge (pc := 182) 1071 X (dg dt_lawb2 21 rfl) (by decide) h (fun h => ?_) (fun h => ?_)
    · exact G_wk (hkx1071 cs (by omega) v8 σ h) ⟨rfl, trivial⟩
    · refine G_iload (pc := 185) X (dg dt_lawb2 22 rfl) rfl ?_
      refine G_if_eq (pc := 187) 1071 X (dg dt_lawb2 23 rfl) (by decide) h (fun h => ?_) (fun h => ?_)
      · exact G_wk (hkx1071 cs (by omega) v8 σ h) ⟨rfl, trivial⟩
      · refine G_aload_n (pc := 190) 0 X (dg dt_lawb2 24 rfl) rfl rfl ?_
        refine G_iload (pc := 191) X (dg dt_lawb2 25 rfl) rfl ?_
        obtain ⟨r_29, hc_28, h⟩ := cap_go h
        refine G_callSS (pc := 193) (S := []) [.ref b, .int v9] X hS9 (dg dt_lawb2 26 rfl) cb_L_cell w_465 w_464 (s_L_cell _ ad _ b N xs _ hc_28) rfl ⟨Nat.le_of_ble_eq_true rfl, Nat.le_of_ble_eq_true rfl⟩ (Nat.le_of_ble_eq_true rfl) hRc ?_
        refine G_istore (pc := 196) X (dg dt_lawb2 27 rfl) (Nat.le_of_ble_eq_true rfl) rfl ?_
        refine G_iload (pc := 198) X (dg dt_lawb2 28 rfl) rfl ?_
        refine G_bipush (pc := 200) 16 X (dg dt_lawb2 29 rfl) (by decide) ?_
        refine G_idiv (pc := 202) X (dg dt_lawb2 30 rfl) h (fun q_30 h => ?_)
        refine G_iload (pc := 203) X (dg dt_lawb2 31 rfl) rfl ?_
        obtain ⟨r_32, hc_31, h⟩ := cap_go h
        refine G_callS (pc := 205) (S := []) [.int q_30, .int v6] nosub X (dg dt_lawb2 32 rfl) cb_L_up w_462 w_461 (s_L_up _ ad _ _ _ hc_31) rfl ⟨Nat.le_of_ble_eq_true rfl, Nat.le_of_ble_eq_true rfl⟩  (Nat.le_of_ble_eq_true rfl) hRc ?_
        refine G_istore (pc := 208) X (dg dt_lawb2 33 rfl) (Nat.le_of_ble_eq_true rfl) rfl ?_
        refine G_iload (pc := 210) X (dg dt_lawb2 34 rfl) rfl ?_
        refine G_bipush (pc := 212) 64 X (dg dt_lawb2 35 rfl) (by decide) ?_
        refine G_idiv (pc := 214) X (dg dt_lawb2 36 rfl) h (fun q_33 h => ?_)
        refine G_iload (pc := 215) X (dg dt_lawb2 37 rfl) rfl ?_
        obtain ⟨r_35, hc_34, h⟩ := cap_go h
        refine G_callS (pc := 217) (S := []) [.int q_33, .int v6] nosub X (dg dt_lawb2 38 rfl) cb_L_up w_462 w_461 (s_L_up _ ad _ _ _ hc_34) rfl ⟨Nat.le_of_ble_eq_true rfl, Nat.le_of_ble_eq_true rfl⟩  (Nat.le_of_ble_eq_true rfl) hRc ?_
        refine G_istore (pc := 220) X (dg dt_lawb2 39 rfl) (Nat.le_of_ble_eq_true rfl) rfl ?_
        refine G_iload (pc := 222) X (dg dt_lawb3 0 rfl) rfl ?_
        refine G_iload (pc := 224) X (dg dt_lawb3 1 rfl) rfl ?_
        refine G_imul (pc := 226) X (dg dt_lawb3 2 rfl) ?_
        refine G_iload (pc := 227) X (dg dt_lawb3 3 rfl) rfl ?_
        refine G_iadd (pc := 229) X (dg dt_lawb3 4 rfl) ?_
        refine G_istore_lt (pc := 230) X (dg dt_lawb3 5 rfl) (Nat.le_of_ble_eq_true rfl) rfl h (fun v13_36 h => ?_)
        refine G_iload (pc := 232) X (dg dt_lawb3 6 rfl) rfl ?_
        refine G_iconst (pc := 234) 4 X (dg dt_lawb3 7 rfl) (by decide) ?_
        obtain ⟨r_38, hc_37, h⟩ := cap_go h
        refine G_callS (pc := 235) (S := []) [.int r_29, .int 4] nosub X (dg dt_lawb3 8 rfl) cb_L_up w_462 w_461 (s_L_up _ ad _ _ _ hc_37) rfl ⟨Nat.le_of_ble_eq_true rfl, Nat.le_of_ble_eq_true rfl⟩  (Nat.le_of_ble_eq_true rfl) hRc ?_
        refine G_iconst (pc := 238) 3 X (dg dt_lawb3 9 rfl) (by decide) ?_
        refine jn_go (fun j747_39 => ∀ (v8_40 : Int32) (σ_41 : St), j747_39 v8_40 σ_41 = some 1 → G θ (cs.1 + 1, cs.2 + 6) (g_SH, ad) σ_41 747 [some (.ref b), some (.ref (ad 0)), some (.ref (ad 82)), some (.ref (ad 83)), some (.ref (ad 84)), none, some (.int v6), none, some (.int v8_40), some (.int v9), none, none, none, none, none, none, none, none, none, none, none, none] []) h ?_ (fun j747_39 hj747_39 h => ?_)
        · intro v8_40 σ_41 h
          refine G_iconst (pc := 747) 0 X (dg dt_lawb9 37 rfl) (by decide) ?_
          refine G_istore (pc := 748) X (dg dt_lawb9 38 rfl) (Nat.le_of_ble_eq_true rfl) rfl ?_
          refine G_iconst (pc := 750) 0 X (dg dt_lawb9 39 rfl) (by decide) ?_
          refine G_istore (pc := 751) X (dg dt_lawb10 0 rfl) (Nat.le_of_ble_eq_true rfl) rfl ?_
          refine G_iconst (pc := 753) 0 X (dg dt_lawb10 1 rfl) (by decide) ?_
          refine G_istore (pc := 754) X (dg dt_lawb10 2 rfl) (Nat.le_of_ble_eq_true rfl) rfl ?_
          refine G_iconst (pc := 756) 0 X (dg dt_lawb10 3 rfl) (by decide) ?_
          refine G_istore (pc := 757) X (dg dt_lawb10 4 rfl) (Nat.le_of_ble_eq_true rfl) rfl ?_
          refine G_weak (L' := [some (.ref b), some (.ref (ad 0)), some (.ref (ad 82)), some (.ref (ad 83)), some (.ref (ad 84)), none, some (.int v6), none, some (.int v8_40), some (.int v9), none, none, none, none, some (.int 0), some (.int 0), some (.int 0), some (.int 0), none, none, none, none]) ⟨rfl, ⟨rfl, ⟨rfl, ⟨rfl, ⟨rfl, ⟨rfl, ⟨rfl, ⟨rfl, ⟨rfl, ⟨rfl, ⟨rfl, ⟨rfl, trivial⟩⟩⟩⟩⟩⟩⟩⟩⟩⟩⟩⟩ ?_
          refine s_L_law_L759 htr X hS9 hRc1 (fun v8_81 v14_82 v15_83 v16_84 σ_85 h => ?_) _ _ _ _ _ _ _ h
          refine G_iconst (pc := 932) 0 X (dg dt_lawb12 22 rfl) (by decide) ?_
          refine G_istore (pc := 933) X (dg dt_lawb12 23 rfl) (Nat.le_of_ble_eq_true rfl) rfl ?_
          refine G_aload (pc := 935) X (dg dt_lawb12 24 rfl) rfl ?_
          refine G_iload (pc := 937) X (dg dt_lawb12 25 rfl) rfl ?_
          obtain ⟨r_87, hc_86, h⟩ := cap_go h
          refine G_callS (pc := 939) (S := []) [.ref (ad 84), .int v6] nosub X (dg dt_lawb12 26 rfl) cb_L_forced w_512 w_511 (s_L_forced _ ad _ _ _ gk_84 hc_86) rfl ⟨Nat.le_of_ble_eq_true rfl, Nat.le_of_ble_eq_true rfl⟩  (Nat.le_of_ble_eq_true rfl) hRc1 ?_
          refine G_istore (pc := 942) X (dg dt_lawb12 27 rfl) (Nat.le_of_ble_eq_true rfl) rfl ?_
          refine G_iload (pc := 944) X (dg dt_lawb12 28 rfl) rfl ?_
          refine jn_go (fun j1008_88 => ∀ (s_89 : Int32) (σ_90 : St), j1008_88 s_89 σ_90 = some 1 → G θ (cs.1 + 1, cs.2 + 6) (g_SH, ad) σ_90 1008 [some (.ref b), some (.ref (ad 0)), some (.ref (ad 82)), some (.ref (ad 83)), some (.ref (ad 84)), none, some (.int v6), none, none, some (.int v9), none, none, none, none, none, none, none, some (.int 0), some (.int r_87), none, none, none] [.int s_89]) h ?_ (fun j1008_88 hj1008_88 h => ?_)
          · intro s_89 σ_90 h
            refine G_istore (pc := 1008) X (dg dt_lawb13 22 rfl) (Nat.le_of_ble_eq_true rfl) rfl ?_
            refine G_weak (L' := [some (.ref b), some (.ref (ad 0)), some (.ref (ad 82)), some (.ref (ad 83)), some (.ref (ad 84)), none, some (.int v6), none, some (.int s_89), some (.int v9), none, none, none, none, none, none, none, some (.int 0), some (.int r_87), none, none, none]) ⟨rfl, ⟨rfl, ⟨rfl, ⟨rfl, ⟨rfl, ⟨rfl, ⟨rfl, ⟨rfl, ⟨rfl, ⟨rfl, trivial⟩⟩⟩⟩⟩⟩⟩⟩⟩⟩ ?_
            refine s_L_law_L1010 htr X hS9 hRc1 (fun v17_96 σ_97 h => ?_) _ _ _ _ h
            refine G_iload (pc := 1043) X (dg dt_lawb13 39 rfl) rfl ?_
            refine jn_go (fun j1063_98 => ∀ (s_99 : Int32) (σ_100 : St), j1063_98 s_99 σ_100 = some 1 → G θ (cs.1 + 1, cs.2 + 6) (g_SH, ad) σ_100 1063 [some (.ref b), some (.ref (ad 0)), some (.ref (ad 82)), some (.ref (ad 83)), some (.ref (ad 84)), none, some (.int v6), none, none, some (.int v9), none, none, none, none, none, none, none, none, none, none, none, none] [.int s_99]) h ?_ (fun j1063_98 hj1063_98 h => ?_)
            · intro s_99 σ_100 h
              refine G_istore (pc := 1063) X (dg dt_lawb14 9 rfl) (Nat.le_of_ble_eq_true rfl) rfl ?_
              refine G_iinc (pc := 1065) (v9 + 1) X (dg dt_lawb14 10 rfl) rfl (Nat.le_of_ble_eq_true rfl) rfl rfl ?_
              refine G_goto (pc := 1068) 178 X (dg dt_lawb14 11 rfl) (by decide) ?_
              exact G_wk (ih (cs.1 + 1, cs.2 + 6) (by show cs.1 + 1 + n ≤ 600000 ∧ cs.2 + 6 + 6 * n ≤ 7000000; omega) s_99 (v9 + 1) σ_100 h) ⟨rfl, ⟨rfl, ⟨rfl, ⟨rfl, ⟨rfl, ⟨rfl, ⟨rfl, ⟨rfl, trivial⟩⟩⟩⟩⟩⟩⟩⟩
            refine jn_go (fun j1062_101 => ∀ (σ_102 : St), j1062_101 σ_102 = some 1 → G θ (cs.1 + 1, cs.2 + 6) (g_SH, ad) σ_102 1062 [some (.ref b), some (.ref (ad 0)), some (.ref (ad 82)), some (.ref (ad 83)), some (.ref (ad 84)), none, some (.int v6), none, none, some (.int v9), none, none, none, none, none, none, none, none, none, none, none, none] []) h ?_ (fun j1062_101 hj1062_101 h => ?_)
            · intro σ_102 h
              refine G_iconst (pc := 1062) 0 X (dg dt_lawb14 8 rfl) (by decide) ?_
              exact G_wk (hj1063_98 0 σ_102 h) ⟨rfl, ⟨rfl, ⟨rfl, ⟨rfl, ⟨rfl, ⟨rfl, ⟨rfl, trivial⟩⟩⟩⟩⟩⟩⟩
            refine G_if_eq (pc := 1045) 1062 X (dg dt_lawb14 0 rfl) (by decide) h (fun h => ?_) (fun h => ?_)
            · exact G_wk (hj1062_101 σ_97 h) ⟨rfl, ⟨rfl, ⟨rfl, ⟨rfl, ⟨rfl, ⟨rfl, ⟨rfl, trivial⟩⟩⟩⟩⟩⟩⟩
            · refine G_aload_n (pc := 1048) 1 X (dg dt_lawb14 1 rfl) rfl rfl ?_
              refine G_iconst (pc := 1049) 0 X (dg dt_lawb14 2 rfl) (by decide) ?_
              obtain ⟨r_104, σ_105, hc_103, h⟩ := cay_go h
              refine G_callV (pc := 1050) (S := []) [.int 0] (fun _ h => h) X (dg dt_lawb14 3 rfl) cb_Q_logic cv_Q_logic w_445 (s_Q_logic htr () ad _ _ hc_103) rfl ⟨Nat.le_of_ble_eq_true rfl, Nat.le_of_ble_eq_true rfl⟩ sh_0 rfl (Nat.le_of_ble_eq_true rfl) hRc1 ?_
              refine G_iload (pc := 1053) X (dg dt_lawb14 4 rfl) rfl ?_
              refine G_icmp_ne (pc := 1055) 1062 X (dg dt_lawb14 5 rfl) (by decide) h (fun h => ?_) (fun h => ?_)
              · exact G_wk (hj1062_101 σ_105 h) ⟨rfl, ⟨rfl, ⟨rfl, ⟨rfl, ⟨rfl, ⟨rfl, ⟨rfl, trivial⟩⟩⟩⟩⟩⟩⟩
              · refine G_iconst (pc := 1058) 1 X (dg dt_lawb14 6 rfl) (by decide) ?_
                refine G_goto (pc := 1059) 1063 X (dg dt_lawb14 7 rfl) (by decide) ?_
                exact G_wk (hj1063_98 1 σ_105 h) ⟨rfl, ⟨rfl, ⟨rfl, ⟨rfl, ⟨rfl, ⟨rfl, ⟨rfl, trivial⟩⟩⟩⟩⟩⟩⟩
          refine jn_go (fun j1007_106 => ∀ (σ_107 : St), j1007_106 σ_107 = some 1 → G θ (cs.1 + 1, cs.2 + 6) (g_SH, ad) σ_107 1007 [some (.ref b), some (.ref (ad 0)), some (.ref (ad 82)), some (.ref (ad 83)), some (.ref (ad 84)), none, some (.int v6), none, none, some (.int v9), none, none, none, none, none, none, none, some (.int 0), some (.int r_87), none, none, none] []) h ?_ (fun j1007_106 hj1007_106 h => ?_)
          · intro σ_107 h
            refine G_iconst (pc := 1007) 0 X (dg dt_lawb13 21 rfl) (by decide) ?_
            exact G_wk (hj1008_88 0 σ_107 h) ⟨rfl, ⟨rfl, ⟨rfl, ⟨rfl, ⟨rfl, ⟨rfl, ⟨rfl, ⟨rfl, ⟨rfl, trivial⟩⟩⟩⟩⟩⟩⟩⟩⟩
          refine G_if_eq (pc := 946) 1007 X (dg dt_lawb12 29 rfl) (by decide) h (fun h => ?_) (fun h => ?_)
          · exact G_wk (hj1007_106 σ_85 h) ⟨rfl, ⟨rfl, ⟨rfl, ⟨rfl, ⟨rfl, ⟨rfl, ⟨rfl, ⟨rfl, ⟨rfl, trivial⟩⟩⟩⟩⟩⟩⟩⟩⟩
          · refine G_aload_n (pc := 949) 1 X (dg dt_lawb12 30 rfl) rfl rfl ?_
            refine G_iconst (pc := 950) 0 X (dg dt_lawb12 31 rfl) (by decide) ?_
            obtain ⟨r_109, σ_110, hc_108, h⟩ := cay_go h
            refine G_callV (pc := 951) (S := []) [.int 0] (fun _ h => h) X (dg dt_lawb12 32 rfl) cb_Q_forced cv_Q_forced w_410 (s_Q_forced htr () ad _ _ hc_108) rfl ⟨Nat.le_of_ble_eq_true rfl, Nat.le_of_ble_eq_true rfl⟩ sh_0 rfl (Nat.le_of_ble_eq_true rfl) hRc1 ?_
            refine G_iload (pc := 954) X (dg dt_lawb12 33 rfl) rfl ?_
            refine G_icmp_ne (pc := 956) 1007 X (dg dt_lawb12 34 rfl) (by decide) h (fun h => ?_) (fun h => ?_)
            · exact G_wk (hj1007_106 σ_110 h) ⟨rfl, ⟨rfl, ⟨rfl, ⟨rfl, ⟨rfl, ⟨rfl, ⟨rfl, ⟨rfl, ⟨rfl, trivial⟩⟩⟩⟩⟩⟩⟩⟩⟩
            · refine G_aload_n (pc := 959) 1 X (dg dt_lawb12 35 rfl) rfl rfl ?_
              refine G_iconst (pc := 960) 0 X (dg dt_lawb12 36 rfl) (by decide) ?_
              refine G_iconst (pc := 961) 0 X (dg dt_lawb12 37 rfl) (by decide) ?_
              obtain ⟨r_112, σ_113, hc_111, h⟩ := cay_go h
              refine G_callV (pc := 962) (S := []) [.int 0, .int 0] (fun _ h => h) X (dg dt_lawb12 38 rfl) cb_Q_of cv_Q_of w_384 (s_Q_of htr () ad _ _ _ hc_111) rfl ⟨Nat.le_of_ble_eq_true rfl, Nat.le_of_ble_eq_true rfl⟩ sh_0 rfl (Nat.le_of_ble_eq_true rfl) hRc1 ?_
              refine G_iload (pc := 965) X (dg dt_lawb12 39 rfl) rfl ?_
              refine G_icmp_ne (pc := 967) 1007 X (dg dt_lawb13 0 rfl) (by decide) h (fun h => ?_) (fun h => ?_)
              · exact G_wk (hj1007_106 σ_113 h) ⟨rfl, ⟨rfl, ⟨rfl, ⟨rfl, ⟨rfl, ⟨rfl, ⟨rfl, ⟨rfl, ⟨rfl, trivial⟩⟩⟩⟩⟩⟩⟩⟩⟩
              · refine G_aload_n (pc := 970) 1 X (dg dt_lawb13 1 rfl) rfl rfl ?_
                refine G_iconst (pc := 971) 0 X (dg dt_lawb13 2 rfl) (by decide) ?_
                refine G_iconst (pc := 972) 1 X (dg dt_lawb13 3 rfl) (by decide) ?_
                obtain ⟨r_115, σ_116, hc_114, h⟩ := cay_go h
                refine G_callV (pc := 973) (S := []) [.int 0, .int 1] (fun _ h => h) X (dg dt_lawb13 4 rfl) cb_Q_of cv_Q_of w_384 (s_Q_of htr () ad _ _ _ hc_114) rfl ⟨Nat.le_of_ble_eq_true rfl, Nat.le_of_ble_eq_true rfl⟩ sh_0 rfl (Nat.le_of_ble_eq_true rfl) hRc1 ?_
                refine G_iload (pc := 976) X (dg dt_lawb13 5 rfl) rfl ?_
                refine G_icmp_ne (pc := 978) 1007 X (dg dt_lawb13 6 rfl) (by decide) h (fun h => ?_) (fun h => ?_)
                · exact G_wk (hj1007_106 σ_116 h) ⟨rfl, ⟨rfl, ⟨rfl, ⟨rfl, ⟨rfl, ⟨rfl, ⟨rfl, ⟨rfl, ⟨rfl, trivial⟩⟩⟩⟩⟩⟩⟩⟩⟩
                · refine G_aload_n (pc := 981) 1 X (dg dt_lawb13 7 rfl) rfl rfl ?_
                  refine G_iconst (pc := 982) 0 X (dg dt_lawb13 8 rfl) (by decide) ?_
                  refine G_iconst (pc := 983) 2 X (dg dt_lawb13 9 rfl) (by decide) ?_
                  obtain ⟨r_118, σ_119, hc_117, h⟩ := cay_go h
                  refine G_callV (pc := 984) (S := []) [.int 0, .int 2] (fun _ h => h) X (dg dt_lawb13 10 rfl) cb_Q_of cv_Q_of w_384 (s_Q_of htr () ad _ _ _ hc_117) rfl ⟨Nat.le_of_ble_eq_true rfl, Nat.le_of_ble_eq_true rfl⟩ sh_0 rfl (Nat.le_of_ble_eq_true rfl) hRc1 ?_
                  refine G_iload (pc := 987) X (dg dt_lawb13 11 rfl) rfl ?_
                  refine G_icmp_ne (pc := 989) 1007 X (dg dt_lawb13 12 rfl) (by decide) h (fun h => ?_) (fun h => ?_)
                  · exact G_wk (hj1007_106 σ_119 h) ⟨rfl, ⟨rfl, ⟨rfl, ⟨rfl, ⟨rfl, ⟨rfl, ⟨rfl, ⟨rfl, ⟨rfl, trivial⟩⟩⟩⟩⟩⟩⟩⟩⟩
                  · refine G_aload_n (pc := 992) 1 X (dg dt_lawb13 13 rfl) rfl rfl ?_
                    refine G_iconst (pc := 993) 0 X (dg dt_lawb13 14 rfl) (by decide) ?_
                    refine G_iconst (pc := 994) 1 X (dg dt_lawb13 15 rfl) (by decide) ?_
                    obtain ⟨r_121, σ_122, hc_120, h⟩ := cay_go h
                    refine G_callV (pc := 995) (S := []) [.int 0, .int 1] (fun _ h => h) X (dg dt_lawb13 16 rfl) cb_Q_distance cv_Q_distance w_401 (s_Q_distance htr () ad _ _ _ hc_120) rfl ⟨Nat.le_of_ble_eq_true rfl, Nat.le_of_ble_eq_true rfl⟩ sh_0 rfl (Nat.le_of_ble_eq_true rfl) hRc1 ?_
                    refine G_iload (pc := 998) X (dg dt_lawb13 17 rfl) rfl ?_
                    refine G_icmp_ne (pc := 1000) 1007 X (dg dt_lawb13 18 rfl) (by decide) h (fun h => ?_) (fun h => ?_)
                    · exact G_wk (hj1007_106 σ_122 h) ⟨rfl, ⟨rfl, ⟨rfl, ⟨rfl, ⟨rfl, ⟨rfl, ⟨rfl, ⟨rfl, ⟨rfl, trivial⟩⟩⟩⟩⟩⟩⟩⟩⟩
                    · refine G_iconst (pc := 1003) 1 X (dg dt_lawb13 19 rfl) (by decide) ?_
                      refine G_goto (pc := 1004) 1008 X (dg dt_lawb13 20 rfl) (by decide) ?_
                      exact G_wk (hj1008_88 1 σ_122 h) ⟨rfl, ⟨rfl, ⟨rfl, ⟨rfl, ⟨rfl, ⟨rfl, ⟨rfl, ⟨rfl, ⟨rfl, trivial⟩⟩⟩⟩⟩⟩⟩⟩⟩
        refine G_icmp_ge (pc := 239) 420 X (dg dt_lawb3 10 rfl) (by decide) h (fun h => ?_) (fun h => ?_)
        · refine G_iload (pc := 420) X (dg dt_lawb5 21 rfl) rfl ?_
          refine G_sipush (pc := 422) 256 X (dg dt_lawb5 22 rfl) (by decide) ?_
          refine G_idiv (pc := 425) X (dg dt_lawb5 23 rfl) h (fun q_123 h => ?_)
          refine G_iload (pc := 426) X (dg dt_lawb5 24 rfl) rfl ?_
          obtain ⟨r_125, hc_124, h⟩ := cap_go h
          refine G_callS (pc := 428) (S := []) [.int q_123, .int v6] nosub X (dg dt_lawb5 25 rfl) cb_L_up w_462 w_461 (s_L_up _ ad _ _ _ hc_124) rfl ⟨Nat.le_of_ble_eq_true rfl, Nat.le_of_ble_eq_true rfl⟩  (Nat.le_of_ble_eq_true rfl) hRc ?_
          refine G_istore (pc := 431) X (dg dt_lawb5 26 rfl) (Nat.le_of_ble_eq_true rfl) rfl ?_
          refine G_iconst (pc := 433) 1 X (dg dt_lawb5 27 rfl) (by decide) ?_
          refine G_istore (pc := 434) X (dg dt_lawb5 28 rfl) (Nat.le_of_ble_eq_true rfl) rfl ?_
          refine G_iconst (pc := 436) 0 X (dg dt_lawb5 29 rfl) (by decide) ?_
          refine G_istore (pc := 437) X (dg dt_lawb5 30 rfl) (Nat.le_of_ble_eq_true rfl) rfl ?_
          refine G_weak (L' := [some (.ref b), some (.ref (ad 0)), some (.ref (ad 82)), some (.ref (ad 83)), some (.ref (ad 84)), none, some (.int v6), none, none, some (.int v9), none, some (.int r_32), some (.int r_35), none, some (.int r_125), some (.int 1), some (.int 0), none, none, none, none, none]) ⟨rfl, ⟨rfl, ⟨rfl, ⟨rfl, ⟨rfl, ⟨rfl, ⟨rfl, ⟨rfl, ⟨rfl, ⟨rfl, ⟨rfl, ⟨rfl, trivial⟩⟩⟩⟩⟩⟩⟩⟩⟩⟩⟩⟩ ?_
          refine s_L_law_L439 htr X hS9 hRc (fun v15_131 h => ?_) _ _ _ h
          refine G_iconst (pc := 490) 0 X (dg dt_lawb6 18 rfl) (by decide) ?_
          refine G_istore (pc := 491) X (dg dt_lawb6 19 rfl) (Nat.le_of_ble_eq_true rfl) rfl ?_
          refine G_iload (pc := 493) X (dg dt_lawb6 20 rfl) rfl ?_
          refine G_istore (pc := 495) X (dg dt_lawb6 21 rfl) (Nat.le_of_ble_eq_true rfl) rfl ?_
          refine G_iconst (pc := 497) 0 X (dg dt_lawb6 22 rfl) (by decide) ?_
          refine G_istore (pc := 498) X (dg dt_lawb6 23 rfl) (Nat.le_of_ble_eq_true rfl) rfl ?_
          refine G_weak (L' := [some (.ref b), some (.ref (ad 0)), some (.ref (ad 82)), some (.ref (ad 83)), some (.ref (ad 84)), none, some (.int v6), none, none, some (.int v9), none, some (.int r_32), some (.int r_35), none, some (.int r_125), some (.int v15_131), some (.int 0), some (.int r_35), some (.int 0), none, none, none]) ⟨rfl, ⟨rfl, ⟨rfl, ⟨rfl, ⟨rfl, ⟨rfl, ⟨rfl, ⟨rfl, ⟨rfl, ⟨rfl, ⟨rfl, ⟨rfl, ⟨rfl, ⟨rfl, trivial⟩⟩⟩⟩⟩⟩⟩⟩⟩⟩⟩⟩⟩⟩ ?_
          refine s_L_law_L500 htr X hS9 hRc (fun v16_138 v18_139 h => ?_) _ _ _ _ h
          refine G_aload_n (pc := 593) 1 X (dg dt_lawb7 33 rfl) rfl rfl ?_
          refine G_iconst (pc := 594) 1 X (dg dt_lawb7 34 rfl) (by decide) ?_
          refine G_iconst (pc := 595) 0 X (dg dt_lawb7 35 rfl) (by decide) ?_
          refine G_iload (pc := 596) X (dg dt_lawb7 36 rfl) rfl ?_
          refine G_iload (pc := 598) X (dg dt_lawb7 37 rfl) rfl ?_
          refine G_iload (pc := 600) X (dg dt_lawb7 38 rfl) rfl ?_
          obtain ⟨r_141, σ_142, hc_140, h⟩ := cal_go h
          refine G_callSW (pc := 602) (S := []) (n := 6) [.ref (ad 0), .int 1, .int 0, .int r_32, .int r_125, .int r_35] X hS9.nx (dg dt_lawb7 39 rfl) w_469 w_6 ⟨by decide +kernel, by decide +kernel, by decide +kernel⟩ w_468 w_467 (s_L_act htr ad _ _ _ _ _ _ hc_140) rfl ⟨Nat.le_of_ble_eq_true rfl, Nat.le_of_ble_eq_true rfl⟩ (Nat.le_of_ble_eq_true rfl) hRm1 ?_
          refine G_iload (pc := 605) X (dg dt_lawb8 0 rfl) rfl ?_
          refine G_iload (pc := 607) X (dg dt_lawb8 1 rfl) rfl ?_
          refine jn_go (fun j631_143 => ∀ (s_144 : Int32), j631_143 s_144 = some 1 → G θ (cs.1 + 1, cs.2 + 6) (g_SH, ad) σ_142 631 [some (.ref b), some (.ref (ad 0)), some (.ref (ad 82)), some (.ref (ad 83)), some (.ref (ad 84)), none, some (.int v6), none, none, some (.int v9), none, some (.int r_32), none, none, some (.int r_125), none, none, none, some (.int v18_139), none, none, none] [.int s_144, .int r_141]) h ?_ (fun j631_143 hj631_143 h => ?_)
          · intro s_144 h
            refine jn_go (fun j639_145 => ∀ (s_146 : Int32), j639_145 s_146 = some 1 → G θ (cs.1 + 1, cs.2 + 6) (g_SH, ad) σ_142 639 [some (.ref b), some (.ref (ad 0)), some (.ref (ad 82)), some (.ref (ad 83)), some (.ref (ad 84)), none, some (.int v6), none, none, some (.int v9), none, some (.int r_32), none, none, some (.int r_125), none, none, none, some (.int v18_139), none, none, none] [.int s_146]) h ?_ (fun j639_145 hj639_145 h => ?_)
            · intro s_146 h
              refine G_istore (pc := 639) X (dg dt_lawb8 14 rfl) (Nat.le_of_ble_eq_true rfl) rfl ?_
              refine G_iconst (pc := 641) 0 X (dg dt_lawb8 15 rfl) (by decide) ?_
              refine G_istore (pc := 642) X (dg dt_lawb8 16 rfl) (Nat.le_of_ble_eq_true rfl) rfl ?_
              refine G_weak (L' := [some (.ref b), some (.ref (ad 0)), some (.ref (ad 82)), some (.ref (ad 83)), some (.ref (ad 84)), none, some (.int v6), none, some (.int s_146), some (.int v9), none, some (.int r_32), none, none, some (.int r_125), none, none, none, some (.int v18_139), some (.int 0), none, none]) ⟨rfl, ⟨rfl, ⟨rfl, ⟨rfl, ⟨rfl, ⟨rfl, ⟨rfl, ⟨rfl, ⟨rfl, ⟨rfl, ⟨rfl, ⟨rfl, trivial⟩⟩⟩⟩⟩⟩⟩⟩⟩⟩⟩⟩ ?_
              refine s_L_law_L644 htr X hS9 hRc1 (fun σ_158 h => ?_) _ _ _ h
              exact G_wk (hj747_39 s_146 σ_158 h) ⟨rfl, ⟨rfl, ⟨rfl, ⟨rfl, ⟨rfl, ⟨rfl, ⟨rfl, ⟨rfl, trivial⟩⟩⟩⟩⟩⟩⟩⟩
            refine G_icmp_ne (pc := 631) 638 X (dg dt_lawb8 10 rfl) (by decide) h (fun h => ?_) (fun h => ?_)
            · refine G_iconst (pc := 638) 0 X (dg dt_lawb8 13 rfl) (by decide) ?_
              exact G_wk (hj639_145 0 h) ⟨rfl, ⟨rfl, ⟨rfl, ⟨rfl, ⟨rfl, ⟨rfl, ⟨rfl, ⟨rfl, ⟨rfl, ⟨rfl, trivial⟩⟩⟩⟩⟩⟩⟩⟩⟩⟩
            · refine G_iconst (pc := 634) 1 X (dg dt_lawb8 11 rfl) (by decide) ?_
              refine G_goto (pc := 635) 639 X (dg dt_lawb8 12 rfl) (by decide) ?_
              exact G_wk (hj639_145 1 h) ⟨rfl, ⟨rfl, ⟨rfl, ⟨rfl, ⟨rfl, ⟨rfl, ⟨rfl, ⟨rfl, ⟨rfl, ⟨rfl, trivial⟩⟩⟩⟩⟩⟩⟩⟩⟩⟩
          refine G_icmp_ne (pc := 609) 618 X (dg dt_lawb8 2 rfl) (by decide) h (fun h => ?_) (fun h => ?_)
          · refine G_iload (pc := 618) X (dg dt_lawb8 5 rfl) rfl ?_
            refine G_if_eq (pc := 620) 628 X (dg dt_lawb8 6 rfl) (by decide) h (fun h => ?_) (fun h => ?_)
            · refine G_sipush (pc := 628) (-1003) X (dg dt_lawb8 9 rfl) (by decide) ?_
              exact G_wk (hj631_143 (-1003) h) ⟨rfl, ⟨rfl, ⟨rfl, ⟨rfl, ⟨rfl, ⟨rfl, ⟨rfl, ⟨rfl, ⟨rfl, ⟨rfl, trivial⟩⟩⟩⟩⟩⟩⟩⟩⟩⟩
            · refine G_iload (pc := 623) X (dg dt_lawb8 7 rfl) rfl ?_
              refine G_goto (pc := 625) 631 X (dg dt_lawb8 8 rfl) (by decide) ?_
              exact G_wk (hj631_143 v16_138 h) ⟨rfl, ⟨rfl, ⟨rfl, ⟨rfl, ⟨rfl, ⟨rfl, ⟨rfl, ⟨rfl, ⟨rfl, ⟨rfl, trivial⟩⟩⟩⟩⟩⟩⟩⟩⟩⟩
          · refine G_sipush (pc := 612) (-1002) X (dg dt_lawb8 3 rfl) (by decide) ?_
            refine G_goto (pc := 615) 631 X (dg dt_lawb8 4 rfl) (by decide) ?_
            exact G_wk (hj631_143 (-1002) h) ⟨rfl, ⟨rfl, ⟨rfl, ⟨rfl, ⟨rfl, ⟨rfl, ⟨rfl, ⟨rfl, ⟨rfl, ⟨rfl, trivial⟩⟩⟩⟩⟩⟩⟩⟩⟩⟩
        · refine G_iload (pc := 242) X (dg dt_lawb3 11 rfl) rfl ?_
          refine G_bipush (pc := 244) 16 X (dg dt_lawb3 12 rfl) (by decide) ?_
          obtain ⟨r_160, hc_159, h⟩ := cap_go h
          refine G_callS (pc := 246) (S := []) [.int r_29, .int 16] nosub X (dg dt_lawb3 13 rfl) cb_L_up w_462 w_461 (s_L_up _ ad _ _ _ hc_159) rfl ⟨Nat.le_of_ble_eq_true rfl, Nat.le_of_ble_eq_true rfl⟩  (Nat.le_of_ble_eq_true rfl) hRc ?_
          refine G_iconst (pc := 249) 4 X (dg dt_lawb3 14 rfl) (by decide) ?_
          refine jn_go (fun j268_161 => ∀ (s_162 : Int32), j268_161 s_162 = some 1 → G θ cs (g_SH, ad) σ 268 [some (.ref b), some (.ref (ad 0)), some (.ref (ad 82)), some (.ref (ad 83)), some (.ref (ad 84)), none, some (.int v6), none, none, some (.int v9), none, some (.int r_32), some (.int r_35), some (.int v13_36), none, none, none, none, none, none, none, none] [.int s_162]) h ?_ (fun j268_161 hj268_161 h => ?_)
          · intro s_162 h
            refine G_istore (pc := 268) X (dg dt_lawb3 23 rfl) (Nat.le_of_ble_eq_true rfl) rfl ?_
            refine G_iconst (pc := 270) 0 X (dg dt_lawb3 24 rfl) (by decide) ?_
            refine G_istore (pc := 271) X (dg dt_lawb3 25 rfl) (Nat.le_of_ble_eq_true rfl) rfl ?_
            refine G_iconst (pc := 273) 0 X (dg dt_lawb3 26 rfl) (by decide) ?_
            refine G_istore (pc := 274) X (dg dt_lawb3 27 rfl) (Nat.le_of_ble_eq_true rfl) rfl ?_
            refine G_weak (L' := [some (.ref b), some (.ref (ad 0)), some (.ref (ad 82)), some (.ref (ad 83)), some (.ref (ad 84)), none, some (.int v6), none, none, some (.int v9), none, some (.int r_32), some (.int r_35), some (.int v13_36), some (.int s_162), some (.int 0), some (.int 0), none, none, none, none, none]) ⟨rfl, ⟨rfl, ⟨rfl, ⟨rfl, ⟨rfl, ⟨rfl, ⟨rfl, ⟨rfl, ⟨rfl, ⟨rfl, ⟨rfl, ⟨rfl, ⟨rfl, trivial⟩⟩⟩⟩⟩⟩⟩⟩⟩⟩⟩⟩⟩ ?_
            refine s_L_law_L276 htr X hS9 hRc (fun v15_170 h => ?_) _ _ _ h
            refine G_iload (pc := 345) X (dg dt_lawb4 23 rfl) rfl ?_
            refine jn_go (fun j360_171 => ∀ (s_172 : Int32), j360_171 s_172 = some 1 → G θ cs (g_SH, ad) σ 360 [some (.ref b), some (.ref (ad 0)), some (.ref (ad 82)), some (.ref (ad 83)), some (.ref (ad 84)), none, some (.int v6), none, none, some (.int v9), none, some (.int r_32), some (.int r_35), some (.int v13_36), some (.int s_162), none, none, none, none, none, none, none] [.int s_172]) h ?_ (fun j360_171 hj360_171 h => ?_)
            · intro s_172 h
              refine G_istore (pc := 360) X (dg dt_lawb4 30 rfl) (Nat.le_of_ble_eq_true rfl) rfl ?_
              refine G_aload_n (pc := 362) 1 X (dg dt_lawb4 31 rfl) rfl rfl ?_
              refine G_iconst (pc := 363) 0 X (dg dt_lawb4 32 rfl) (by decide) ?_
              refine G_iconst (pc := 364) 0 X (dg dt_lawb4 33 rfl) (by decide) ?_
              refine G_iload (pc := 365) X (dg dt_lawb4 34 rfl) rfl ?_
              refine G_iload (pc := 367) X (dg dt_lawb4 35 rfl) rfl ?_
              refine G_iload (pc := 369) X (dg dt_lawb4 36 rfl) rfl ?_
              obtain ⟨r_174, σ_175, hc_173, h⟩ := cal_go h
              refine G_callSW (pc := 371) (S := []) (n := 6) [.ref (ad 0), .int 0, .int 0, .int r_32, .int r_35, .int s_162] X hS9.nx (dg dt_lawb4 37 rfl) w_469 w_6 ⟨by decide +kernel, by decide +kernel, by decide +kernel⟩ w_468 w_467 (s_L_act htr ad _ _ _ _ _ _ hc_173) rfl ⟨Nat.le_of_ble_eq_true rfl, Nat.le_of_ble_eq_true rfl⟩ (Nat.le_of_ble_eq_true rfl) hRm1 ?_
              refine G_iload (pc := 374) X (dg dt_lawb4 38 rfl) rfl ?_
              refine jn_go (fun j389_176 => ∀ (s_177 : Int32), j389_176 s_177 = some 1 → G θ (cs.1 + 1, cs.2 + 6) (g_SH, ad) σ_175 389 [some (.ref b), some (.ref (ad 0)), some (.ref (ad 82)), some (.ref (ad 83)), some (.ref (ad 84)), none, some (.int v6), none, none, some (.int v9), none, none, none, some (.int v13_36), some (.int s_162), none, some (.int s_172), none, none, none, none, none] [.int s_177, .int r_174]) h ?_ (fun j389_176 hj389_176 h => ?_)
              · intro s_177 h
                refine jn_go (fun j397_178 => ∀ (s_179 : Int32), j397_178 s_179 = some 1 → G θ (cs.1 + 1, cs.2 + 6) (g_SH, ad) σ_175 397 [some (.ref b), some (.ref (ad 0)), some (.ref (ad 82)), some (.ref (ad 83)), some (.ref (ad 84)), none, some (.int v6), none, none, some (.int v9), none, none, none, some (.int v13_36), some (.int s_162), none, some (.int s_172), none, none, none, none, none] [.int s_179]) h ?_ (fun j397_178 hj397_178 h => ?_)
                · intro s_179 h
                  refine G_istore (pc := 397) X (dg dt_lawb5 9 rfl) (Nat.le_of_ble_eq_true rfl) rfl ?_
                  refine G_aload_n (pc := 399) 2 X (dg dt_lawb5 10 rfl) rfl rfl ?_
                  refine G_iload (pc := 400) X (dg dt_lawb5 11 rfl) rfl ?_
                  refine G_iload (pc := 402) X (dg dt_lawb5 12 rfl) rfl ?_
                  refine jn_go (fun j416_180 => ∀ (s_181 : Int32), j416_180 s_181 = some 1 → G θ (cs.1 + 1, cs.2 + 6) (g_SH, ad) σ_175 416 [some (.ref b), some (.ref (ad 0)), some (.ref (ad 82)), some (.ref (ad 83)), some (.ref (ad 84)), none, some (.int v6), none, some (.int s_179), some (.int v9), none, none, none, none, none, none, none, none, none, none, none, none] [.int s_181, .int v13_36, .ref (ad 82)]) h ?_ (fun j416_180 hj416_180 h => ?_)
                  · intro s_181 h
                    refine G_iast (pc := 416) X (dg dt_lawb5 19 rfl) sh_82 h (fun σ_182 h => ?_)
                    refine G_goto (pc := 417) 747 X (dg dt_lawb5 20 rfl) (by decide) ?_
                    exact G_wk (hj747_39 s_179 σ_182 h) ⟨rfl, ⟨rfl, ⟨rfl, ⟨rfl, ⟨rfl, ⟨rfl, ⟨rfl, ⟨rfl, trivial⟩⟩⟩⟩⟩⟩⟩⟩
                  refine G_if_eq (pc := 404) 412 X (dg dt_lawb5 13 rfl) (by decide) h (fun h => ?_) (fun h => ?_)
                  · refine G_aload_n (pc := 412) 2 X (dg dt_lawb5 16 rfl) rfl rfl ?_
                    refine G_iload (pc := 413) X (dg dt_lawb5 17 rfl) rfl ?_
                    refine G_iald (pc := 415) X (dg dt_lawb5 18 rfl) sh_82 h (fun r_183 h => ?_)
                    exact G_wk (hj416_180 r_183 h) ⟨rfl, ⟨rfl, ⟨rfl, ⟨rfl, ⟨rfl, ⟨rfl, ⟨rfl, ⟨rfl, trivial⟩⟩⟩⟩⟩⟩⟩⟩
                  · refine G_iload (pc := 407) X (dg dt_lawb5 14 rfl) rfl ?_
                    refine G_goto (pc := 409) 416 X (dg dt_lawb5 15 rfl) (by decide) ?_
                    exact G_wk (hj416_180 s_162 h) ⟨rfl, ⟨rfl, ⟨rfl, ⟨rfl, ⟨rfl, ⟨rfl, ⟨rfl, ⟨rfl, trivial⟩⟩⟩⟩⟩⟩⟩⟩
                refine G_icmp_ne (pc := 389) 396 X (dg dt_lawb5 5 rfl) (by decide) h (fun h => ?_) (fun h => ?_)
                · refine G_iconst (pc := 396) 0 X (dg dt_lawb5 8 rfl) (by decide) ?_
                  exact G_wk (hj397_178 0 h) ⟨rfl, ⟨rfl, ⟨rfl, ⟨rfl, ⟨rfl, ⟨rfl, ⟨rfl, ⟨rfl, ⟨rfl, ⟨rfl, trivial⟩⟩⟩⟩⟩⟩⟩⟩⟩⟩
                · refine G_iconst (pc := 392) 1 X (dg dt_lawb5 6 rfl) (by decide) ?_
                  refine G_goto (pc := 393) 397 X (dg dt_lawb5 7 rfl) (by decide) ?_
                  exact G_wk (hj397_178 1 h) ⟨rfl, ⟨rfl, ⟨rfl, ⟨rfl, ⟨rfl, ⟨rfl, ⟨rfl, ⟨rfl, ⟨rfl, ⟨rfl, trivial⟩⟩⟩⟩⟩⟩⟩⟩⟩⟩
              refine G_if_eq (pc := 376) 386 X (dg dt_lawb4 39 rfl) (by decide) h (fun h => ?_) (fun h => ?_)
              · refine G_sipush (pc := 386) (-1003) X (dg dt_lawb5 4 rfl) (by decide) ?_
                exact G_wk (hj389_176 (-1003) h) ⟨rfl, ⟨rfl, ⟨rfl, ⟨rfl, ⟨rfl, ⟨rfl, ⟨rfl, ⟨rfl, ⟨rfl, ⟨rfl, trivial⟩⟩⟩⟩⟩⟩⟩⟩⟩⟩
              · refine G_aload_n (pc := 379) 2 X (dg dt_lawb5 0 rfl) rfl rfl ?_
                refine G_iload (pc := 380) X (dg dt_lawb5 1 rfl) rfl ?_
                refine G_iald (pc := 382) X (dg dt_lawb5 2 rfl) sh_82 h (fun r_184 h => ?_)
                refine G_goto (pc := 383) 389 X (dg dt_lawb5 3 rfl) (by decide) ?_
                exact G_wk (hj389_176 r_184 h) ⟨rfl, ⟨rfl, ⟨rfl, ⟨rfl, ⟨rfl, ⟨rfl, ⟨rfl, ⟨rfl, ⟨rfl, ⟨rfl, trivial⟩⟩⟩⟩⟩⟩⟩⟩⟩⟩
            refine jn_go (fun j355_185 => j355_185 = some 1 → G θ cs (g_SH, ad) σ 355 [some (.ref b), some (.ref (ad 0)), some (.ref (ad 82)), some (.ref (ad 83)), some (.ref (ad 84)), none, some (.int v6), none, none, some (.int v9), none, some (.int r_32), some (.int r_35), some (.int v13_36), some (.int s_162), none, none, none, none, none, none, none] []) h ?_ (fun j355_185 hj355_185 h => ?_)
            · intro  h
              refine G_iconst (pc := 355) 1 X (dg dt_lawb4 27 rfl) (by decide) ?_
              refine G_goto (pc := 356) 360 X (dg dt_lawb4 28 rfl) (by decide) ?_
              exact G_wk (hj360_171 1 h) ⟨rfl, ⟨rfl, ⟨rfl, ⟨rfl, ⟨rfl, ⟨rfl, ⟨rfl, ⟨rfl, ⟨rfl, ⟨rfl, ⟨rfl, trivial⟩⟩⟩⟩⟩⟩⟩⟩⟩⟩⟩
            refine G_if_lt (pc := 347) 355 X (dg dt_lawb4 24 rfl) (by decide) h (fun h => ?_) (fun h => ?_)
            · exact G_wk (hj355_185  h) ⟨rfl, ⟨rfl, ⟨rfl, ⟨rfl, ⟨rfl, ⟨rfl, ⟨rfl, ⟨rfl, ⟨rfl, ⟨rfl, ⟨rfl, trivial⟩⟩⟩⟩⟩⟩⟩⟩⟩⟩⟩
            · refine G_iload (pc := 350) X (dg dt_lawb4 25 rfl) rfl ?_
              refine G_if_ne (pc := 352) 359 X (dg dt_lawb4 26 rfl) (by decide) h (fun h => ?_) (fun h => ?_)
              · refine G_iconst (pc := 359) 0 X (dg dt_lawb4 29 rfl) (by decide) ?_
                exact G_wk (hj360_171 0 h) ⟨rfl, ⟨rfl, ⟨rfl, ⟨rfl, ⟨rfl, ⟨rfl, ⟨rfl, ⟨rfl, ⟨rfl, ⟨rfl, ⟨rfl, trivial⟩⟩⟩⟩⟩⟩⟩⟩⟩⟩⟩
              · exact G_wk (hj355_185  h) ⟨rfl, ⟨rfl, ⟨rfl, ⟨rfl, ⟨rfl, ⟨rfl, ⟨rfl, ⟨rfl, ⟨rfl, ⟨rfl, ⟨rfl, trivial⟩⟩⟩⟩⟩⟩⟩⟩⟩⟩⟩
          refine G_icmp_ge (pc := 250) 257 X (dg dt_lawb3 15 rfl) (by decide) h (fun h => ?_) (fun h => ?_)
          · refine G_iload (pc := 257) X (dg dt_lawb3 18 rfl) rfl ?_
            refine G_sipush (pc := 259) 256 X (dg dt_lawb3 19 rfl) (by decide) ?_
            refine G_idiv (pc := 262) X (dg dt_lawb3 20 rfl) h (fun q_186 h => ?_)
            refine G_iload (pc := 263) X (dg dt_lawb3 21 rfl) rfl ?_
            obtain ⟨r_188, hc_187, h⟩ := cap_go h
            refine G_callS (pc := 265) (S := []) [.int q_186, .int v6] nosub X (dg dt_lawb3 22 rfl) cb_L_up w_462 w_461 (s_L_up _ ad _ _ _ hc_187) rfl ⟨Nat.le_of_ble_eq_true rfl, Nat.le_of_ble_eq_true rfl⟩  (Nat.le_of_ble_eq_true rfl) hRc ?_
            exact G_wk (hj268_161 r_188 h) ⟨rfl, ⟨rfl, ⟨rfl, ⟨rfl, ⟨rfl, ⟨rfl, ⟨rfl, ⟨rfl, ⟨rfl, ⟨rfl, trivial⟩⟩⟩⟩⟩⟩⟩⟩⟩⟩
          · refine G_iconst (pc := 253) (-1) X (dg dt_lawb3 16 rfl) (by decide) ?_
            refine G_goto (pc := 254) 268 X (dg dt_lawb3 17 rfl) (by decide) ?_
            exact G_wk (hj268_161 (-1) h) ⟨rfl, ⟨rfl, ⟨rfl, ⟨rfl, ⟨rfl, ⟨rfl, ⟨rfl, ⟨rfl, ⟨rfl, ⟨rfl, trivial⟩⟩⟩⟩⟩⟩⟩⟩⟩⟩
set_option maxRecDepth 100000 in
set_option maxHeartbeats 8000000 in
theorem s_L_law {θ : Th} {ad : Nat → Nat} {cs : Nat × Nat} {b N : Nat} {xs : Nat → Int32} (htr : θ.2.1.stackTraces = false) (X : Cx θ g_strs code 22 "QuasigroveLaw" 12 448) (hS9 : Sx θ b N xs) (hR : Rm θ 600000 7000000) (hcs0 : cs.1 + 46 ≤ 600000 ∧ cs.2 + 6 * 46 ≤ 7000000)
    (hfin : ∀ (cs : Nat × Nat) (_ : cs.1 ≤ 600000 ∧ cs.2 ≤ 7000000) (σ : St) (L : LV), G θ cs (g_SH, ad) σ 1073 L [.int 1]) {σ : St} (h : f_L_law N xs σ = some 1) : G θ cs (g_SH, ad) σ 24 [some (.ref b), some (.ref (ad 0)), some (.ref (ad 82)), some (.ref (ad 83)), some (.ref (ad 84)), none, none, none, none, none, none, none, none, none, none, none, none, none, none, none, none, none] [] := by
  have hRc : Rc θ cs := Rm_rc (a := cs.1) (b := cs.2) (Rm_of hR (by omega) (by omega))
  unfold f_L_law at h
  refine G_aload_n (pc := 24) 0 X (dg dt_lawb0 13 rfl) rfl rfl ?_
  refine G_iconst (pc := 25) 0 X (dg dt_lawb0 14 rfl) (by decide) ?_
  obtain ⟨r_2, hc_1, h⟩ := cap_go h
  refine G_callSS (pc := 26) (S := []) [.ref b, .int 0] X hS9 (dg dt_lawb0 15 rfl) cb_L_cell w_465 w_464 (s_L_cell _ ad _ b N xs _ hc_1) rfl ⟨Nat.le_of_ble_eq_true rfl, Nat.le_of_ble_eq_true rfl⟩ (Nat.le_of_ble_eq_true rfl) hRc ?_
  refine G_istore (pc := 29) X (dg dt_lawb0 16 rfl) (Nat.le_of_ble_eq_true rfl) rfl ?_
  refine G_iconst (pc := 31) 2 X (dg dt_lawb0 17 rfl) (by decide) ?_
  refine G_iload (pc := 32) X (dg dt_lawb0 18 rfl) rfl ?_
  refine G_iconst (pc := 34) 4 X (dg dt_lawb0 19 rfl) (by decide) ?_
  obtain ⟨r_4, hc_3, h⟩ := cap_go h
  refine G_callS (pc := 35) (S := [.int 2]) [.int r_2, .int 4] nosub X (dg dt_lawb0 20 rfl) cb_L_up w_462 w_461 (s_L_up _ ad _ _ _ hc_3) rfl ⟨Nat.le_of_ble_eq_true rfl, Nat.le_of_ble_eq_true rfl⟩  (Nat.le_of_ble_eq_true rfl) hRc ?_
  refine G_iadd (pc := 38) X (dg dt_lawb0 21 rfl) ?_
  refine G_istore (pc := 39) X (dg dt_lawb0 22 rfl) (Nat.le_of_ble_eq_true rfl) rfl ?_
  refine G_iload (pc := 41) X (dg dt_lawb0 23 rfl) rfl ?_
  refine G_bipush (pc := 43) 16 X (dg dt_lawb0 24 rfl) (by decide) ?_
  refine G_idiv (pc := 45) X (dg dt_lawb0 25 rfl) h (fun q_5 h => ?_)
  refine G_iconst (pc := 46) 2 X (dg dt_lawb0 26 rfl) (by decide) ?_
  obtain ⟨r_7, hc_6, h⟩ := cap_go h
  refine G_callS (pc := 47) (S := []) [.int q_5, .int 2] nosub X (dg dt_lawb0 27 rfl) cb_L_up w_462 w_461 (s_L_up _ ad _ _ _ hc_6) rfl ⟨Nat.le_of_ble_eq_true rfl, Nat.le_of_ble_eq_true rfl⟩  (Nat.le_of_ble_eq_true rfl) hRc ?_
  refine jn_go (fun j58_8 => ∀ (s_9 : Int32), j58_8 s_9 = some 1 → G θ cs (g_SH, ad) σ 58 [some (.ref b), some (.ref (ad 0)), some (.ref (ad 82)), some (.ref (ad 83)), some (.ref (ad 84)), some (.int r_2), some (.int (2 + r_4)), none, none, none, none, none, none, none, none, none, none, none, none, none, none, none] [.int s_9]) h ?_ (fun j58_8 hj58_8 h => ?_)
  · intro s_9 h
    refine G_istore (pc := 58) X (dg dt_lawb0 32 rfl) (Nat.le_of_ble_eq_true rfl) rfl ?_
    refine G_iload (pc := 60) X (dg dt_lawb0 33 rfl) rfl ?_
    refine jn_go (fun j91_10 => ∀ (s_11 : Int32) (σ_12 : St), j91_10 s_11 σ_12 = some 1 → G θ cs (g_SH, ad) σ_12 91 [some (.ref b), some (.ref (ad 0)), some (.ref (ad 82)), some (.ref (ad 83)), some (.ref (ad 84)), some (.int r_2), some (.int (2 + r_4)), some (.int s_9), none, none, none, none, none, none, none, none, none, none, none, none, none, none] [.int s_11]) h ?_ (fun j91_10 hj91_10 h => ?_)
    · intro s_11 σ_12 h
      refine jn_go (fun j109_13 => ∀ (s_14 : Int32) (σ_15 : St), j109_13 s_14 σ_15 = some 1 → G θ cs (g_SH, ad) σ_15 109 [some (.ref b), some (.ref (ad 0)), some (.ref (ad 82)), some (.ref (ad 83)), some (.ref (ad 84)), some (.int r_2), some (.int (2 + r_4)), some (.int s_9), none, none, none, none, none, none, none, none, none, none, none, none, none, none] [.int s_14]) h ?_ (fun j109_13 hj109_13 h => ?_)
      · intro s_14 σ_15 h
        refine G_istore (pc := 109) X (dg dt_lawb1 19 rfl) (Nat.le_of_ble_eq_true rfl) rfl ?_
        refine G_iconst (pc := 111) 0 X (dg dt_lawb1 20 rfl) (by decide) ?_
        refine G_istore (pc := 112) X (dg dt_lawb1 21 rfl) (Nat.le_of_ble_eq_true rfl) rfl ?_
        refine G_weak (L' := [some (.ref b), some (.ref (ad 0)), some (.ref (ad 82)), some (.ref (ad 83)), some (.ref (ad 84)), some (.int r_2), some (.int (2 + r_4)), some (.int s_9), some (.int s_14), some (.int 0), none, none, none, none, none, none, none, none, none, none, none, none]) ⟨rfl, ⟨rfl, ⟨rfl, ⟨rfl, ⟨rfl, ⟨rfl, ⟨rfl, ⟨rfl, ⟨rfl, ⟨rfl, trivial⟩⟩⟩⟩⟩⟩⟩⟩⟩⟩ ?_
        refine s_L_law_L114 htr X hS9 hRc (fun σ_27 h => ?_) _ _ _ h
        refine G_iconst (pc := 175) 1 X (dg dt_lawb2 17 rfl) (by decide) ?_
        refine G_istore (pc := 176) X (dg dt_lawb2 18 rfl) (Nat.le_of_ble_eq_true rfl) rfl ?_
        refine G_weak (L' := [some (.ref b), some (.ref (ad 0)), some (.ref (ad 82)), some (.ref (ad 83)), some (.ref (ad 84)), none, some (.int (2 + r_4)), none, some (.int s_14), some (.int 1), none, none, none, none, none, none, none, none, none, none, none, none]) ⟨rfl, ⟨rfl, ⟨rfl, ⟨rfl, ⟨rfl, ⟨rfl, ⟨rfl, ⟨rfl, trivial⟩⟩⟩⟩⟩⟩⟩⟩ ?_
        refine s_L_law_L178 htr X hS9 hR (fun cs hcs v8_189 σ_190 h => ?_) 46 cs hcs0 _ _ _ h
        refine G_iload (pc := 1071) X (dg dt_lawb14 12 rfl) rfl ?_
        cases h
        exact hfin cs hcs _ _
      refine jn_go (fun j108_191 => ∀ (σ_192 : St), j108_191 σ_192 = some 1 → G θ cs (g_SH, ad) σ_192 108 [some (.ref b), some (.ref (ad 0)), some (.ref (ad 82)), some (.ref (ad 83)), some (.ref (ad 84)), some (.int r_2), some (.int (2 + r_4)), some (.int s_9), none, none, none, none, none, none, none, none, none, none, none, none, none, none] []) h ?_ (fun j108_191 hj108_191 h => ?_)
      · intro σ_192 h
        refine G_iconst (pc := 108) 0 X (dg dt_lawb1 18 rfl) (by decide) ?_
        exact G_wk (hj109_13 0 σ_192 h) ⟨rfl, ⟨rfl, ⟨rfl, ⟨rfl, ⟨rfl, ⟨rfl, ⟨rfl, ⟨rfl, trivial⟩⟩⟩⟩⟩⟩⟩⟩
      refine G_if_ne (pc := 91) 108 X (dg dt_lawb1 9 rfl) (by decide) h (fun h => ?_) (fun h => ?_)
      · exact G_wk (hj108_191 σ_12 h) ⟨rfl, ⟨rfl, ⟨rfl, ⟨rfl, ⟨rfl, ⟨rfl, ⟨rfl, ⟨rfl, trivial⟩⟩⟩⟩⟩⟩⟩⟩
      · refine G_aload_n (pc := 94) 1 X (dg dt_lawb1 10 rfl) rfl rfl ?_
        refine G_iconst (pc := 95) 0 X (dg dt_lawb1 11 rfl) (by decide) ?_
        refine G_iconst (pc := 96) 0 X (dg dt_lawb1 12 rfl) (by decide) ?_
        obtain ⟨r_194, σ_195, hc_193, h⟩ := cay_go h
        refine G_callV (pc := 97) (S := []) [.int 0, .int 0] (fun _ h => h) X (dg dt_lawb1 13 rfl) cb_Q_conjugate cv_Q_conjugate w_344 (s_Q_conjugate htr () ad _ _ _ hc_193) rfl ⟨Nat.le_of_ble_eq_true rfl, Nat.le_of_ble_eq_true rfl⟩ sh_0 rfl (Nat.le_of_ble_eq_true rfl) hRc ?_
        refine G_iconst (pc := 100) 1 X (dg dt_lawb1 14 rfl) (by decide) ?_
        refine G_icmp_ne (pc := 101) 108 X (dg dt_lawb1 15 rfl) (by decide) h (fun h => ?_) (fun h => ?_)
        · exact G_wk (hj108_191 σ_195 h) ⟨rfl, ⟨rfl, ⟨rfl, ⟨rfl, ⟨rfl, ⟨rfl, ⟨rfl, ⟨rfl, trivial⟩⟩⟩⟩⟩⟩⟩⟩
        · refine G_iconst (pc := 104) 1 X (dg dt_lawb1 16 rfl) (by decide) ?_
          refine G_goto (pc := 105) 109 X (dg dt_lawb1 17 rfl) (by decide) ?_
          exact G_wk (hj109_13 1 σ_195 h) ⟨rfl, ⟨rfl, ⟨rfl, ⟨rfl, ⟨rfl, ⟨rfl, ⟨rfl, ⟨rfl, trivial⟩⟩⟩⟩⟩⟩⟩⟩
    refine G_if_eq (pc := 62) 74 X (dg dt_lawb0 34 rfl) (by decide) h (fun h => ?_) (fun h => ?_)
    · refine G_aload_n (pc := 74) 1 X (dg dt_lawb0 39 rfl) rfl rfl ?_
      refine G_iload (pc := 75) X (dg dt_lawb1 0 rfl) rfl ?_
      refine G_iconst (pc := 77) 1 X (dg dt_lawb1 1 rfl) (by decide) ?_
      refine G_iconst (pc := 78) 1 X (dg dt_lawb1 2 rfl) (by decide) ?_
      refine G_iload (pc := 79) X (dg dt_lawb1 3 rfl) rfl ?_
      refine G_bipush (pc := 81) 32 X (dg dt_lawb1 4 rfl) (by decide) ?_
      refine G_idiv (pc := 83) X (dg dt_lawb1 5 rfl) h (fun q_196 h => ?_)
      refine G_iconst (pc := 84) 5 X (dg dt_lawb1 6 rfl) (by decide) ?_
      obtain ⟨r_198, hc_197, h⟩ := cap_go h
      refine G_callS (pc := 85) (S := [.int 1, .int 1, .int (2 + r_4), .ref (ad 0)]) [.int q_196, .int 5] nosub X (dg dt_lawb1 7 rfl) cb_L_up w_462 w_461 (s_L_up _ ad _ _ _ hc_197) rfl ⟨Nat.le_of_ble_eq_true rfl, Nat.le_of_ble_eq_true rfl⟩  (Nat.le_of_ble_eq_true rfl) hRc ?_
      obtain ⟨r_200, σ_201, hc_199, h⟩ := cay_go h
      refine G_callV (pc := 88) (S := []) [.int (2 + r_4), .int 1, .int 1, .int r_198] (fun _ h => h) X (dg dt_lawb1 8 rfl) cb_Q_linear cv_Q_linear w_322 (s_Q_linear htr () ad _ _ _ _ _ hc_199) rfl ⟨Nat.le_of_ble_eq_true rfl, Nat.le_of_ble_eq_true rfl⟩ sh_0 rfl (Nat.le_of_ble_eq_true rfl) hRc ?_
      exact G_wk (hj91_10 r_200 σ_201 h) ⟨rfl, ⟨rfl, ⟨rfl, ⟨rfl, ⟨rfl, ⟨rfl, ⟨rfl, ⟨rfl, trivial⟩⟩⟩⟩⟩⟩⟩⟩
    · refine G_aload_n (pc := 65) 1 X (dg dt_lawb0 35 rfl) rfl rfl ?_
      refine G_iload (pc := 66) X (dg dt_lawb0 36 rfl) rfl ?_
      obtain ⟨r_203, σ_204, hc_202, h⟩ := cay_go h
      refine G_callV (pc := 68) (S := []) [.int (2 + r_4)] (fun _ h => h) X (dg dt_lawb0 37 rfl) cb_Q_grid cv_Q_grid w_214 (s_Q_grid htr () ad _ _ hc_202) rfl ⟨Nat.le_of_ble_eq_true rfl, Nat.le_of_ble_eq_true rfl⟩ sh_0 rfl (Nat.le_of_ble_eq_true rfl) hRc ?_
      refine G_goto (pc := 71) 91 X (dg dt_lawb0 38 rfl) (by decide) ?_
      exact G_wk (hj91_10 r_203 σ_204 h) ⟨rfl, ⟨rfl, ⟨rfl, ⟨rfl, ⟨rfl, ⟨rfl, ⟨rfl, ⟨rfl, trivial⟩⟩⟩⟩⟩⟩⟩⟩
  refine G_if_ne (pc := 50) 57 X (dg dt_lawb0 28 rfl) (by decide) h (fun h => ?_) (fun h => ?_)
  · refine G_iconst (pc := 57) 0 X (dg dt_lawb0 31 rfl) (by decide) ?_
    exact G_wk (hj58_8 0 h) ⟨rfl, ⟨rfl, ⟨rfl, ⟨rfl, ⟨rfl, ⟨rfl, ⟨rfl, trivial⟩⟩⟩⟩⟩⟩⟩
  · refine G_iconst (pc := 53) 1 X (dg dt_lawb0 29 rfl) (by decide) ?_
    refine G_goto (pc := 54) 58 X (dg dt_lawb0 30 rfl) (by decide) ?_
    exact G_wk (hj58_8 1 h) ⟨rfl, ⟨rfl, ⟨rfl, ⟨rfl, ⟨rfl, ⟨rfl, ⟨rfl, trivial⟩⟩⟩⟩⟩⟩⟩
