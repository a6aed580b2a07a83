/-! the law's cases (printed by a program) -/
def tyL (x y : Int32) : Int64 := (x.toInt64 <<< ((32 : Int32).toInt64 &&& 63)) ||| (y.toInt64 &&& (4294967295 : Int64))
theorem w_292 : Cond.methodLink "QuasigroveLaw" 182 yX11_wipe ∈ g_GW := g_mem (i := 292) (by decide +kernel) rfl
theorem w_296 : Cond.methodLink "QuasigroveLaw" 186 yX11_fault ∈ g_GW := g_mem (i := 296) (by decide +kernel) rfl
theorem w_316 : Cond.methodLink "QuasigroveLaw" 115 yL_grid ∈ g_GW := g_mem (i := 316) (by decide +kernel) rfl
theorem w_429 : Cond.methodLink "QuasigroveLaw" 125 yL_linear ∈ g_GW := g_mem (i := 429) (by decide +kernel) rfl
theorem w_454 : Cond.methodLink "QuasigroveLaw" 129 yL_put ∈ g_GW := g_mem (i := 454) (by decide +kernel) rfl
theorem w_502 : Cond.methodLink "QuasigroveLaw" 132 yL_isotope ∈ g_GW := g_mem (i := 502) (by decide +kernel) rfl
theorem w_527 : Cond.methodLink "QuasigroveLaw" 135 yL_conjugate ∈ g_GW := g_mem (i := 527) (by decide +kernel) rfl
theorem w_537 : Cond.methodLink "QuasigroveLaw" 139 yL_cell ∈ g_GW := g_mem (i := 537) (by decide +kernel) rfl
theorem w_544 : Cond.methodLink "QuasigroveLaw" 143 yL_of ∈ g_GW := g_mem (i := 544) (by decide +kernel) rfl
theorem w_564 : Cond.methodLink "QuasigroveLaw" 146 yL_distance ∈ g_GW := g_mem (i := 564) (by decide +kernel) rfl
theorem w_571 : Cond.methodLink "QuasigroveLaw" 149 yL_turn ∈ g_GW := g_mem (i := 571) (by decide +kernel) rfl
theorem w_594 : Cond.methodLink "QuasigroveLaw" 152 yL_stir ∈ g_GW := g_mem (i := 594) (by decide +kernel) rfl
theorem w_615 : Cond.methodLink "QuasigroveLaw" 155 yL_can ∈ g_GW := g_mem (i := 615) (by decide +kernel) rfl
theorem w_623 : Cond.methodLink "QuasigroveLaw" 158 yL_fills ∈ g_GW := g_mem (i := 623) (by decide +kernel) rfl
theorem w_653 : Cond.methodLink "QuasigroveLaw" 161 yL_fillsAnew ∈ g_GW := g_mem (i := 653) (by decide +kernel) rfl
theorem w_694 : Cond.methodLink "QuasigroveLaw" 164 yL_fill ∈ g_GW := g_mem (i := 694) (by decide +kernel) rfl
theorem w_708 : Cond.methodLink "QuasigroveLaw" 167 yL_forced ∈ g_GW := g_mem (i := 708) (by decide +kernel) rfl
theorem w_742 : Cond.methodLink "QuasigroveLaw" 170 yL_logic ∈ g_GW := g_mem (i := 742) (by decide +kernel) rfl
theorem w_756 : Cond.methodLink "QuasigroveLaw" 173 yL_critical ∈ g_GW := g_mem (i := 756) (by decide +kernel) rfl
theorem w_789 : Cond.methodLink "QuasigroveLaw" 178 yL_type ∈ g_GW := g_mem (i := 789) (by decide +kernel) rfl
theorem w_810 : Cond.methodLink "QuasigroveLaw" 190 yL_breaks ∈ g_GW := g_mem (i := 810) (by decide +kernel) rfl
theorem w_830 : Cond.methodLink "QuasigroveLaw" 193 yL_unit ∈ g_GW := g_mem (i := 830) (by decide +kernel) rfl
theorem w_844 : Cond.methodLink "QuasigroveLaw" 196 yL_nucleus ∈ g_GW := g_mem (i := 844) (by decide +kernel) rfl
theorem w_866 : Cond.methodLink "QuasigroveLaw" 199 yL_closed ∈ g_GW := g_mem (i := 866) (by decide +kernel) rfl
theorem w_881 : Cond.methodLink "QuasigroveLaw" 202 yL_count ∈ g_GW := g_mem (i := 881) (by decide +kernel) rfl
theorem w_934 : Cond.methodLink "QuasigroveLaw" 205 yL_isotopies ∈ g_GW := g_mem (i := 934) (by decide +kernel) rfl
theorem w_958 : Cond.methodLink "QuasigroveLaw" 208 yL_transversals ∈ g_GW := g_mem (i := 958) (by decide +kernel) rfl
theorem w_977 : Cond.methodLink "QuasigroveLaw" 211 yL_mates ∈ g_GW := g_mem (i := 977) (by decide +kernel) rfl
theorem w_1004 : Cond.methodLink "QuasigroveLaw" 214 yL_mate ∈ g_GW := g_mem (i := 1004) (by decide +kernel) rfl
theorem w_1011 : Cond.methodLink "QuasigroveLaw" 217 yL_areMates ∈ g_GW := g_mem (i := 1011) (by decide +kernel) rfl
theorem w_1022 : Cond.methodLink "QuasigroveLaw" 220 yL_parity ∈ g_GW := g_mem (i := 1022) (by decide +kernel) rfl
theorem w_1036 : Cond.methodLink "QuasigroveLaw" 223 yL_wins ∈ g_GW := g_mem (i := 1036) (by decide +kernel) rfl
theorem w_1151 : Cond.methodLink "QuasigroveLaw" 121 yX12_thrown ∈ g_GW := g_mem (i := 1151) (by decide +kernel) rfl
theorem w_1155 : Cond.methodLink "QuasigroveLaw" 120 yX12_grid ∈ g_GW := g_mem (i := 1155) (by decide +kernel) rfl
theorem w_1167 : Cond.methodLink "QuasigroveLaw" 128 yX12_linear ∈ g_GW := g_mem (i := 1167) (by decide +kernel) rfl
theorem w_1175 : Cond.methodLink "QuasigroveLaw" 131 yX12_put ∈ g_GW := g_mem (i := 1175) (by decide +kernel) rfl
theorem w_1195 : Cond.methodLink "QuasigroveLaw" 134 yX12_isotope ∈ g_GW := g_mem (i := 1195) (by decide +kernel) rfl
theorem w_1203 : Cond.methodLink "QuasigroveLaw" 138 yX12_conjugate ∈ g_GW := g_mem (i := 1203) (by decide +kernel) rfl
theorem w_1207 : Cond.methodLink "QuasigroveLaw" 142 yX12_cell ∈ g_GW := g_mem (i := 1207) (by decide +kernel) rfl
theorem w_1211 : Cond.methodLink "QuasigroveLaw" 145 yX12_of ∈ g_GW := g_mem (i := 1211) (by decide +kernel) rfl
theorem w_1231 : Cond.methodLink "QuasigroveLaw" 148 yX12_distance ∈ g_GW := g_mem (i := 1231) (by decide +kernel) rfl
theorem w_1235 : Cond.methodLink "QuasigroveLaw" 151 yX12_turn ∈ g_GW := g_mem (i := 1235) (by decide +kernel) rfl
theorem w_1243 : Cond.methodLink "QuasigroveLaw" 154 yX12_stir ∈ g_GW := g_mem (i := 1243) (by decide +kernel) rfl
theorem w_1255 : Cond.methodLink "QuasigroveLaw" 157 yX12_can ∈ g_GW := g_mem (i := 1255) (by decide +kernel) rfl
theorem w_1259 : Cond.methodLink "QuasigroveLaw" 160 yX12_fills ∈ g_GW := g_mem (i := 1259) (by decide +kernel) rfl
theorem w_1275 : Cond.methodLink "QuasigroveLaw" 163 yX12_fillsAnew ∈ g_GW := g_mem (i := 1275) (by decide +kernel) rfl
theorem w_1279 : Cond.methodLink "QuasigroveLaw" 166 yX12_fill ∈ g_GW := g_mem (i := 1279) (by decide +kernel) rfl
theorem w_1283 : Cond.methodLink "QuasigroveLaw" 169 yX12_forced ∈ g_GW := g_mem (i := 1283) (by decide +kernel) rfl
theorem w_1295 : Cond.methodLink "QuasigroveLaw" 172 yX12_logic ∈ g_GW := g_mem (i := 1295) (by decide +kernel) rfl
theorem w_1299 : Cond.methodLink "QuasigroveLaw" 175 yX12_critical ∈ g_GW := g_mem (i := 1299) (by decide +kernel) rfl
theorem w_1307 : Cond.methodLink "QuasigroveLaw" 181 yX12_type ∈ g_GW := g_mem (i := 1307) (by decide +kernel) rfl
theorem w_1316 : Cond.methodLink "QuasigroveLaw" 185 yX12_wipe ∈ g_GW := g_mem (i := 1316) (by decide +kernel) rfl
theorem w_1320 : Cond.methodLink "QuasigroveLaw" 189 yX12_fault ∈ g_GW := g_mem (i := 1320) (by decide +kernel) rfl
theorem w_1328 : Cond.methodLink "QuasigroveLaw" 192 yX12_breaks ∈ g_GW := g_mem (i := 1328) (by decide +kernel) rfl
theorem w_1340 : Cond.methodLink "QuasigroveLaw" 195 yX12_unit ∈ g_GW := g_mem (i := 1340) (by decide +kernel) rfl
theorem w_1348 : Cond.methodLink "QuasigroveLaw" 198 yX12_nucleus ∈ g_GW := g_mem (i := 1348) (by decide +kernel) rfl
theorem w_1364 : Cond.methodLink "QuasigroveLaw" 201 yX12_closed ∈ g_GW := g_mem (i := 1364) (by decide +kernel) rfl
theorem w_1372 : Cond.methodLink "QuasigroveLaw" 204 yX12_count ∈ g_GW := g_mem (i := 1372) (by decide +kernel) rfl
theorem w_1400 : Cond.methodLink "QuasigroveLaw" 207 yX12_isotopies ∈ g_GW := g_mem (i := 1400) (by decide +kernel) rfl
theorem w_1408 : Cond.methodLink "QuasigroveLaw" 210 yX12_transversals ∈ g_GW := g_mem (i := 1408) (by decide +kernel) rfl
theorem w_1416 : Cond.methodLink "QuasigroveLaw" 213 yX12_mates ∈ g_GW := g_mem (i := 1416) (by decide +kernel) rfl
theorem w_1432 : Cond.methodLink "QuasigroveLaw" 216 yX12_mate ∈ g_GW := g_mem (i := 1432) (by decide +kernel) rfl
theorem w_1436 : Cond.methodLink "QuasigroveLaw" 219 yX12_areMates ∈ g_GW := g_mem (i := 1436) (by decide +kernel) rfl
theorem w_1440 : Cond.methodLink "QuasigroveLaw" 222 yX12_parity ∈ g_GW := g_mem (i := 1440) (by decide +kernel) rfl
theorem w_1444 : Cond.methodLink "QuasigroveLaw" 225 yX12_wins ∈ g_GW := g_mem (i := 1444) (by decide +kernel) rfl
theorem w_1460 : Cond.constantLong "QuasigroveLaw" 176 (4294967295) ∈ g_GW := g_mem (i := 1460) (by decide +kernel) rfl
def tb_law0 : List (Nat × Instr × Nat) := [(180, .aload_n 1, 1), (181, .aload_n 0, 1), (182, .iload 4, 2), (184, .iconst 1, 1), (185, .iadd, 1), (186, .iaload, 1), (187, .aload_n 3, 1), (188, .invokestatic 115, 3), (191, .istore 5, 2), (193, .aload_n 2, 1), (194, .aload_n 0, 1), (195, .iload 4, 2), (197, .iconst 1, 1), (198, .iadd, 1), (199, .iaload, 1), (200, .invokevirtual 120, 3), (203, .istore 6, 2), (205, .aload_n 2, 1), (206, .invokevirtual 121, 3), (209, .iload 5, 2), (211, .if_icmp .eq 5, 3), (214, .iconst 0, 1), (215, .ireturn, 1), (216, .iload 5, 2), (218, .ifCond .ne 15, 3), (221, .aload_n 3, 1), (222, .iconst 0, 1), (223, .laload, 1), (224, .iload 6, 2), (226, .i2l, 1), (227, .lcmp, 1), (228, .ifCond .eq 5, 3), (231, .iconst 0, 1), (232, .ireturn, 1), (233, .goto 2052, 3)]
theorem dt_law0 : decAll code tb_law0 := by unfold decAll tb_law0; decide +kernel
def tb_law1 : List (Nat × Instr × Nat) := [(236, .aload_n 1, 1), (237, .aload_n 0, 1), (238, .iload 4, 2), (240, .iconst 1, 1), (241, .iadd, 1), (242, .iaload, 1), (243, .aload_n 0, 1), (244, .iload 4, 2), (246, .iconst 2, 1), (247, .iadd, 1), (248, .iaload, 1), (249, .aload_n 0, 1), (250, .iload 4, 2), (252, .iconst 3, 1), (253, .iadd, 1), (254, .iaload, 1), (255, .aload_n 0, 1), (256, .iload 4, 2), (258, .iconst 4, 1), (259, .iadd, 1), (260, .iaload, 1), (261, .aload_n 3, 1), (262, .invokestatic 125, 3), (265, .istore 5, 2), (267, .aload_n 2, 1), (268, .aload_n 0, 1), (269, .iload 4, 2), (271, .iconst 1, 1), (272, .iadd, 1), (273, .iaload, 1), (274, .aload_n 0, 1), (275, .iload 4, 2), (277, .iconst 2, 1), (278, .iadd, 1), (279, .iaload, 1), (280, .aload_n 0, 1), (281, .iload 4, 2), (283, .iconst 3, 1), (284, .iadd, 1), (285, .iaload, 1), (286, .aload_n 0, 1), (287, .iload 4, 2), (289, .iconst 4, 1), (290, .iadd, 1), (291, .iaload, 1), (292, .invokevirtual 128, 3), (295, .istore 6, 2), (297, .aload_n 2, 1), (298, .invokevirtual 121, 3), (301, .iload 5, 2), (303, .if_icmp .eq 5, 3), (306, .iconst 0, 1), (307, .ireturn, 1), (308, .iload 5, 2), (310, .ifCond .ne 15, 3), (313, .aload_n 3, 1), (314, .iconst 0, 1), (315, .laload, 1), (316, .iload 6, 2), (318, .i2l, 1), (319, .lcmp, 1), (320, .ifCond .eq 5, 3), (323, .iconst 0, 1), (324, .ireturn, 1), (325, .goto 1960, 3)]
theorem dt_law1 : decAll code tb_law1 := by unfold decAll tb_law1; decide +kernel
def tb_law2 : List (Nat × Instr × Nat) := [(328, .aload_n 1, 1), (329, .aload_n 0, 1), (330, .iload 4, 2), (332, .iconst 1, 1), (333, .iadd, 1), (334, .iaload, 1), (335, .aload_n 0, 1), (336, .iload 4, 2), (338, .iconst 2, 1), (339, .iadd, 1), (340, .iaload, 1), (341, .aload_n 0, 1), (342, .iload 4, 2), (344, .iconst 3, 1), (345, .iadd, 1), (346, .iaload, 1), (347, .aload_n 0, 1), (348, .iload 4, 2), (350, .iconst 4, 1), (351, .iadd, 1), (352, .iaload, 1), (353, .aload_n 3, 1), (354, .invokestatic 129, 3), (357, .istore 5, 2), (359, .aload_n 2, 1), (360, .aload_n 0, 1), (361, .iload 4, 2), (363, .iconst 1, 1), (364, .iadd, 1), (365, .iaload, 1), (366, .aload_n 0, 1), (367, .iload 4, 2), (369, .iconst 2, 1), (370, .iadd, 1), (371, .iaload, 1), (372, .aload_n 0, 1), (373, .iload 4, 2), (375, .iconst 3, 1), (376, .iadd, 1), (377, .iaload, 1), (378, .aload_n 0, 1), (379, .iload 4, 2), (381, .iconst 4, 1), (382, .iadd, 1), (383, .iaload, 1), (384, .invokevirtual 131, 3), (387, .istore 6, 2), (389, .aload_n 2, 1), (390, .invokevirtual 121, 3), (393, .iload 5, 2), (395, .if_icmp .eq 5, 3), (398, .iconst 0, 1), (399, .ireturn, 1), (400, .iload 5, 2), (402, .ifCond .ne 15, 3), (405, .aload_n 3, 1), (406, .iconst 0, 1), (407, .laload, 1), (408, .iload 6, 2), (410, .i2l, 1), (411, .lcmp, 1), (412, .ifCond .eq 5, 3), (415, .iconst 0, 1), (416, .ireturn, 1), (417, .goto 1868, 3)]
theorem dt_law2 : decAll code tb_law2 := by unfold decAll tb_law2; decide +kernel
def tb_law3 : List (Nat × Instr × Nat) := [(420, .aload_n 1, 1), (421, .aload_n 0, 1), (422, .iload 4, 2), (424, .iconst 1, 1), (425, .iadd, 1), (426, .iaload, 1), (427, .aload_n 0, 1), (428, .iload 4, 2), (430, .iconst 2, 1), (431, .iadd, 1), (432, .iaload, 1), (433, .aload_n 0, 1), (434, .iload 4, 2), (436, .iconst 3, 1), (437, .iadd, 1), (438, .iaload, 1), (439, .aload_n 0, 1), (440, .iload 4, 2), (442, .iconst 4, 1), (443, .iadd, 1), (444, .iaload, 1), (445, .aload_n 3, 1), (446, .invokestatic 132, 3), (449, .istore 5, 2), (451, .aload_n 2, 1), (452, .aload_n 0, 1), (453, .iload 4, 2), (455, .iconst 1, 1), (456, .iadd, 1), (457, .iaload, 1), (458, .aload_n 0, 1), (459, .iload 4, 2), (461, .iconst 2, 1), (462, .iadd, 1), (463, .iaload, 1), (464, .aload_n 0, 1), (465, .iload 4, 2), (467, .iconst 3, 1), (468, .iadd, 1), (469, .iaload, 1), (470, .aload_n 0, 1), (471, .iload 4, 2), (473, .iconst 4, 1), (474, .iadd, 1), (475, .iaload, 1), (476, .invokevirtual 134, 3), (479, .istore 6, 2), (481, .aload_n 2, 1), (482, .invokevirtual 121, 3), (485, .iload 5, 2), (487, .if_icmp .eq 5, 3), (490, .iconst 0, 1), (491, .ireturn, 1), (492, .iload 5, 2), (494, .ifCond .ne 15, 3), (497, .aload_n 3, 1), (498, .iconst 0, 1), (499, .laload, 1), (500, .iload 6, 2), (502, .i2l, 1), (503, .lcmp, 1), (504, .ifCond .eq 5, 3), (507, .iconst 0, 1), (508, .ireturn, 1), (509, .goto 1776, 3)]
theorem dt_law3 : decAll code tb_law3 := by unfold decAll tb_law3; decide +kernel
def tb_law4 : List (Nat × Instr × Nat) := [(512, .aload_n 1, 1), (513, .aload_n 0, 1), (514, .iload 4, 2), (516, .iconst 1, 1), (517, .iadd, 1), (518, .iaload, 1), (519, .aload_n 0, 1), (520, .iload 4, 2), (522, .iconst 2, 1), (523, .iadd, 1), (524, .iaload, 1), (525, .aload_n 3, 1), (526, .invokestatic 135, 3), (529, .istore 5, 2), (531, .aload_n 2, 1), (532, .aload_n 0, 1), (533, .iload 4, 2), (535, .iconst 1, 1), (536, .iadd, 1), (537, .iaload, 1), (538, .aload_n 0, 1), (539, .iload 4, 2), (541, .iconst 2, 1), (542, .iadd, 1), (543, .iaload, 1), (544, .invokevirtual 138, 3), (547, .istore 6, 2), (549, .aload_n 2, 1), (550, .invokevirtual 121, 3), (553, .iload 5, 2), (555, .if_icmp .eq 5, 3), (558, .iconst 0, 1), (559, .ireturn, 1), (560, .iload 5, 2), (562, .ifCond .ne 15, 3), (565, .aload_n 3, 1), (566, .iconst 0, 1), (567, .laload, 1), (568, .iload 6, 2), (570, .i2l, 1), (571, .lcmp, 1), (572, .ifCond .eq 5, 3), (575, .iconst 0, 1), (576, .ireturn, 1), (577, .goto 1708, 3)]
theorem dt_law4 : decAll code tb_law4 := by unfold decAll tb_law4; decide +kernel
def tb_law5 : List (Nat × Instr × Nat) := [(580, .aload_n 1, 1), (581, .aload_n 0, 1), (582, .iload 4, 2), (584, .iconst 1, 1), (585, .iadd, 1), (586, .iaload, 1), (587, .aload_n 0, 1), (588, .iload 4, 2), (590, .iconst 2, 1), (591, .iadd, 1), (592, .iaload, 1), (593, .aload_n 0, 1), (594, .iload 4, 2), (596, .iconst 3, 1), (597, .iadd, 1), (598, .iaload, 1), (599, .aload_n 3, 1), (600, .invokestatic 139, 3), (603, .istore 5, 2), (605, .aload_n 2, 1), (606, .aload_n 0, 1), (607, .iload 4, 2), (609, .iconst 1, 1), (610, .iadd, 1), (611, .iaload, 1), (612, .aload_n 0, 1), (613, .iload 4, 2), (615, .iconst 2, 1), (616, .iadd, 1), (617, .iaload, 1), (618, .aload_n 0, 1), (619, .iload 4, 2), (621, .iconst 3, 1), (622, .iadd, 1), (623, .iaload, 1), (624, .invokevirtual 142, 3), (627, .istore 6, 2), (629, .aload_n 2, 1), (630, .invokevirtual 121, 3), (633, .iload 5, 2), (635, .if_icmp .eq 5, 3), (638, .iconst 0, 1), (639, .ireturn, 1), (640, .iload 5, 2), (642, .ifCond .ne 15, 3), (645, .aload_n 3, 1), (646, .iconst 0, 1), (647, .laload, 1), (648, .iload 6, 2), (650, .i2l, 1), (651, .lcmp, 1), (652, .ifCond .eq 5, 3), (655, .iconst 0, 1), (656, .ireturn, 1), (657, .goto 1628, 3)]
theorem dt_law5 : decAll code tb_law5 := by unfold decAll tb_law5; decide +kernel
def tb_law6 : List (Nat × Instr × Nat) := [(660, .aload_n 1, 1), (661, .aload_n 0, 1), (662, .iload 4, 2), (664, .iconst 1, 1), (665, .iadd, 1), (666, .iaload, 1), (667, .aload_n 0, 1), (668, .iload 4, 2), (670, .iconst 2, 1), (671, .iadd, 1), (672, .iaload, 1), (673, .aload_n 3, 1), (674, .invokestatic 143, 3), (677, .istore 5, 2), (679, .aload_n 2, 1), (680, .aload_n 0, 1), (681, .iload 4, 2), (683, .iconst 1, 1), (684, .iadd, 1), (685, .iaload, 1), (686, .aload_n 0, 1), (687, .iload 4, 2), (689, .iconst 2, 1), (690, .iadd, 1), (691, .iaload, 1), (692, .invokevirtual 145, 3), (695, .istore 6, 2), (697, .aload_n 2, 1), (698, .invokevirtual 121, 3), (701, .iload 5, 2), (703, .if_icmp .eq 5, 3), (706, .iconst 0, 1), (707, .ireturn, 1), (708, .iload 5, 2), (710, .ifCond .ne 15, 3), (713, .aload_n 3, 1), (714, .iconst 0, 1), (715, .laload, 1), (716, .iload 6, 2), (718, .i2l, 1), (719, .lcmp, 1), (720, .ifCond .eq 5, 3), (723, .iconst 0, 1), (724, .ireturn, 1), (725, .goto 1560, 3)]
theorem dt_law6 : decAll code tb_law6 := by unfold decAll tb_law6; decide +kernel
def tb_law7 : List (Nat × Instr × Nat) := [(728, .aload_n 1, 1), (729, .aload_n 0, 1), (730, .iload 4, 2), (732, .iconst 1, 1), (733, .iadd, 1), (734, .iaload, 1), (735, .aload_n 0, 1), (736, .iload 4, 2), (738, .iconst 2, 1), (739, .iadd, 1), (740, .iaload, 1), (741, .aload_n 3, 1), (742, .invokestatic 146, 3), (745, .istore 5, 2), (747, .aload_n 2, 1), (748, .aload_n 0, 1), (749, .iload 4, 2), (751, .iconst 1, 1), (752, .iadd, 1), (753, .iaload, 1), (754, .aload_n 0, 1), (755, .iload 4, 2), (757, .iconst 2, 1), (758, .iadd, 1), (759, .iaload, 1), (760, .invokevirtual 148, 3), (763, .istore 6, 2), (765, .aload_n 2, 1), (766, .invokevirtual 121, 3), (769, .iload 5, 2), (771, .if_icmp .eq 5, 3), (774, .iconst 0, 1), (775, .ireturn, 1), (776, .iload 5, 2), (778, .ifCond .ne 15, 3), (781, .aload_n 3, 1), (782, .iconst 0, 1), (783, .laload, 1), (784, .iload 6, 2), (786, .i2l, 1), (787, .lcmp, 1), (788, .ifCond .eq 5, 3), (791, .iconst 0, 1), (792, .ireturn, 1), (793, .goto 1492, 3)]
theorem dt_law7 : decAll code tb_law7 := by unfold decAll tb_law7; decide +kernel
def tb_law8 : List (Nat × Instr × Nat) := [(796, .aload_n 1, 1), (797, .aload_n 0, 1), (798, .iload 4, 2), (800, .iconst 1, 1), (801, .iadd, 1), (802, .iaload, 1), (803, .aload_n 0, 1), (804, .iload 4, 2), (806, .iconst 2, 1), (807, .iadd, 1), (808, .iaload, 1), (809, .aload_n 0, 1), (810, .iload 4, 2), (812, .iconst 3, 1), (813, .iadd, 1), (814, .iaload, 1), (815, .aload_n 0, 1), (816, .iload 4, 2), (818, .iconst 4, 1), (819, .iadd, 1), (820, .iaload, 1), (821, .aload_n 3, 1), (822, .invokestatic 149, 3), (825, .istore 5, 2), (827, .aload_n 2, 1), (828, .aload_n 0, 1), (829, .iload 4, 2), (831, .iconst 1, 1), (832, .iadd, 1), (833, .iaload, 1), (834, .aload_n 0, 1), (835, .iload 4, 2), (837, .iconst 2, 1), (838, .iadd, 1), (839, .iaload, 1), (840, .aload_n 0, 1), (841, .iload 4, 2), (843, .iconst 3, 1), (844, .iadd, 1), (845, .iaload, 1), (846, .aload_n 0, 1), (847, .iload 4, 2), (849, .iconst 4, 1), (850, .iadd, 1), (851, .iaload, 1), (852, .invokevirtual 151, 3), (855, .istore 6, 2), (857, .aload_n 2, 1), (858, .invokevirtual 121, 3), (861, .iload 5, 2), (863, .if_icmp .eq 5, 3), (866, .iconst 0, 1), (867, .ireturn, 1), (868, .iload 5, 2), (870, .ifCond .ne 15, 3), (873, .aload_n 3, 1), (874, .iconst 0, 1), (875, .laload, 1), (876, .iload 6, 2), (878, .i2l, 1), (879, .lcmp, 1), (880, .ifCond .eq 5, 3), (883, .iconst 0, 1), (884, .ireturn, 1), (885, .goto 1400, 3)]
theorem dt_law8 : decAll code tb_law8 := by unfold decAll tb_law8; decide +kernel
def tb_law9 : List (Nat × Instr × Nat) := [(888, .aload_n 1, 1), (889, .aload_n 0, 1), (890, .iload 4, 2), (892, .iconst 1, 1), (893, .iadd, 1), (894, .iaload, 1), (895, .aload_n 0, 1), (896, .iload 4, 2), (898, .iconst 2, 1), (899, .iadd, 1), (900, .iaload, 1), (901, .aload_n 0, 1), (902, .iload 4, 2), (904, .iconst 3, 1), (905, .iadd, 1), (906, .iaload, 1), (907, .aload_n 3, 1), (908, .invokestatic 152, 3), (911, .istore 5, 2), (913, .aload_n 2, 1), (914, .aload_n 0, 1), (915, .iload 4, 2), (917, .iconst 1, 1), (918, .iadd, 1), (919, .iaload, 1), (920, .aload_n 0, 1), (921, .iload 4, 2), (923, .iconst 2, 1), (924, .iadd, 1), (925, .iaload, 1), (926, .aload_n 0, 1), (927, .iload 4, 2), (929, .iconst 3, 1), (930, .iadd, 1), (931, .iaload, 1), (932, .invokevirtual 154, 3), (935, .istore 6, 2), (937, .aload_n 2, 1), (938, .invokevirtual 121, 3), (941, .iload 5, 2), (943, .if_icmp .eq 5, 3), (946, .iconst 0, 1), (947, .ireturn, 1), (948, .iload 5, 2), (950, .ifCond .ne 15, 3), (953, .aload_n 3, 1), (954, .iconst 0, 1), (955, .laload, 1), (956, .iload 6, 2), (958, .i2l, 1), (959, .lcmp, 1), (960, .ifCond .eq 5, 3), (963, .iconst 0, 1), (964, .ireturn, 1), (965, .goto 1320, 3)]
theorem dt_law9 : decAll code tb_law9 := by unfold decAll tb_law9; decide +kernel
def tb_law10 : List (Nat × Instr × Nat) := [(968, .aload_n 1, 1), (969, .aload_n 0, 1), (970, .iload 4, 2), (972, .iconst 1, 1), (973, .iadd, 1), (974, .iaload, 1), (975, .aload_n 0, 1), (976, .iload 4, 2), (978, .iconst 2, 1), (979, .iadd, 1), (980, .iaload, 1), (981, .aload_n 0, 1), (982, .iload 4, 2), (984, .iconst 3, 1), (985, .iadd, 1), (986, .iaload, 1), (987, .aload_n 3, 1), (988, .invokestatic 155, 3), (991, .istore 5, 2), (993, .aload_n 2, 1), (994, .aload_n 0, 1), (995, .iload 4, 2), (997, .iconst 1, 1), (998, .iadd, 1), (999, .iaload, 1), (1000, .aload_n 0, 1), (1001, .iload 4, 2), (1003, .iconst 2, 1), (1004, .iadd, 1), (1005, .iaload, 1), (1006, .aload_n 0, 1), (1007, .iload 4, 2), (1009, .iconst 3, 1), (1010, .iadd, 1), (1011, .iaload, 1), (1012, .invokevirtual 157, 3), (1015, .istore 6, 2), (1017, .aload_n 2, 1), (1018, .invokevirtual 121, 3), (1021, .iload 5, 2), (1023, .if_icmp .eq 5, 3), (1026, .iconst 0, 1), (1027, .ireturn, 1), (1028, .iload 5, 2), (1030, .ifCond .ne 15, 3), (1033, .aload_n 3, 1), (1034, .iconst 0, 1), (1035, .laload, 1), (1036, .iload 6, 2), (1038, .i2l, 1), (1039, .lcmp, 1), (1040, .ifCond .eq 5, 3), (1043, .iconst 0, 1), (1044, .ireturn, 1), (1045, .goto 1240, 3)]
theorem dt_law10 : decAll code tb_law10 := by unfold decAll tb_law10; decide +kernel
def tb_law11 : List (Nat × Instr × Nat) := [(1048, .aload_n 1, 1), (1049, .aload_n 0, 1), (1050, .iload 4, 2), (1052, .iconst 1, 1), (1053, .iadd, 1), (1054, .iaload, 1), (1055, .aload_n 0, 1), (1056, .iload 4, 2), (1058, .iconst 2, 1), (1059, .iadd, 1), (1060, .iaload, 1), (1061, .aload_n 3, 1), (1062, .invokestatic 158, 3), (1065, .istore 5, 2), (1067, .aload_n 2, 1), (1068, .aload_n 0, 1), (1069, .iload 4, 2), (1071, .iconst 1, 1), (1072, .iadd, 1), (1073, .iaload, 1), (1074, .aload_n 0, 1), (1075, .iload 4, 2), (1077, .iconst 2, 1), (1078, .iadd, 1), (1079, .iaload, 1), (1080, .invokevirtual 160, 3), (1083, .istore 6, 2), (1085, .aload_n 2, 1), (1086, .invokevirtual 121, 3), (1089, .iload 5, 2), (1091, .if_icmp .eq 5, 3), (1094, .iconst 0, 1), (1095, .ireturn, 1), (1096, .iload 5, 2), (1098, .ifCond .ne 15, 3), (1101, .aload_n 3, 1), (1102, .iconst 0, 1), (1103, .laload, 1), (1104, .iload 6, 2), (1106, .i2l, 1), (1107, .lcmp, 1), (1108, .ifCond .eq 5, 3), (1111, .iconst 0, 1), (1112, .ireturn, 1), (1113, .goto 1172, 3)]
theorem dt_law11 : decAll code tb_law11 := by unfold decAll tb_law11; decide +kernel
def tb_law12 : List (Nat × Instr × Nat) := [(1116, .aload_n 1, 1), (1117, .aload_n 0, 1), (1118, .iload 4, 2), (1120, .iconst 1, 1), (1121, .iadd, 1), (1122, .iaload, 1), (1123, .aload_n 0, 1), (1124, .iload 4, 2), (1126, .iconst 2, 1), (1127, .iadd, 1), (1128, .iaload, 1), (1129, .aload_n 3, 1), (1130, .invokestatic 161, 3), (1133, .istore 5, 2), (1135, .aload_n 2, 1), (1136, .aload_n 0, 1), (1137, .iload 4, 2), (1139, .iconst 1, 1), (1140, .iadd, 1), (1141, .iaload, 1), (1142, .aload_n 0, 1), (1143, .iload 4, 2), (1145, .iconst 2, 1), (1146, .iadd, 1), (1147, .iaload, 1), (1148, .invokevirtual 163, 3), (1151, .istore 6, 2), (1153, .aload_n 2, 1), (1154, .invokevirtual 121, 3), (1157, .iload 5, 2), (1159, .if_icmp .eq 5, 3), (1162, .iconst 0, 1), (1163, .ireturn, 1), (1164, .iload 5, 2), (1166, .ifCond .ne 15, 3), (1169, .aload_n 3, 1), (1170, .iconst 0, 1), (1171, .laload, 1), (1172, .iload 6, 2), (1174, .i2l, 1), (1175, .lcmp, 1), (1176, .ifCond .eq 5, 3), (1179, .iconst 0, 1), (1180, .ireturn, 1), (1181, .goto 1104, 3)]
theorem dt_law12 : decAll code tb_law12 := by unfold decAll tb_law12; decide +kernel
def tb_law13 : List (Nat × Instr × Nat) := [(1184, .aload_n 1, 1), (1185, .aload_n 0, 1), (1186, .iload 4, 2), (1188, .iconst 1, 1), (1189, .iadd, 1), (1190, .iaload, 1), (1191, .aload_n 3, 1), (1192, .invokestatic 164, 3), (1195, .istore 5, 2), (1197, .aload_n 2, 1), (1198, .aload_n 0, 1), (1199, .iload 4, 2), (1201, .iconst 1, 1), (1202, .iadd, 1), (1203, .iaload, 1), (1204, .invokevirtual 166, 3), (1207, .istore 6, 2), (1209, .aload_n 2, 1), (1210, .invokevirtual 121, 3), (1213, .iload 5, 2), (1215, .if_icmp .eq 5, 3), (1218, .iconst 0, 1), (1219, .ireturn, 1), (1220, .iload 5, 2), (1222, .ifCond .ne 15, 3), (1225, .aload_n 3, 1), (1226, .iconst 0, 1), (1227, .laload, 1), (1228, .iload 6, 2), (1230, .i2l, 1), (1231, .lcmp, 1), (1232, .ifCond .eq 5, 3), (1235, .iconst 0, 1), (1236, .ireturn, 1), (1237, .goto 1048, 3)]
theorem dt_law13 : decAll code tb_law13 := by unfold decAll tb_law13; decide +kernel
def tb_law14 : List (Nat × Instr × Nat) := [(1240, .aload_n 1, 1), (1241, .aload_n 0, 1), (1242, .iload 4, 2), (1244, .iconst 1, 1), (1245, .iadd, 1), (1246, .iaload, 1), (1247, .aload_n 3, 1), (1248, .invokestatic 167, 3), (1251, .istore 5, 2), (1253, .aload_n 2, 1), (1254, .aload_n 0, 1), (1255, .iload 4, 2), (1257, .iconst 1, 1), (1258, .iadd, 1), (1259, .iaload, 1), (1260, .invokevirtual 169, 3), (1263, .istore 6, 2), (1265, .aload_n 2, 1), (1266, .invokevirtual 121, 3), (1269, .iload 5, 2), (1271, .if_icmp .eq 5, 3), (1274, .iconst 0, 1), (1275, .ireturn, 1), (1276, .iload 5, 2), (1278, .ifCond .ne 15, 3), (1281, .aload_n 3, 1), (1282, .iconst 0, 1), (1283, .laload, 1), (1284, .iload 6, 2), (1286, .i2l, 1), (1287, .lcmp, 1), (1288, .ifCond .eq 5, 3), (1291, .iconst 0, 1), (1292, .ireturn, 1), (1293, .goto 992, 3)]
theorem dt_law14 : decAll code tb_law14 := by unfold decAll tb_law14; decide +kernel
def tb_law15 : List (Nat × Instr × Nat) := [(1296, .aload_n 1, 1), (1297, .aload_n 0, 1), (1298, .iload 4, 2), (1300, .iconst 1, 1), (1301, .iadd, 1), (1302, .iaload, 1), (1303, .aload_n 3, 1), (1304, .invokestatic 170, 3), (1307, .istore 5, 2), (1309, .aload_n 2, 1), (1310, .aload_n 0, 1), (1311, .iload 4, 2), (1313, .iconst 1, 1), (1314, .iadd, 1), (1315, .iaload, 1), (1316, .invokevirtual 172, 3), (1319, .istore 6, 2), (1321, .aload_n 2, 1), (1322, .invokevirtual 121, 3), (1325, .iload 5, 2), (1327, .if_icmp .eq 5, 3), (1330, .iconst 0, 1), (1331, .ireturn, 1), (1332, .iload 5, 2), (1334, .ifCond .ne 15, 3), (1337, .aload_n 3, 1), (1338, .iconst 0, 1), (1339, .laload, 1), (1340, .iload 6, 2), (1342, .i2l, 1), (1343, .lcmp, 1), (1344, .ifCond .eq 5, 3), (1347, .iconst 0, 1), (1348, .ireturn, 1), (1349, .goto 936, 3)]
theorem dt_law15 : decAll code tb_law15 := by unfold decAll tb_law15; decide +kernel
def tb_law16 : List (Nat × Instr × Nat) := [(1352, .aload_n 1, 1), (1353, .aload_n 0, 1), (1354, .iload 4, 2), (1356, .iconst 1, 1), (1357, .iadd, 1), (1358, .iaload, 1), (1359, .aload_n 3, 1), (1360, .invokestatic 173, 3), (1363, .istore 5, 2), (1365, .aload_n 2, 1), (1366, .aload_n 0, 1), (1367, .iload 4, 2), (1369, .iconst 1, 1), (1370, .iadd, 1), (1371, .iaload, 1), (1372, .invokevirtual 175, 3), (1375, .istore 6, 2), (1377, .aload_n 2, 1), (1378, .invokevirtual 121, 3), (1381, .iload 5, 2), (1383, .if_icmp .eq 5, 3), (1386, .iconst 0, 1), (1387, .ireturn, 1), (1388, .iload 5, 2), (1390, .ifCond .ne 15, 3), (1393, .aload_n 3, 1), (1394, .iconst 0, 1), (1395, .laload, 1), (1396, .iload 6, 2), (1398, .i2l, 1), (1399, .lcmp, 1), (1400, .ifCond .eq 5, 3), (1403, .iconst 0, 1), (1404, .ireturn, 1), (1405, .goto 880, 3)]
theorem dt_law16 : decAll code tb_law16 := by unfold decAll tb_law16; decide +kernel
def tb_law17 : List (Nat × Instr × Nat) := [(1408, .aload_n 1, 1), (1409, .aload_n 0, 1), (1410, .iload 4, 2), (1412, .iconst 1, 1), (1413, .iadd, 1), (1414, .iaload, 1), (1415, .i2l, 1), (1416, .bipush 32, 2), (1418, .lshl, 1), (1419, .aload_n 0, 1), (1420, .iload 4, 2), (1422, .iconst 2, 1), (1423, .iadd, 1), (1424, .iaload, 1), (1425, .i2l, 1), (1426, .ldc2_w 176, 3), (1429, .land, 1), (1430, .lor, 1), (1431, .aload_n 0, 1), (1432, .iload 4, 2), (1434, .iconst 3, 1), (1435, .iadd, 1), (1436, .iaload, 1), (1437, .aload_n 3, 1), (1438, .invokestatic 178, 3), (1441, .istore 5, 2), (1443, .aload_n 2, 1), (1444, .aload_n 0, 1), (1445, .iload 4, 2), (1447, .iconst 1, 1), (1448, .iadd, 1), (1449, .iaload, 1), (1450, .i2l, 1), (1451, .bipush 32, 2), (1453, .lshl, 1), (1454, .aload_n 0, 1), (1455, .iload 4, 2), (1457, .iconst 2, 1), (1458, .iadd, 1), (1459, .iaload, 1), (1460, .i2l, 1), (1461, .ldc2_w 176, 3), (1464, .land, 1), (1465, .lor, 1), (1466, .aload_n 0, 1), (1467, .iload 4, 2), (1469, .iconst 3, 1), (1470, .iadd, 1), (1471, .iaload, 1), (1472, .invokevirtual 181, 3), (1475, .istore 6, 2), (1477, .aload_n 2, 1), (1478, .invokevirtual 121, 3), (1481, .iload 5, 2), (1483, .if_icmp .eq 5, 3), (1486, .iconst 0, 1), (1487, .ireturn, 1), (1488, .iload 5, 2), (1490, .ifCond .ne 15, 3), (1493, .aload_n 3, 1), (1494, .iconst 0, 1), (1495, .laload, 1), (1496, .iload 6, 2), (1498, .i2l, 1), (1499, .lcmp, 1), (1500, .ifCond .eq 5, 3), (1503, .iconst 0, 1), (1504, .ireturn, 1), (1505, .goto 780, 3)]
theorem dt_law17 : decAll code tb_law17 := by unfold decAll tb_law17; decide +kernel
def tb_law18 : List (Nat × Instr × Nat) := [(1508, .aload_n 1, 1), (1509, .invokevirtual 182, 3), (1512, .aload_n 2, 1), (1513, .invokevirtual 185, 3), (1516, .if_icmp .eq 769, 3), (1519, .iconst 0, 1), (1520, .ireturn, 1)]
theorem dt_law18 : decAll code tb_law18 := by unfold decAll tb_law18; decide +kernel
def tb_law19 : List (Nat × Instr × Nat) := [(1521, .aload_n 1, 1), (1522, .invokevirtual 186, 3), (1525, .aload_n 2, 1), (1526, .invokevirtual 189, 3), (1529, .if_icmp .eq 756, 3), (1532, .iconst 0, 1), (1533, .ireturn, 1)]
theorem dt_law19 : decAll code tb_law19 := by unfold decAll tb_law19; decide +kernel
def tb_law20 : List (Nat × Instr × Nat) := [(1534, .aload_n 1, 1), (1535, .aload_n 0, 1), (1536, .iload 4, 2), (1538, .iconst 1, 1), (1539, .iadd, 1), (1540, .iaload, 1), (1541, .aload_n 3, 1), (1542, .invokestatic 190, 3), (1545, .istore 5, 2), (1547, .aload_n 2, 1), (1548, .aload_n 0, 1), (1549, .iload 4, 2), (1551, .iconst 1, 1), (1552, .iadd, 1), (1553, .iaload, 1), (1554, .invokevirtual 192, 3), (1557, .istore 6, 2), (1559, .aload_n 2, 1), (1560, .invokevirtual 121, 3), (1563, .iload 5, 2), (1565, .if_icmp .eq 5, 3), (1568, .iconst 0, 1), (1569, .ireturn, 1), (1570, .iload 5, 2), (1572, .ifCond .ne 15, 3), (1575, .aload_n 3, 1), (1576, .iconst 0, 1), (1577, .laload, 1), (1578, .iload 6, 2), (1580, .i2l, 1), (1581, .lcmp, 1), (1582, .ifCond .eq 5, 3), (1585, .iconst 0, 1), (1586, .ireturn, 1), (1587, .goto 698, 3)]
theorem dt_law20 : decAll code tb_law20 := by unfold decAll tb_law20; decide +kernel
def tb_law21 : List (Nat × Instr × Nat) := [(1590, .aload_n 1, 1), (1591, .aload_n 0, 1), (1592, .iload 4, 2), (1594, .iconst 1, 1), (1595, .iadd, 1), (1596, .iaload, 1), (1597, .aload_n 3, 1), (1598, .invokestatic 193, 3), (1601, .istore 5, 2), (1603, .aload_n 2, 1), (1604, .aload_n 0, 1), (1605, .iload 4, 2), (1607, .iconst 1, 1), (1608, .iadd, 1), (1609, .iaload, 1), (1610, .invokevirtual 195, 3), (1613, .istore 6, 2), (1615, .aload_n 2, 1), (1616, .invokevirtual 121, 3), (1619, .iload 5, 2), (1621, .if_icmp .eq 5, 3), (1624, .iconst 0, 1), (1625, .ireturn, 1), (1626, .iload 5, 2), (1628, .ifCond .ne 15, 3), (1631, .aload_n 3, 1), (1632, .iconst 0, 1), (1633, .laload, 1), (1634, .iload 6, 2), (1636, .i2l, 1), (1637, .lcmp, 1), (1638, .ifCond .eq 5, 3), (1641, .iconst 0, 1), (1642, .ireturn, 1), (1643, .goto 642, 3)]
theorem dt_law21 : decAll code tb_law21 := by unfold decAll tb_law21; decide +kernel
def tb_law22 : List (Nat × Instr × Nat) := [(1646, .aload_n 1, 1), (1647, .aload_n 0, 1), (1648, .iload 4, 2), (1650, .iconst 1, 1), (1651, .iadd, 1), (1652, .iaload, 1), (1653, .aload_n 0, 1), (1654, .iload 4, 2), (1656, .iconst 2, 1), (1657, .iadd, 1), (1658, .iaload, 1), (1659, .aload_n 3, 1), (1660, .invokestatic 196, 3), (1663, .istore 5, 2), (1665, .aload_n 2, 1), (1666, .aload_n 0, 1), (1667, .iload 4, 2), (1669, .iconst 1, 1), (1670, .iadd, 1), (1671, .iaload, 1), (1672, .aload_n 0, 1), (1673, .iload 4, 2), (1675, .iconst 2, 1), (1676, .iadd, 1), (1677, .iaload, 1), (1678, .invokevirtual 198, 3), (1681, .istore 6, 2), (1683, .aload_n 2, 1), (1684, .invokevirtual 121, 3), (1687, .iload 5, 2), (1689, .if_icmp .eq 5, 3), (1692, .iconst 0, 1), (1693, .ireturn, 1), (1694, .iload 5, 2), (1696, .ifCond .ne 15, 3), (1699, .aload_n 3, 1), (1700, .iconst 0, 1), (1701, .laload, 1), (1702, .iload 6, 2), (1704, .i2l, 1), (1705, .lcmp, 1), (1706, .ifCond .eq 5, 3), (1709, .iconst 0, 1), (1710, .ireturn, 1), (1711, .goto 574, 3)]
theorem dt_law22 : decAll code tb_law22 := by unfold decAll tb_law22; decide +kernel
def tb_law23 : List (Nat × Instr × Nat) := [(1714, .aload_n 1, 1), (1715, .aload_n 0, 1), (1716, .iload 4, 2), (1718, .iconst 1, 1), (1719, .iadd, 1), (1720, .iaload, 1), (1721, .aload_n 0, 1), (1722, .iload 4, 2), (1724, .iconst 2, 1), (1725, .iadd, 1), (1726, .iaload, 1), (1727, .aload_n 3, 1), (1728, .invokestatic 199, 3), (1731, .istore 5, 2), (1733, .aload_n 2, 1), (1734, .aload_n 0, 1), (1735, .iload 4, 2), (1737, .iconst 1, 1), (1738, .iadd, 1), (1739, .iaload, 1), (1740, .aload_n 0, 1), (1741, .iload 4, 2), (1743, .iconst 2, 1), (1744, .iadd, 1), (1745, .iaload, 1), (1746, .invokevirtual 201, 3), (1749, .istore 6, 2), (1751, .aload_n 2, 1), (1752, .invokevirtual 121, 3), (1755, .iload 5, 2), (1757, .if_icmp .eq 5, 3), (1760, .iconst 0, 1), (1761, .ireturn, 1), (1762, .iload 5, 2), (1764, .ifCond .ne 15, 3), (1767, .aload_n 3, 1), (1768, .iconst 0, 1), (1769, .laload, 1), (1770, .iload 6, 2), (1772, .i2l, 1), (1773, .lcmp, 1), (1774, .ifCond .eq 5, 3), (1777, .iconst 0, 1), (1778, .ireturn, 1), (1779, .goto 506, 3)]
theorem dt_law23 : decAll code tb_law23 := by unfold decAll tb_law23; decide +kernel
def tb_law24 : List (Nat × Instr × Nat) := [(1782, .aload_n 1, 1), (1783, .aload_n 0, 1), (1784, .iload 4, 2), (1786, .iconst 1, 1), (1787, .iadd, 1), (1788, .iaload, 1), (1789, .aload_n 0, 1), (1790, .iload 4, 2), (1792, .iconst 2, 1), (1793, .iadd, 1), (1794, .iaload, 1), (1795, .aload_n 3, 1), (1796, .invokestatic 202, 3), (1799, .istore 5, 2), (1801, .aload_n 2, 1), (1802, .aload_n 0, 1), (1803, .iload 4, 2), (1805, .iconst 1, 1), (1806, .iadd, 1), (1807, .iaload, 1), (1808, .aload_n 0, 1), (1809, .iload 4, 2), (1811, .iconst 2, 1), (1812, .iadd, 1), (1813, .iaload, 1), (1814, .invokevirtual 204, 3), (1817, .istore 6, 2), (1819, .aload_n 2, 1), (1820, .invokevirtual 121, 3), (1823, .iload 5, 2), (1825, .if_icmp .eq 5, 3), (1828, .iconst 0, 1), (1829, .ireturn, 1), (1830, .iload 5, 2), (1832, .ifCond .ne 15, 3), (1835, .aload_n 3, 1), (1836, .iconst 0, 1), (1837, .laload, 1), (1838, .iload 6, 2), (1840, .i2l, 1), (1841, .lcmp, 1), (1842, .ifCond .eq 5, 3), (1845, .iconst 0, 1), (1846, .ireturn, 1), (1847, .goto 438, 3)]
theorem dt_law24 : decAll code tb_law24 := by unfold decAll tb_law24; decide +kernel
def tb_law25 : List (Nat × Instr × Nat) := [(1850, .aload_n 1, 1), (1851, .aload_n 0, 1), (1852, .iload 4, 2), (1854, .iconst 1, 1), (1855, .iadd, 1), (1856, .iaload, 1), (1857, .aload_n 0, 1), (1858, .iload 4, 2), (1860, .iconst 2, 1), (1861, .iadd, 1), (1862, .iaload, 1), (1863, .aload_n 3, 1), (1864, .invokestatic 205, 3), (1867, .istore 5, 2), (1869, .aload_n 2, 1), (1870, .aload_n 0, 1), (1871, .iload 4, 2), (1873, .iconst 1, 1), (1874, .iadd, 1), (1875, .iaload, 1), (1876, .aload_n 0, 1), (1877, .iload 4, 2), (1879, .iconst 2, 1), (1880, .iadd, 1), (1881, .iaload, 1), (1882, .invokevirtual 207, 3), (1885, .istore 6, 2), (1887, .aload_n 2, 1), (1888, .invokevirtual 121, 3), (1891, .iload 5, 2), (1893, .if_icmp .eq 5, 3), (1896, .iconst 0, 1), (1897, .ireturn, 1), (1898, .iload 5, 2), (1900, .ifCond .ne 15, 3), (1903, .aload_n 3, 1), (1904, .iconst 0, 1), (1905, .laload, 1), (1906, .iload 6, 2), (1908, .i2l, 1), (1909, .lcmp, 1), (1910, .ifCond .eq 5, 3), (1913, .iconst 0, 1), (1914, .ireturn, 1), (1915, .goto 370, 3)]
theorem dt_law25 : decAll code tb_law25 := by unfold decAll tb_law25; decide +kernel
def tb_law26 : List (Nat × Instr × Nat) := [(1918, .aload_n 1, 1), (1919, .aload_n 0, 1), (1920, .iload 4, 2), (1922, .iconst 1, 1), (1923, .iadd, 1), (1924, .iaload, 1), (1925, .aload_n 3, 1), (1926, .invokestatic 208, 3), (1929, .istore 5, 2), (1931, .aload_n 2, 1), (1932, .aload_n 0, 1), (1933, .iload 4, 2), (1935, .iconst 1, 1), (1936, .iadd, 1), (1937, .iaload, 1), (1938, .invokevirtual 210, 3), (1941, .istore 6, 2), (1943, .aload_n 2, 1), (1944, .invokevirtual 121, 3), (1947, .iload 5, 2), (1949, .if_icmp .eq 5, 3), (1952, .iconst 0, 1), (1953, .ireturn, 1), (1954, .iload 5, 2), (1956, .ifCond .ne 15, 3), (1959, .aload_n 3, 1), (1960, .iconst 0, 1), (1961, .laload, 1), (1962, .iload 6, 2), (1964, .i2l, 1), (1965, .lcmp, 1), (1966, .ifCond .eq 5, 3), (1969, .iconst 0, 1), (1970, .ireturn, 1), (1971, .goto 314, 3)]
theorem dt_law26 : decAll code tb_law26 := by unfold decAll tb_law26; decide +kernel
def tb_law27 : List (Nat × Instr × Nat) := [(1974, .aload_n 1, 1), (1975, .aload_n 0, 1), (1976, .iload 4, 2), (1978, .iconst 1, 1), (1979, .iadd, 1), (1980, .iaload, 1), (1981, .aload_n 3, 1), (1982, .invokestatic 211, 3), (1985, .istore 5, 2), (1987, .aload_n 2, 1), (1988, .aload_n 0, 1), (1989, .iload 4, 2), (1991, .iconst 1, 1), (1992, .iadd, 1), (1993, .iaload, 1), (1994, .invokevirtual 213, 3), (1997, .istore 6, 2), (1999, .aload_n 2, 1), (2000, .invokevirtual 121, 3), (2003, .iload 5, 2), (2005, .if_icmp .eq 5, 3), (2008, .iconst 0, 1), (2009, .ireturn, 1), (2010, .iload 5, 2), (2012, .ifCond .ne 15, 3), (2015, .aload_n 3, 1), (2016, .iconst 0, 1), (2017, .laload, 1), (2018, .iload 6, 2), (2020, .i2l, 1), (2021, .lcmp, 1), (2022, .ifCond .eq 5, 3), (2025, .iconst 0, 1), (2026, .ireturn, 1), (2027, .goto 258, 3)]
theorem dt_law27 : decAll code tb_law27 := by unfold decAll tb_law27; decide +kernel
def tb_law28 : List (Nat × Instr × Nat) := [(2030, .aload_n 1, 1), (2031, .aload_n 0, 1), (2032, .iload 4, 2), (2034, .iconst 1, 1), (2035, .iadd, 1), (2036, .iaload, 1), (2037, .aload_n 3, 1), (2038, .invokestatic 214, 3), (2041, .istore 5, 2), (2043, .aload_n 2, 1), (2044, .aload_n 0, 1), (2045, .iload 4, 2), (2047, .iconst 1, 1), (2048, .iadd, 1), (2049, .iaload, 1), (2050, .invokevirtual 216, 3), (2053, .istore 6, 2), (2055, .aload_n 2, 1), (2056, .invokevirtual 121, 3), (2059, .iload 5, 2), (2061, .if_icmp .eq 5, 3), (2064, .iconst 0, 1), (2065, .ireturn, 1), (2066, .iload 5, 2), (2068, .ifCond .ne 15, 3), (2071, .aload_n 3, 1), (2072, .iconst 0, 1), (2073, .laload, 1), (2074, .iload 6, 2), (2076, .i2l, 1), (2077, .lcmp, 1), (2078, .ifCond .eq 5, 3), (2081, .iconst 0, 1), (2082, .ireturn, 1), (2083, .goto 202, 3)]
theorem dt_law28 : decAll code tb_law28 := by unfold decAll tb_law28; decide +kernel
def tb_law29 : List (Nat × Instr × Nat) := [(2086, .aload_n 1, 1), (2087, .aload_n 0, 1), (2088, .iload 4, 2), (2090, .iconst 1, 1), (2091, .iadd, 1), (2092, .iaload, 1), (2093, .aload_n 0, 1), (2094, .iload 4, 2), (2096, .iconst 2, 1), (2097, .iadd, 1), (2098, .iaload, 1), (2099, .aload_n 3, 1), (2100, .invokestatic 217, 3), (2103, .istore 5, 2), (2105, .aload_n 2, 1), (2106, .aload_n 0, 1), (2107, .iload 4, 2), (2109, .iconst 1, 1), (2110, .iadd, 1), (2111, .iaload, 1), (2112, .aload_n 0, 1), (2113, .iload 4, 2), (2115, .iconst 2, 1), (2116, .iadd, 1), (2117, .iaload, 1), (2118, .invokevirtual 219, 3), (2121, .istore 6, 2), (2123, .aload_n 2, 1), (2124, .invokevirtual 121, 3), (2127, .iload 5, 2), (2129, .if_icmp .eq 5, 3), (2132, .iconst 0, 1), (2133, .ireturn, 1), (2134, .iload 5, 2), (2136, .ifCond .ne 22, 3), (2139, .aload_n 3, 1), (2140, .iconst 0, 1), (2141, .laload, 1), (2142, .iload 6, 2), (2144, .ifCond .eq 7, 3), (2147, .lconst 1, 1), (2148, .goto 4, 3), (2151, .lconst 0, 1), (2152, .lcmp, 1), (2153, .ifCond .eq 5, 3), (2156, .iconst 0, 1), (2157, .ireturn, 1), (2158, .goto 127, 3)]
theorem dt_law29 : decAll code tb_law29 := by unfold decAll tb_law29; decide +kernel
def tb_law30 : List (Nat × Instr × Nat) := [(2161, .aload_n 1, 1), (2162, .aload_n 0, 1), (2163, .iload 4, 2), (2165, .iconst 1, 1), (2166, .iadd, 1), (2167, .iaload, 1), (2168, .aload_n 0, 1), (2169, .iload 4, 2), (2171, .iconst 2, 1), (2172, .iadd, 1), (2173, .iaload, 1), (2174, .aload_n 3, 1), (2175, .invokestatic 220, 3), (2178, .istore 5, 2), (2180, .aload_n 2, 1), (2181, .aload_n 0, 1), (2182, .iload 4, 2), (2184, .iconst 1, 1), (2185, .iadd, 1), (2186, .iaload, 1), (2187, .aload_n 0, 1), (2188, .iload 4, 2), (2190, .iconst 2, 1), (2191, .iadd, 1), (2192, .iaload, 1), (2193, .invokevirtual 222, 3), (2196, .istore 6, 2), (2198, .aload_n 2, 1), (2199, .invokevirtual 121, 3), (2202, .iload 5, 2), (2204, .if_icmp .eq 5, 3), (2207, .iconst 0, 1), (2208, .ireturn, 1), (2209, .iload 5, 2), (2211, .ifCond .ne 15, 3), (2214, .aload_n 3, 1), (2215, .iconst 0, 1), (2216, .laload, 1), (2217, .iload 6, 2), (2219, .i2l, 1), (2220, .lcmp, 1), (2221, .ifCond .eq 5, 3), (2224, .iconst 0, 1), (2225, .ireturn, 1), (2226, .goto 59, 3)]
theorem dt_law30 : decAll code tb_law30 := by unfold decAll tb_law30; decide +kernel
def tb_law31 : List (Nat × Instr × Nat) := [(2229, .aload_n 1, 1), (2230, .aload_n 0, 1), (2231, .iload 4, 2), (2233, .iconst 1, 1), (2234, .iadd, 1), (2235, .iaload, 1), (2236, .aload_n 3, 1), (2237, .invokestatic 223, 3), (2240, .istore 5, 2), (2242, .aload_n 2, 1), (2243, .aload_n 0, 1), (2244, .iload 4, 2), (2246, .iconst 1, 1), (2247, .iadd, 1), (2248, .iaload, 1), (2249, .invokevirtual 225, 3), (2252, .istore 6, 2), (2254, .aload_n 2, 1), (2255, .invokevirtual 121, 3), (2258, .iload 5, 2), (2260, .if_icmp .eq 5, 3), (2263, .iconst 0, 1), (2264, .ireturn, 1), (2265, .iload 5, 2), (2267, .ifCond .ne 15, 3), (2270, .aload_n 3, 1), (2271, .iconst 0, 1), (2272, .laload, 1), (2273, .iload 6, 2), (2275, .i2l, 1), (2276, .lcmp, 1), (2277, .ifCond .eq 5, 3), (2280, .iconst 0, 1), (2281, .ireturn, 1), (2282, .goto 3, 3)]
theorem dt_law31 : decAll code tb_law31 := by unfold decAll tb_law31; decide +kernel
def tb_lawA : List (Nat × Instr × Nat) := [(0, .new 8, 3), (3, .dup, 1), (4, .invokespecial 111, 3), (7, .astore_n 1, 1), (8, .new 112, 3), (11, .dup, 1), (12, .invokespecial 114, 3), (15, .astore_n 2, 1), (16, .iconst 1, 1), (17, .newarray .long, 2), (19, .astore_n 3, 1), (20, .iconst 0, 1), (21, .istore 4, 2), (23, .iload 4, 2), (25, .aload_n 0, 1), (26, .arraylength, 1), (27, .iconst 5, 1), (28, .isub, 1), (29, .if_icmp .gt 2262, 3), (32, .aload_n 0, 1), (33, .iload 4, 2), (35, .iaload, 1), (36, .bipush 31, 2), (38, .iand, 1), (39, .tableswitch 2246 0 31 #[141, 197, 289, 381, 473, 541, 621, 689, 757, 849, 929, 1009, 1077, 1145, 1201, 1257, 1313, 1369, 1469, 1482, 1495, 1551, 1607, 1675, 1743, 1811, 1879, 1935, 1991, 2047, 2122, 2190], 141)]
theorem dt_lawA : decAll code tb_lawA := by unfold decAll tb_lawA; decide +kernel
def tb_lawZ : List (Nat × Instr × Nat) := [(2285, .iinc 4 5, 3), (2288, .goto (-2265), 3), (2291, .iconst 1, 1), (2292, .ireturn, 1)]
theorem dt_lawZ : decAll code tb_lawZ := by unfold decAll tb_lawZ; decide +kernel
set_option maxRecDepth 100000 in
set_option maxHeartbeats 4000000 in
theorem s_law0 {θ : Th} {ad : Nat → Nat} {cs : Nat × Nat} {b n : Nat} {xs : Nat → Int32} {i : Int32} {σ : St} (X : Cx θ g_strs code 7 "QuasigroveLaw" 2048 84000) (hS9 : Sx θ b n xs) (htr : θ.2.1.stackTraces = false) (hi1 : inb (i + 1) n = true) {k b9 : Int32} {σ1 σ2 : St} (h1 : fw_grid σ (xs (ix (i + 1))) = some (k, σ1)) (h2 : f_R_grid σ1 (xs (ix (i + 1))) = some (b9, σ2)) (h3 : σ2 82 0 = k) (h4 : k = 0 → σ2 103 0 = b9) (hR : Rm θ (cs.1 + 1) (cs.2 + 6)) (kk : G θ (cs.1 + 1, cs.2 + 6) (g_SH, ad) σ2 2285 [some (.ref b), some (.ref (ad 0)), some (.ref (ad 82)), some (.ref (ad 103)), some (.int i)] []) : G θ cs (g_SH, ad) σ 180 [some (.ref b), some (.ref (ad 0)), some (.ref (ad 82)), some (.ref (ad 103)), some (.int i), none, none] [] := by
  have hc : Rc θ (cs.1 + 1, cs.2 + 6) := Rm_rc hR
  refine G_aload_n (pc := 180) 1 X (dg dt_law0 0 rfl) rfl rfl ?_
  refine G_aload_n (pc := 181) 0 X (dg dt_law0 1 rfl) rfl rfl ?_
  refine G_iload (pc := 182) X (dg dt_law0 2 rfl) rfl ?_
  refine G_iconst (pc := 184) 1 X (dg dt_law0 3 rfl) (by decide) ?_
  refine G_iadd (pc := 185) X (dg dt_law0 4 rfl) ?_
  refine G_sld (pc := 186) X hS9 (dg dt_law0 5 rfl) hi1 ?_
  refine G_aload_n (pc := 187) 3 X (dg dt_law0 6 rfl) rfl rfl ?_
  refine G_callSW (pc := 188) (S := []) (n := 3) [.ref (ad 0), .int (xs (ix (i + 1))), .ref (ad 103)] X hS9.nx (dg dt_law0 7 rfl) w_318 w_71 ⟨by decide +kernel, by decide +kernel, by decide +kernel⟩ w_317 w_316 (s_L_grid htr ad σ _ h1) rfl ⟨Nat.le_of_ble_eq_true rfl, Nat.le_of_ble_eq_true rfl⟩ (Nat.le_of_ble_eq_true rfl) hR ?_
  refine G_istore (pc := 191) X (dg dt_law0 8 rfl) (Nat.le_of_ble_eq_true rfl) rfl ?_
  refine G_aload_n (pc := 193) 2 X (dg dt_law0 9 rfl) rfl rfl ?_
  refine G_aload_n (pc := 194) 0 X (dg dt_law0 10 rfl) rfl rfl ?_
  refine G_iload (pc := 195) X (dg dt_law0 11 rfl) rfl ?_
  refine G_iconst (pc := 197) 1 X (dg dt_law0 12 rfl) (by decide) ?_
  refine G_iadd (pc := 198) X (dg dt_law0 13 rfl) ?_
  refine G_sld (pc := 199) X hS9 (dg dt_law0 14 rfl) hi1 ?_
  refine G_callV (pc := 200) (S := []) [.int (xs (ix (i + 1)))] nosub X (dg dt_law0 15 rfl) cb_R_grid cv_R_grid w_1155 (s_R_grid _ ad σ1 _ h2) rfl ⟨Nat.le_of_ble_eq_true rfl, Nat.le_of_ble_eq_true rfl⟩ sh_82 rfl (Nat.le_of_ble_eq_true rfl) hc ?_
  refine G_istore (pc := 203) X (dg dt_law0 16 rfl) (Nat.le_of_ble_eq_true rfl) rfl ?_
  refine G_aload_n (pc := 205) 2 X (dg dt_law0 17 rfl) rfl rfl ?_
  refine G_callV (pc := 206) (S := []) [] nosub X (dg dt_law0 18 rfl) cb_R_thrown cv_R_thrown w_1151 (s_R_thrown _ ad σ2 (rv := σ2 82 0) rfl) rfl ⟨Nat.le_of_ble_eq_true rfl, Nat.le_of_ble_eq_true rfl⟩ sh_82 rfl (Nat.le_of_ble_eq_true rfl) hc ?_
  refine G_iload (pc := 209) X (dg dt_law0 19 rfl) rfl ?_
  refine G_icmp_eq (pc := 211) (a := 1) (b := 0) (r := 1) 216 X (dg dt_law0 20 rfl) (by decide) (by rw [if_pos h3]) (fun _ => ?_) (fun h => absurd h (by decide))
  refine G_iload (pc := 216) X (dg dt_law0 23 rfl) rfl ?_
  by_cases hk0 : k = 0
  · refine G_if_ne (pc := 218) (a := 0) (b := 1) (r := 1) 233 X (dg dt_law0 24 rfl) (by decide) (by rw [if_pos hk0]) (fun h => absurd h (by decide)) (fun _ => ?_)
    refine G_aload_n (pc := 221) 3 X (dg dt_law0 25 rfl) rfl rfl ?_
    refine G_iconst (pc := 222) 0 X (dg dt_law0 26 rfl) (by decide) ?_
    refine G_lald (pc := 223) X (dg dt_law0 27 rfl) sh_103 (by decide) ?_
    refine G_iload (pc := 224) X (dg dt_law0 28 rfl) rfl ?_
    refine G_i2l (pc := 226) X (dg dt_law0 29 rfl) ?_
    refine G_lcmp (pc := 227) X (dg dt_law0 30 rfl) ?_
    refine G_if_eq (pc := 228) (a := 1) (b := 0) (r := 1) 233 X (dg dt_law0 31 rfl) (by decide) (if_pos (lg_same (by rw [show σ2 103 (ix 0) = b9 from h4 hk0]))) (fun _ => ?_) (fun h => absurd h (by decide))
    refine G_goto (pc := 233) 2285 X (dg dt_law0 34 rfl) (by decide) ?_
    exact G_wk kk ⟨rfl, ⟨rfl, ⟨rfl, ⟨rfl, ⟨rfl, trivial⟩⟩⟩⟩⟩
  · refine G_if_ne (pc := 218) (a := 1) (b := 0) (r := 1) 233 X (dg dt_law0 24 rfl) (by decide) (by rw [if_neg hk0]) (fun _ => ?_) (fun h => absurd h (by decide))
    refine G_goto (pc := 233) 2285 X (dg dt_law0 34 rfl) (by decide) ?_
    exact G_wk kk ⟨rfl, ⟨rfl, ⟨rfl, ⟨rfl, ⟨rfl, trivial⟩⟩⟩⟩⟩
set_option maxRecDepth 100000 in
set_option maxHeartbeats 4000000 in
theorem s_law1 {θ : Th} {ad : Nat → Nat} {cs : Nat × Nat} {b n : Nat} {xs : Nat → Int32} {i : Int32} {σ : St} (X : Cx θ g_strs code 7 "QuasigroveLaw" 2048 84000) (hS9 : Sx θ b n xs) (htr : θ.2.1.stackTraces = false) (hi1 : inb (i + 1) n = true) (hi2 : inb (i + 2) n = true) (hi3 : inb (i + 3) n = true) (hi4 : inb (i + 4) n = true) {k b9 : Int32} {σ1 σ2 : St} (h1 : fw_linear σ (xs (ix (i + 1))) (xs (ix (i + 2))) (xs (ix (i + 3))) (xs (ix (i + 4))) = some (k, σ1)) (h2 : f_R_linear σ1 (xs (ix (i + 1))) (xs (ix (i + 2))) (xs (ix (i + 3))) (xs (ix (i + 4))) = some (b9, σ2)) (h3 : σ2 82 0 = k) (h4 : k = 0 → σ2 103 0 = b9) (hR : Rm θ (cs.1 + 1) (cs.2 + 6)) (kk : G θ (cs.1 + 1, cs.2 + 6) (g_SH, ad) σ2 2285 [some (.ref b), some (.ref (ad 0)), some (.ref (ad 82)), some (.ref (ad 103)), some (.int i)] []) : G θ cs (g_SH, ad) σ 236 [some (.ref b), some (.ref (ad 0)), some (.ref (ad 82)), some (.ref (ad 103)), some (.int i), none, none] [] := by
  have hc : Rc θ (cs.1 + 1, cs.2 + 6) := Rm_rc hR
  refine G_aload_n (pc := 236) 1 X (dg dt_law1 0 rfl) rfl rfl ?_
  refine G_aload_n (pc := 237) 0 X (dg dt_law1 1 rfl) rfl rfl ?_
  refine G_iload (pc := 238) X (dg dt_law1 2 rfl) rfl ?_
  refine G_iconst (pc := 240) 1 X (dg dt_law1 3 rfl) (by decide) ?_
  refine G_iadd (pc := 241) X (dg dt_law1 4 rfl) ?_
  refine G_sld (pc := 242) X hS9 (dg dt_law1 5 rfl) hi1 ?_
  refine G_aload_n (pc := 243) 0 X (dg dt_law1 6 rfl) rfl rfl ?_
  refine G_iload (pc := 244) X (dg dt_law1 7 rfl) rfl ?_
  refine G_iconst (pc := 246) 2 X (dg dt_law1 8 rfl) (by decide) ?_
  refine G_iadd (pc := 247) X (dg dt_law1 9 rfl) ?_
  refine G_sld (pc := 248) X hS9 (dg dt_law1 10 rfl) hi2 ?_
  refine G_aload_n (pc := 249) 0 X (dg dt_law1 11 rfl) rfl rfl ?_
  refine G_iload (pc := 250) X (dg dt_law1 12 rfl) rfl ?_
  refine G_iconst (pc := 252) 3 X (dg dt_law1 13 rfl) (by decide) ?_
  refine G_iadd (pc := 253) X (dg dt_law1 14 rfl) ?_
  refine G_sld (pc := 254) X hS9 (dg dt_law1 15 rfl) hi3 ?_
  refine G_aload_n (pc := 255) 0 X (dg dt_law1 16 rfl) rfl rfl ?_
  refine G_iload (pc := 256) X (dg dt_law1 17 rfl) rfl ?_
  refine G_iconst (pc := 258) 4 X (dg dt_law1 18 rfl) (by decide) ?_
  refine G_iadd (pc := 259) X (dg dt_law1 19 rfl) ?_
  refine G_sld (pc := 260) X hS9 (dg dt_law1 20 rfl) hi4 ?_
  refine G_aload_n (pc := 261) 3 X (dg dt_law1 21 rfl) rfl rfl ?_
  refine G_callSW (pc := 262) (S := []) (n := 6) [.ref (ad 0), .int (xs (ix (i + 1))), .int (xs (ix (i + 2))), .int (xs (ix (i + 3))), .int (xs (ix (i + 4))), .ref (ad 103)] X hS9.nx (dg dt_law1 22 rfl) w_431 w_71 ⟨by decide +kernel, by decide +kernel, by decide +kernel⟩ w_430 w_429 (s_L_linear htr ad σ _ _ _ _ h1) rfl ⟨Nat.le_of_ble_eq_true rfl, Nat.le_of_ble_eq_true rfl⟩ (Nat.le_of_ble_eq_true rfl) hR ?_
  refine G_istore (pc := 265) X (dg dt_law1 23 rfl) (Nat.le_of_ble_eq_true rfl) rfl ?_
  refine G_aload_n (pc := 267) 2 X (dg dt_law1 24 rfl) rfl rfl ?_
  refine G_aload_n (pc := 268) 0 X (dg dt_law1 25 rfl) rfl rfl ?_
  refine G_iload (pc := 269) X (dg dt_law1 26 rfl) rfl ?_
  refine G_iconst (pc := 271) 1 X (dg dt_law1 27 rfl) (by decide) ?_
  refine G_iadd (pc := 272) X (dg dt_law1 28 rfl) ?_
  refine G_sld (pc := 273) X hS9 (dg dt_law1 29 rfl) hi1 ?_
  refine G_aload_n (pc := 274) 0 X (dg dt_law1 30 rfl) rfl rfl ?_
  refine G_iload (pc := 275) X (dg dt_law1 31 rfl) rfl ?_
  refine G_iconst (pc := 277) 2 X (dg dt_law1 32 rfl) (by decide) ?_
  refine G_iadd (pc := 278) X (dg dt_law1 33 rfl) ?_
  refine G_sld (pc := 279) X hS9 (dg dt_law1 34 rfl) hi2 ?_
  refine G_aload_n (pc := 280) 0 X (dg dt_law1 35 rfl) rfl rfl ?_
  refine G_iload (pc := 281) X (dg dt_law1 36 rfl) rfl ?_
  refine G_iconst (pc := 283) 3 X (dg dt_law1 37 rfl) (by decide) ?_
  refine G_iadd (pc := 284) X (dg dt_law1 38 rfl) ?_
  refine G_sld (pc := 285) X hS9 (dg dt_law1 39 rfl) hi3 ?_
  refine G_aload_n (pc := 286) 0 X (dg dt_law1 40 rfl) rfl rfl ?_
  refine G_iload (pc := 287) X (dg dt_law1 41 rfl) rfl ?_
  refine G_iconst (pc := 289) 4 X (dg dt_law1 42 rfl) (by decide) ?_
  refine G_iadd (pc := 290) X (dg dt_law1 43 rfl) ?_
  refine G_sld (pc := 291) X hS9 (dg dt_law1 44 rfl) hi4 ?_
  refine G_callV (pc := 292) (S := []) [.int (xs (ix (i + 1))), .int (xs (ix (i + 2))), .int (xs (ix (i + 3))), .int (xs (ix (i + 4)))] nosub X (dg dt_law1 45 rfl) cb_R_linear cv_R_linear w_1167 (s_R_linear _ ad σ1 _ _ _ _ h2) rfl ⟨Nat.le_of_ble_eq_true rfl, Nat.le_of_ble_eq_true rfl⟩ sh_82 rfl (Nat.le_of_ble_eq_true rfl) hc ?_
  refine G_istore (pc := 295) X (dg dt_law1 46 rfl) (Nat.le_of_ble_eq_true rfl) rfl ?_
  refine G_aload_n (pc := 297) 2 X (dg dt_law1 47 rfl) rfl rfl ?_
  refine G_callV (pc := 298) (S := []) [] nosub X (dg dt_law1 48 rfl) cb_R_thrown cv_R_thrown w_1151 (s_R_thrown _ ad σ2 (rv := σ2 82 0) rfl) rfl ⟨Nat.le_of_ble_eq_true rfl, Nat.le_of_ble_eq_true rfl⟩ sh_82 rfl (Nat.le_of_ble_eq_true rfl) hc ?_
  refine G_iload (pc := 301) X (dg dt_law1 49 rfl) rfl ?_
  refine G_icmp_eq (pc := 303) (a := 1) (b := 0) (r := 1) 308 X (dg dt_law1 50 rfl) (by decide) (by rw [if_pos h3]) (fun _ => ?_) (fun h => absurd h (by decide))
  refine G_iload (pc := 308) X (dg dt_law1 53 rfl) rfl ?_
  by_cases hk0 : k = 0
  · refine G_if_ne (pc := 310) (a := 0) (b := 1) (r := 1) 325 X (dg dt_law1 54 rfl) (by decide) (by rw [if_pos hk0]) (fun h => absurd h (by decide)) (fun _ => ?_)
    refine G_aload_n (pc := 313) 3 X (dg dt_law1 55 rfl) rfl rfl ?_
    refine G_iconst (pc := 314) 0 X (dg dt_law1 56 rfl) (by decide) ?_
    refine G_lald (pc := 315) X (dg dt_law1 57 rfl) sh_103 (by decide) ?_
    refine G_iload (pc := 316) X (dg dt_law1 58 rfl) rfl ?_
    refine G_i2l (pc := 318) X (dg dt_law1 59 rfl) ?_
    refine G_lcmp (pc := 319) X (dg dt_law1 60 rfl) ?_
    refine G_if_eq (pc := 320) (a := 1) (b := 0) (r := 1) 325 X (dg dt_law1 61 rfl) (by decide) (if_pos (lg_same (by rw [show σ2 103 (ix 0) = b9 from h4 hk0]))) (fun _ => ?_) (fun h => absurd h (by decide))
    refine G_goto (pc := 325) 2285 X (dg dt_law1 64 rfl) (by decide) ?_
    exact G_wk kk ⟨rfl, ⟨rfl, ⟨rfl, ⟨rfl, ⟨rfl, trivial⟩⟩⟩⟩⟩
  · refine G_if_ne (pc := 310) (a := 1) (b := 0) (r := 1) 325 X (dg dt_law1 54 rfl) (by decide) (by rw [if_neg hk0]) (fun _ => ?_) (fun h => absurd h (by decide))
    refine G_goto (pc := 325) 2285 X (dg dt_law1 64 rfl) (by decide) ?_
    exact G_wk kk ⟨rfl, ⟨rfl, ⟨rfl, ⟨rfl, ⟨rfl, trivial⟩⟩⟩⟩⟩
set_option maxRecDepth 100000 in
set_option maxHeartbeats 4000000 in
theorem s_law2 {θ : Th} {ad : Nat → Nat} {cs : Nat × Nat} {b n : Nat} {xs : Nat → Int32} {i : Int32} {σ : St} (X : Cx θ g_strs code 7 "QuasigroveLaw" 2048 84000) (hS9 : Sx θ b n xs) (htr : θ.2.1.stackTraces = false) (hi1 : inb (i + 1) n = true) (hi2 : inb (i + 2) n = true) (hi3 : inb (i + 3) n = true) (hi4 : inb (i + 4) n = true) {k b9 : Int32} {σ1 σ2 : St} (h1 : fw_put σ (xs (ix (i + 1))) (xs (ix (i + 2))) (xs (ix (i + 3))) (xs (ix (i + 4))) = some (k, σ1)) (h2 : f_R_put σ1 (xs (ix (i + 1))) (xs (ix (i + 2))) (xs (ix (i + 3))) (xs (ix (i + 4))) = some (b9, σ2)) (h3 : σ2 82 0 = k) (h4 : k = 0 → σ2 103 0 = b9) (hR : Rm θ (cs.1 + 1) (cs.2 + 6)) (kk : G θ (cs.1 + 1, cs.2 + 6) (g_SH, ad) σ2 2285 [some (.ref b), some (.ref (ad 0)), some (.ref (ad 82)), some (.ref (ad 103)), some (.int i)] []) : G θ cs (g_SH, ad) σ 328 [some (.ref b), some (.ref (ad 0)), some (.ref (ad 82)), some (.ref (ad 103)), some (.int i), none, none] [] := by
  have hc : Rc θ (cs.1 + 1, cs.2 + 6) := Rm_rc hR
  refine G_aload_n (pc := 328) 1 X (dg dt_law2 0 rfl) rfl rfl ?_
  refine G_aload_n (pc := 329) 0 X (dg dt_law2 1 rfl) rfl rfl ?_
  refine G_iload (pc := 330) X (dg dt_law2 2 rfl) rfl ?_
  refine G_iconst (pc := 332) 1 X (dg dt_law2 3 rfl) (by decide) ?_
  refine G_iadd (pc := 333) X (dg dt_law2 4 rfl) ?_
  refine G_sld (pc := 334) X hS9 (dg dt_law2 5 rfl) hi1 ?_
  refine G_aload_n (pc := 335) 0 X (dg dt_law2 6 rfl) rfl rfl ?_
  refine G_iload (pc := 336) X (dg dt_law2 7 rfl) rfl ?_
  refine G_iconst (pc := 338) 2 X (dg dt_law2 8 rfl) (by decide) ?_
  refine G_iadd (pc := 339) X (dg dt_law2 9 rfl) ?_
  refine G_sld (pc := 340) X hS9 (dg dt_law2 10 rfl) hi2 ?_
  refine G_aload_n (pc := 341) 0 X (dg dt_law2 11 rfl) rfl rfl ?_
  refine G_iload (pc := 342) X (dg dt_law2 12 rfl) rfl ?_
  refine G_iconst (pc := 344) 3 X (dg dt_law2 13 rfl) (by decide) ?_
  refine G_iadd (pc := 345) X (dg dt_law2 14 rfl) ?_
  refine G_sld (pc := 346) X hS9 (dg dt_law2 15 rfl) hi3 ?_
  refine G_aload_n (pc := 347) 0 X (dg dt_law2 16 rfl) rfl rfl ?_
  refine G_iload (pc := 348) X (dg dt_law2 17 rfl) rfl ?_
  refine G_iconst (pc := 350) 4 X (dg dt_law2 18 rfl) (by decide) ?_
  refine G_iadd (pc := 351) X (dg dt_law2 19 rfl) ?_
  refine G_sld (pc := 352) X hS9 (dg dt_law2 20 rfl) hi4 ?_
  refine G_aload_n (pc := 353) 3 X (dg dt_law2 21 rfl) rfl rfl ?_
  refine G_callSW (pc := 354) (S := []) (n := 6) [.ref (ad 0), .int (xs (ix (i + 1))), .int (xs (ix (i + 2))), .int (xs (ix (i + 3))), .int (xs (ix (i + 4))), .ref (ad 103)] X hS9.nx (dg dt_law2 22 rfl) w_456 w_71 ⟨by decide +kernel, by decide +kernel, by decide +kernel⟩ w_455 w_454 (s_L_put htr ad σ _ _ _ _ h1) rfl ⟨Nat.le_of_ble_eq_true rfl, Nat.le_of_ble_eq_true rfl⟩ (Nat.le_of_ble_eq_true rfl) hR ?_
  refine G_istore (pc := 357) X (dg dt_law2 23 rfl) (Nat.le_of_ble_eq_true rfl) rfl ?_
  refine G_aload_n (pc := 359) 2 X (dg dt_law2 24 rfl) rfl rfl ?_
  refine G_aload_n (pc := 360) 0 X (dg dt_law2 25 rfl) rfl rfl ?_
  refine G_iload (pc := 361) X (dg dt_law2 26 rfl) rfl ?_
  refine G_iconst (pc := 363) 1 X (dg dt_law2 27 rfl) (by decide) ?_
  refine G_iadd (pc := 364) X (dg dt_law2 28 rfl) ?_
  refine G_sld (pc := 365) X hS9 (dg dt_law2 29 rfl) hi1 ?_
  refine G_aload_n (pc := 366) 0 X (dg dt_law2 30 rfl) rfl rfl ?_
  refine G_iload (pc := 367) X (dg dt_law2 31 rfl) rfl ?_
  refine G_iconst (pc := 369) 2 X (dg dt_law2 32 rfl) (by decide) ?_
  refine G_iadd (pc := 370) X (dg dt_law2 33 rfl) ?_
  refine G_sld (pc := 371) X hS9 (dg dt_law2 34 rfl) hi2 ?_
  refine G_aload_n (pc := 372) 0 X (dg dt_law2 35 rfl) rfl rfl ?_
  refine G_iload (pc := 373) X (dg dt_law2 36 rfl) rfl ?_
  refine G_iconst (pc := 375) 3 X (dg dt_law2 37 rfl) (by decide) ?_
  refine G_iadd (pc := 376) X (dg dt_law2 38 rfl) ?_
  refine G_sld (pc := 377) X hS9 (dg dt_law2 39 rfl) hi3 ?_
  refine G_aload_n (pc := 378) 0 X (dg dt_law2 40 rfl) rfl rfl ?_
  refine G_iload (pc := 379) X (dg dt_law2 41 rfl) rfl ?_
  refine G_iconst (pc := 381) 4 X (dg dt_law2 42 rfl) (by decide) ?_
  refine G_iadd (pc := 382) X (dg dt_law2 43 rfl) ?_
  refine G_sld (pc := 383) X hS9 (dg dt_law2 44 rfl) hi4 ?_
  refine G_callV (pc := 384) (S := []) [.int (xs (ix (i + 1))), .int (xs (ix (i + 2))), .int (xs (ix (i + 3))), .int (xs (ix (i + 4)))] nosub X (dg dt_law2 45 rfl) cb_R_put cv_R_put w_1175 (s_R_put _ ad σ1 _ _ _ _ h2) rfl ⟨Nat.le_of_ble_eq_true rfl, Nat.le_of_ble_eq_true rfl⟩ sh_82 rfl (Nat.le_of_ble_eq_true rfl) hc ?_
  refine G_istore (pc := 387) X (dg dt_law2 46 rfl) (Nat.le_of_ble_eq_true rfl) rfl ?_
  refine G_aload_n (pc := 389) 2 X (dg dt_law2 47 rfl) rfl rfl ?_
  refine G_callV (pc := 390) (S := []) [] nosub X (dg dt_law2 48 rfl) cb_R_thrown cv_R_thrown w_1151 (s_R_thrown _ ad σ2 (rv := σ2 82 0) rfl) rfl ⟨Nat.le_of_ble_eq_true rfl, Nat.le_of_ble_eq_true rfl⟩ sh_82 rfl (Nat.le_of_ble_eq_true rfl) hc ?_
  refine G_iload (pc := 393) X (dg dt_law2 49 rfl) rfl ?_
  refine G_icmp_eq (pc := 395) (a := 1) (b := 0) (r := 1) 400 X (dg dt_law2 50 rfl) (by decide) (by rw [if_pos h3]) (fun _ => ?_) (fun h => absurd h (by decide))
  refine G_iload (pc := 400) X (dg dt_law2 53 rfl) rfl ?_
  by_cases hk0 : k = 0
  · refine G_if_ne (pc := 402) (a := 0) (b := 1) (r := 1) 417 X (dg dt_law2 54 rfl) (by decide) (by rw [if_pos hk0]) (fun h => absurd h (by decide)) (fun _ => ?_)
    refine G_aload_n (pc := 405) 3 X (dg dt_law2 55 rfl) rfl rfl ?_
    refine G_iconst (pc := 406) 0 X (dg dt_law2 56 rfl) (by decide) ?_
    refine G_lald (pc := 407) X (dg dt_law2 57 rfl) sh_103 (by decide) ?_
    refine G_iload (pc := 408) X (dg dt_law2 58 rfl) rfl ?_
    refine G_i2l (pc := 410) X (dg dt_law2 59 rfl) ?_
    refine G_lcmp (pc := 411) X (dg dt_law2 60 rfl) ?_
    refine G_if_eq (pc := 412) (a := 1) (b := 0) (r := 1) 417 X (dg dt_law2 61 rfl) (by decide) (if_pos (lg_same (by rw [show σ2 103 (ix 0) = b9 from h4 hk0]))) (fun _ => ?_) (fun h => absurd h (by decide))
    refine G_goto (pc := 417) 2285 X (dg dt_law2 64 rfl) (by decide) ?_
    exact G_wk kk ⟨rfl, ⟨rfl, ⟨rfl, ⟨rfl, ⟨rfl, trivial⟩⟩⟩⟩⟩
  · refine G_if_ne (pc := 402) (a := 1) (b := 0) (r := 1) 417 X (dg dt_law2 54 rfl) (by decide) (by rw [if_neg hk0]) (fun _ => ?_) (fun h => absurd h (by decide))
    refine G_goto (pc := 417) 2285 X (dg dt_law2 64 rfl) (by decide) ?_
    exact G_wk kk ⟨rfl, ⟨rfl, ⟨rfl, ⟨rfl, ⟨rfl, trivial⟩⟩⟩⟩⟩
set_option maxRecDepth 100000 in
set_option maxHeartbeats 4000000 in
theorem s_law3 {θ : Th} {ad : Nat → Nat} {cs : Nat × Nat} {b n : Nat} {xs : Nat → Int32} {i : Int32} {σ : St} (X : Cx θ g_strs code 7 "QuasigroveLaw" 2048 84000) (hS9 : Sx θ b n xs) (htr : θ.2.1.stackTraces = false) (hi1 : inb (i + 1) n = true) (hi2 : inb (i + 2) n = true) (hi3 : inb (i + 3) n = true) (hi4 : inb (i + 4) n = true) {k b9 : Int32} {σ1 σ2 : St} (h1 : fw_isotope σ (xs (ix (i + 1))) (xs (ix (i + 2))) (xs (ix (i + 3))) (xs (ix (i + 4))) = some (k, σ1)) (h2 : f_R_isotope σ1 (xs (ix (i + 1))) (xs (ix (i + 2))) (xs (ix (i + 3))) (xs (ix (i + 4))) = some (b9, σ2)) (h3 : σ2 82 0 = k) (h4 : k = 0 → σ2 103 0 = b9) (hR : Rm θ (cs.1 + 1) (cs.2 + 6)) (kk : G θ (cs.1 + 1, cs.2 + 6) (g_SH, ad) σ2 2285 [some (.ref b), some (.ref (ad 0)), some (.ref (ad 82)), some (.ref (ad 103)), some (.int i)] []) : G θ cs (g_SH, ad) σ 420 [some (.ref b), some (.ref (ad 0)), some (.ref (ad 82)), some (.ref (ad 103)), some (.int i), none, none] [] := by
  have hc : Rc θ (cs.1 + 1, cs.2 + 6) := Rm_rc hR
  refine G_aload_n (pc := 420) 1 X (dg dt_law3 0 rfl) rfl rfl ?_
  refine G_aload_n (pc := 421) 0 X (dg dt_law3 1 rfl) rfl rfl ?_
  refine G_iload (pc := 422) X (dg dt_law3 2 rfl) rfl ?_
  refine G_iconst (pc := 424) 1 X (dg dt_law3 3 rfl) (by decide) ?_
  refine G_iadd (pc := 425) X (dg dt_law3 4 rfl) ?_
  refine G_sld (pc := 426) X hS9 (dg dt_law3 5 rfl) hi1 ?_
  refine G_aload_n (pc := 427) 0 X (dg dt_law3 6 rfl) rfl rfl ?_
  refine G_iload (pc := 428) X (dg dt_law3 7 rfl) rfl ?_
  refine G_iconst (pc := 430) 2 X (dg dt_law3 8 rfl) (by decide) ?_
  refine G_iadd (pc := 431) X (dg dt_law3 9 rfl) ?_
  refine G_sld (pc := 432) X hS9 (dg dt_law3 10 rfl) hi2 ?_
  refine G_aload_n (pc := 433) 0 X (dg dt_law3 11 rfl) rfl rfl ?_
  refine G_iload (pc := 434) X (dg dt_law3 12 rfl) rfl ?_
  refine G_iconst (pc := 436) 3 X (dg dt_law3 13 rfl) (by decide) ?_
  refine G_iadd (pc := 437) X (dg dt_law3 14 rfl) ?_
  refine G_sld (pc := 438) X hS9 (dg dt_law3 15 rfl) hi3 ?_
  refine G_aload_n (pc := 439) 0 X (dg dt_law3 16 rfl) rfl rfl ?_
  refine G_iload (pc := 440) X (dg dt_law3 17 rfl) rfl ?_
  refine G_iconst (pc := 442) 4 X (dg dt_law3 18 rfl) (by decide) ?_
  refine G_iadd (pc := 443) X (dg dt_law3 19 rfl) ?_
  refine G_sld (pc := 444) X hS9 (dg dt_law3 20 rfl) hi4 ?_
  refine G_aload_n (pc := 445) 3 X (dg dt_law3 21 rfl) rfl rfl ?_
  refine G_callSW (pc := 446) (S := []) (n := 6) [.ref (ad 0), .int (xs (ix (i + 1))), .int (xs (ix (i + 2))), .int (xs (ix (i + 3))), .int (xs (ix (i + 4))), .ref (ad 103)] X hS9.nx (dg dt_law3 22 rfl) w_504 w_71 ⟨by decide +kernel, by decide +kernel, by decide +kernel⟩ w_503 w_502 (s_L_isotope htr ad σ _ _ _ _ h1) rfl ⟨Nat.le_of_ble_eq_true rfl, Nat.le_of_ble_eq_true rfl⟩ (Nat.le_of_ble_eq_true rfl) hR ?_
  refine G_istore (pc := 449) X (dg dt_law3 23 rfl) (Nat.le_of_ble_eq_true rfl) rfl ?_
  refine G_aload_n (pc := 451) 2 X (dg dt_law3 24 rfl) rfl rfl ?_
  refine G_aload_n (pc := 452) 0 X (dg dt_law3 25 rfl) rfl rfl ?_
  refine G_iload (pc := 453) X (dg dt_law3 26 rfl) rfl ?_
  refine G_iconst (pc := 455) 1 X (dg dt_law3 27 rfl) (by decide) ?_
  refine G_iadd (pc := 456) X (dg dt_law3 28 rfl) ?_
  refine G_sld (pc := 457) X hS9 (dg dt_law3 29 rfl) hi1 ?_
  refine G_aload_n (pc := 458) 0 X (dg dt_law3 30 rfl) rfl rfl ?_
  refine G_iload (pc := 459) X (dg dt_law3 31 rfl) rfl ?_
  refine G_iconst (pc := 461) 2 X (dg dt_law3 32 rfl) (by decide) ?_
  refine G_iadd (pc := 462) X (dg dt_law3 33 rfl) ?_
  refine G_sld (pc := 463) X hS9 (dg dt_law3 34 rfl) hi2 ?_
  refine G_aload_n (pc := 464) 0 X (dg dt_law3 35 rfl) rfl rfl ?_
  refine G_iload (pc := 465) X (dg dt_law3 36 rfl) rfl ?_
  refine G_iconst (pc := 467) 3 X (dg dt_law3 37 rfl) (by decide) ?_
  refine G_iadd (pc := 468) X (dg dt_law3 38 rfl) ?_
  refine G_sld (pc := 469) X hS9 (dg dt_law3 39 rfl) hi3 ?_
  refine G_aload_n (pc := 470) 0 X (dg dt_law3 40 rfl) rfl rfl ?_
  refine G_iload (pc := 471) X (dg dt_law3 41 rfl) rfl ?_
  refine G_iconst (pc := 473) 4 X (dg dt_law3 42 rfl) (by decide) ?_
  refine G_iadd (pc := 474) X (dg dt_law3 43 rfl) ?_
  refine G_sld (pc := 475) X hS9 (dg dt_law3 44 rfl) hi4 ?_
  refine G_callV (pc := 476) (S := []) [.int (xs (ix (i + 1))), .int (xs (ix (i + 2))), .int (xs (ix (i + 3))), .int (xs (ix (i + 4)))] nosub X (dg dt_law3 45 rfl) cb_R_isotope cv_R_isotope w_1195 (s_R_isotope _ ad σ1 _ _ _ _ h2) rfl ⟨Nat.le_of_ble_eq_true rfl, Nat.le_of_ble_eq_true rfl⟩ sh_82 rfl (Nat.le_of_ble_eq_true rfl) hc ?_
  refine G_istore (pc := 479) X (dg dt_law3 46 rfl) (Nat.le_of_ble_eq_true rfl) rfl ?_
  refine G_aload_n (pc := 481) 2 X (dg dt_law3 47 rfl) rfl rfl ?_
  refine G_callV (pc := 482) (S := []) [] nosub X (dg dt_law3 48 rfl) cb_R_thrown cv_R_thrown w_1151 (s_R_thrown _ ad σ2 (rv := σ2 82 0) rfl) rfl ⟨Nat.le_of_ble_eq_true rfl, Nat.le_of_ble_eq_true rfl⟩ sh_82 rfl (Nat.le_of_ble_eq_true rfl) hc ?_
  refine G_iload (pc := 485) X (dg dt_law3 49 rfl) rfl ?_
  refine G_icmp_eq (pc := 487) (a := 1) (b := 0) (r := 1) 492 X (dg dt_law3 50 rfl) (by decide) (by rw [if_pos h3]) (fun _ => ?_) (fun h => absurd h (by decide))
  refine G_iload (pc := 492) X (dg dt_law3 53 rfl) rfl ?_
  by_cases hk0 : k = 0
  · refine G_if_ne (pc := 494) (a := 0) (b := 1) (r := 1) 509 X (dg dt_law3 54 rfl) (by decide) (by rw [if_pos hk0]) (fun h => absurd h (by decide)) (fun _ => ?_)
    refine G_aload_n (pc := 497) 3 X (dg dt_law3 55 rfl) rfl rfl ?_
    refine G_iconst (pc := 498) 0 X (dg dt_law3 56 rfl) (by decide) ?_
    refine G_lald (pc := 499) X (dg dt_law3 57 rfl) sh_103 (by decide) ?_
    refine G_iload (pc := 500) X (dg dt_law3 58 rfl) rfl ?_
    refine G_i2l (pc := 502) X (dg dt_law3 59 rfl) ?_
    refine G_lcmp (pc := 503) X (dg dt_law3 60 rfl) ?_
    refine G_if_eq (pc := 504) (a := 1) (b := 0) (r := 1) 509 X (dg dt_law3 61 rfl) (by decide) (if_pos (lg_same (by rw [show σ2 103 (ix 0) = b9 from h4 hk0]))) (fun _ => ?_) (fun h => absurd h (by decide))
    refine G_goto (pc := 509) 2285 X (dg dt_law3 64 rfl) (by decide) ?_
    exact G_wk kk ⟨rfl, ⟨rfl, ⟨rfl, ⟨rfl, ⟨rfl, trivial⟩⟩⟩⟩⟩
  · refine G_if_ne (pc := 494) (a := 1) (b := 0) (r := 1) 509 X (dg dt_law3 54 rfl) (by decide) (by rw [if_neg hk0]) (fun _ => ?_) (fun h => absurd h (by decide))
    refine G_goto (pc := 509) 2285 X (dg dt_law3 64 rfl) (by decide) ?_
    exact G_wk kk ⟨rfl, ⟨rfl, ⟨rfl, ⟨rfl, ⟨rfl, trivial⟩⟩⟩⟩⟩
set_option maxRecDepth 100000 in
set_option maxHeartbeats 4000000 in
theorem s_law4 {θ : Th} {ad : Nat → Nat} {cs : Nat × Nat} {b n : Nat} {xs : Nat → Int32} {i : Int32} {σ : St} (X : Cx θ g_strs code 7 "QuasigroveLaw" 2048 84000) (hS9 : Sx θ b n xs) (htr : θ.2.1.stackTraces = false) (hi1 : inb (i + 1) n = true) (hi2 : inb (i + 2) n = true) {k b9 : Int32} {σ1 σ2 : St} (h1 : fw_conjugate σ (xs (ix (i + 1))) (xs (ix (i + 2))) = some (k, σ1)) (h2 : f_R_conjugate σ1 (xs (ix (i + 1))) (xs (ix (i + 2))) = some (b9, σ2)) (h3 : σ2 82 0 = k) (h4 : k = 0 → σ2 103 0 = b9) (hR : Rm θ (cs.1 + 1) (cs.2 + 6)) (kk : G θ (cs.1 + 1, cs.2 + 6) (g_SH, ad) σ2 2285 [some (.ref b), some (.ref (ad 0)), some (.ref (ad 82)), some (.ref (ad 103)), some (.int i)] []) : G θ cs (g_SH, ad) σ 512 [some (.ref b), some (.ref (ad 0)), some (.ref (ad 82)), some (.ref (ad 103)), some (.int i), none, none] [] := by
  have hc : Rc θ (cs.1 + 1, cs.2 + 6) := Rm_rc hR
  refine G_aload_n (pc := 512) 1 X (dg dt_law4 0 rfl) rfl rfl ?_
  refine G_aload_n (pc := 513) 0 X (dg dt_law4 1 rfl) rfl rfl ?_
  refine G_iload (pc := 514) X (dg dt_law4 2 rfl) rfl ?_
  refine G_iconst (pc := 516) 1 X (dg dt_law4 3 rfl) (by decide) ?_
  refine G_iadd (pc := 517) X (dg dt_law4 4 rfl) ?_
  refine G_sld (pc := 518) X hS9 (dg dt_law4 5 rfl) hi1 ?_
  refine G_aload_n (pc := 519) 0 X (dg dt_law4 6 rfl) rfl rfl ?_
  refine G_iload (pc := 520) X (dg dt_law4 7 rfl) rfl ?_
  refine G_iconst (pc := 522) 2 X (dg dt_law4 8 rfl) (by decide) ?_
  refine G_iadd (pc := 523) X (dg dt_law4 9 rfl) ?_
  refine G_sld (pc := 524) X hS9 (dg dt_law4 10 rfl) hi2 ?_
  refine G_aload_n (pc := 525) 3 X (dg dt_law4 11 rfl) rfl rfl ?_
  refine G_callSW (pc := 526) (S := []) (n := 4) [.ref (ad 0), .int (xs (ix (i + 1))), .int (xs (ix (i + 2))), .ref (ad 103)] X hS9.nx (dg dt_law4 12 rfl) w_529 w_71 ⟨by decide +kernel, by decide +kernel, by decide +kernel⟩ w_528 w_527 (s_L_conjugate htr ad σ _ _ h1) rfl ⟨Nat.le_of_ble_eq_true rfl, Nat.le_of_ble_eq_true rfl⟩ (Nat.le_of_ble_eq_true rfl) hR ?_
  refine G_istore (pc := 529) X (dg dt_law4 13 rfl) (Nat.le_of_ble_eq_true rfl) rfl ?_
  refine G_aload_n (pc := 531) 2 X (dg dt_law4 14 rfl) rfl rfl ?_
  refine G_aload_n (pc := 532) 0 X (dg dt_law4 15 rfl) rfl rfl ?_
  refine G_iload (pc := 533) X (dg dt_law4 16 rfl) rfl ?_
  refine G_iconst (pc := 535) 1 X (dg dt_law4 17 rfl) (by decide) ?_
  refine G_iadd (pc := 536) X (dg dt_law4 18 rfl) ?_
  refine G_sld (pc := 537) X hS9 (dg dt_law4 19 rfl) hi1 ?_
  refine G_aload_n (pc := 538) 0 X (dg dt_law4 20 rfl) rfl rfl ?_
  refine G_iload (pc := 539) X (dg dt_law4 21 rfl) rfl ?_
  refine G_iconst (pc := 541) 2 X (dg dt_law4 22 rfl) (by decide) ?_
  refine G_iadd (pc := 542) X (dg dt_law4 23 rfl) ?_
  refine G_sld (pc := 543) X hS9 (dg dt_law4 24 rfl) hi2 ?_
  refine G_callV (pc := 544) (S := []) [.int (xs (ix (i + 1))), .int (xs (ix (i + 2)))] nosub X (dg dt_law4 25 rfl) cb_R_conjugate cv_R_conjugate w_1203 (s_R_conjugate _ ad σ1 _ _ h2) rfl ⟨Nat.le_of_ble_eq_true rfl, Nat.le_of_ble_eq_true rfl⟩ sh_82 rfl (Nat.le_of_ble_eq_true rfl) hc ?_
  refine G_istore (pc := 547) X (dg dt_law4 26 rfl) (Nat.le_of_ble_eq_true rfl) rfl ?_
  refine G_aload_n (pc := 549) 2 X (dg dt_law4 27 rfl) rfl rfl ?_
  refine G_callV (pc := 550) (S := []) [] nosub X (dg dt_law4 28 rfl) cb_R_thrown cv_R_thrown w_1151 (s_R_thrown _ ad σ2 (rv := σ2 82 0) rfl) rfl ⟨Nat.le_of_ble_eq_true rfl, Nat.le_of_ble_eq_true rfl⟩ sh_82 rfl (Nat.le_of_ble_eq_true rfl) hc ?_
  refine G_iload (pc := 553) X (dg dt_law4 29 rfl) rfl ?_
  refine G_icmp_eq (pc := 555) (a := 1) (b := 0) (r := 1) 560 X (dg dt_law4 30 rfl) (by decide) (by rw [if_pos h3]) (fun _ => ?_) (fun h => absurd h (by decide))
  refine G_iload (pc := 560) X (dg dt_law4 33 rfl) rfl ?_
  by_cases hk0 : k = 0
  · refine G_if_ne (pc := 562) (a := 0) (b := 1) (r := 1) 577 X (dg dt_law4 34 rfl) (by decide) (by rw [if_pos hk0]) (fun h => absurd h (by decide)) (fun _ => ?_)
    refine G_aload_n (pc := 565) 3 X (dg dt_law4 35 rfl) rfl rfl ?_
    refine G_iconst (pc := 566) 0 X (dg dt_law4 36 rfl) (by decide) ?_
    refine G_lald (pc := 567) X (dg dt_law4 37 rfl) sh_103 (by decide) ?_
    refine G_iload (pc := 568) X (dg dt_law4 38 rfl) rfl ?_
    refine G_i2l (pc := 570) X (dg dt_law4 39 rfl) ?_
    refine G_lcmp (pc := 571) X (dg dt_law4 40 rfl) ?_
    refine G_if_eq (pc := 572) (a := 1) (b := 0) (r := 1) 577 X (dg dt_law4 41 rfl) (by decide) (if_pos (lg_same (by rw [show σ2 103 (ix 0) = b9 from h4 hk0]))) (fun _ => ?_) (fun h => absurd h (by decide))
    refine G_goto (pc := 577) 2285 X (dg dt_law4 44 rfl) (by decide) ?_
    exact G_wk kk ⟨rfl, ⟨rfl, ⟨rfl, ⟨rfl, ⟨rfl, trivial⟩⟩⟩⟩⟩
  · refine G_if_ne (pc := 562) (a := 1) (b := 0) (r := 1) 577 X (dg dt_law4 34 rfl) (by decide) (by rw [if_neg hk0]) (fun _ => ?_) (fun h => absurd h (by decide))
    refine G_goto (pc := 577) 2285 X (dg dt_law4 44 rfl) (by decide) ?_
    exact G_wk kk ⟨rfl, ⟨rfl, ⟨rfl, ⟨rfl, ⟨rfl, trivial⟩⟩⟩⟩⟩
set_option maxRecDepth 100000 in
set_option maxHeartbeats 4000000 in
theorem s_law5 {θ : Th} {ad : Nat → Nat} {cs : Nat × Nat} {b n : Nat} {xs : Nat → Int32} {i : Int32} {σ : St} (X : Cx θ g_strs code 7 "QuasigroveLaw" 2048 84000) (hS9 : Sx θ b n xs) (htr : θ.2.1.stackTraces = false) (hi1 : inb (i + 1) n = true) (hi2 : inb (i + 2) n = true) (hi3 : inb (i + 3) n = true) {k b9 : Int32} {σ1 σ2 : St} (h1 : fw_cell σ (xs (ix (i + 1))) (xs (ix (i + 2))) (xs (ix (i + 3))) = some (k, σ1)) (h2 : f_R_cell σ1 (xs (ix (i + 1))) (xs (ix (i + 2))) (xs (ix (i + 3))) = some (b9, σ2)) (h3 : σ2 82 0 = k) (h4 : k = 0 → σ2 103 0 = b9) (hR : Rm θ (cs.1 + 1) (cs.2 + 6)) (kk : G θ (cs.1 + 1, cs.2 + 6) (g_SH, ad) σ2 2285 [some (.ref b), some (.ref (ad 0)), some (.ref (ad 82)), some (.ref (ad 103)), some (.int i)] []) : G θ cs (g_SH, ad) σ 580 [some (.ref b), some (.ref (ad 0)), some (.ref (ad 82)), some (.ref (ad 103)), some (.int i), none, none] [] := by
  have hc : Rc θ (cs.1 + 1, cs.2 + 6) := Rm_rc hR
  refine G_aload_n (pc := 580) 1 X (dg dt_law5 0 rfl) rfl rfl ?_
  refine G_aload_n (pc := 581) 0 X (dg dt_law5 1 rfl) rfl rfl ?_
  refine G_iload (pc := 582) X (dg dt_law5 2 rfl) rfl ?_
  refine G_iconst (pc := 584) 1 X (dg dt_law5 3 rfl) (by decide) ?_
  refine G_iadd (pc := 585) X (dg dt_law5 4 rfl) ?_
  refine G_sld (pc := 586) X hS9 (dg dt_law5 5 rfl) hi1 ?_
  refine G_aload_n (pc := 587) 0 X (dg dt_law5 6 rfl) rfl rfl ?_
  refine G_iload (pc := 588) X (dg dt_law5 7 rfl) rfl ?_
  refine G_iconst (pc := 590) 2 X (dg dt_law5 8 rfl) (by decide) ?_
  refine G_iadd (pc := 591) X (dg dt_law5 9 rfl) ?_
  refine G_sld (pc := 592) X hS9 (dg dt_law5 10 rfl) hi2 ?_
  refine G_aload_n (pc := 593) 0 X (dg dt_law5 11 rfl) rfl rfl ?_
  refine G_iload (pc := 594) X (dg dt_law5 12 rfl) rfl ?_
  refine G_iconst (pc := 596) 3 X (dg dt_law5 13 rfl) (by decide) ?_
  refine G_iadd (pc := 597) X (dg dt_law5 14 rfl) ?_
  refine G_sld (pc := 598) X hS9 (dg dt_law5 15 rfl) hi3 ?_
  refine G_aload_n (pc := 599) 3 X (dg dt_law5 16 rfl) rfl rfl ?_
  refine G_callSW (pc := 600) (S := []) (n := 5) [.ref (ad 0), .int (xs (ix (i + 1))), .int (xs (ix (i + 2))), .int (xs (ix (i + 3))), .ref (ad 103)] X hS9.nx (dg dt_law5 17 rfl) w_539 w_71 ⟨by decide +kernel, by decide +kernel, by decide +kernel⟩ w_538 w_537 (s_L_cell htr ad σ _ _ _ h1) rfl ⟨Nat.le_of_ble_eq_true rfl, Nat.le_of_ble_eq_true rfl⟩ (Nat.le_of_ble_eq_true rfl) hR ?_
  refine G_istore (pc := 603) X (dg dt_law5 18 rfl) (Nat.le_of_ble_eq_true rfl) rfl ?_
  refine G_aload_n (pc := 605) 2 X (dg dt_law5 19 rfl) rfl rfl ?_
  refine G_aload_n (pc := 606) 0 X (dg dt_law5 20 rfl) rfl rfl ?_
  refine G_iload (pc := 607) X (dg dt_law5 21 rfl) rfl ?_
  refine G_iconst (pc := 609) 1 X (dg dt_law5 22 rfl) (by decide) ?_
  refine G_iadd (pc := 610) X (dg dt_law5 23 rfl) ?_
  refine G_sld (pc := 611) X hS9 (dg dt_law5 24 rfl) hi1 ?_
  refine G_aload_n (pc := 612) 0 X (dg dt_law5 25 rfl) rfl rfl ?_
  refine G_iload (pc := 613) X (dg dt_law5 26 rfl) rfl ?_
  refine G_iconst (pc := 615) 2 X (dg dt_law5 27 rfl) (by decide) ?_
  refine G_iadd (pc := 616) X (dg dt_law5 28 rfl) ?_
  refine G_sld (pc := 617) X hS9 (dg dt_law5 29 rfl) hi2 ?_
  refine G_aload_n (pc := 618) 0 X (dg dt_law5 30 rfl) rfl rfl ?_
  refine G_iload (pc := 619) X (dg dt_law5 31 rfl) rfl ?_
  refine G_iconst (pc := 621) 3 X (dg dt_law5 32 rfl) (by decide) ?_
  refine G_iadd (pc := 622) X (dg dt_law5 33 rfl) ?_
  refine G_sld (pc := 623) X hS9 (dg dt_law5 34 rfl) hi3 ?_
  refine G_callV (pc := 624) (S := []) [.int (xs (ix (i + 1))), .int (xs (ix (i + 2))), .int (xs (ix (i + 3)))] nosub X (dg dt_law5 35 rfl) cb_R_cell cv_R_cell w_1207 (s_R_cell _ ad σ1 _ _ _ h2) rfl ⟨Nat.le_of_ble_eq_true rfl, Nat.le_of_ble_eq_true rfl⟩ sh_82 rfl (Nat.le_of_ble_eq_true rfl) hc ?_
  refine G_istore (pc := 627) X (dg dt_law5 36 rfl) (Nat.le_of_ble_eq_true rfl) rfl ?_
  refine G_aload_n (pc := 629) 2 X (dg dt_law5 37 rfl) rfl rfl ?_
  refine G_callV (pc := 630) (S := []) [] nosub X (dg dt_law5 38 rfl) cb_R_thrown cv_R_thrown w_1151 (s_R_thrown _ ad σ2 (rv := σ2 82 0) rfl) rfl ⟨Nat.le_of_ble_eq_true rfl, Nat.le_of_ble_eq_true rfl⟩ sh_82 rfl (Nat.le_of_ble_eq_true rfl) hc ?_
  refine G_iload (pc := 633) X (dg dt_law5 39 rfl) rfl ?_
  refine G_icmp_eq (pc := 635) (a := 1) (b := 0) (r := 1) 640 X (dg dt_law5 40 rfl) (by decide) (by rw [if_pos h3]) (fun _ => ?_) (fun h => absurd h (by decide))
  refine G_iload (pc := 640) X (dg dt_law5 43 rfl) rfl ?_
  by_cases hk0 : k = 0
  · refine G_if_ne (pc := 642) (a := 0) (b := 1) (r := 1) 657 X (dg dt_law5 44 rfl) (by decide) (by rw [if_pos hk0]) (fun h => absurd h (by decide)) (fun _ => ?_)
    refine G_aload_n (pc := 645) 3 X (dg dt_law5 45 rfl) rfl rfl ?_
    refine G_iconst (pc := 646) 0 X (dg dt_law5 46 rfl) (by decide) ?_
    refine G_lald (pc := 647) X (dg dt_law5 47 rfl) sh_103 (by decide) ?_
    refine G_iload (pc := 648) X (dg dt_law5 48 rfl) rfl ?_
    refine G_i2l (pc := 650) X (dg dt_law5 49 rfl) ?_
    refine G_lcmp (pc := 651) X (dg dt_law5 50 rfl) ?_
    refine G_if_eq (pc := 652) (a := 1) (b := 0) (r := 1) 657 X (dg dt_law5 51 rfl) (by decide) (if_pos (lg_same (by rw [show σ2 103 (ix 0) = b9 from h4 hk0]))) (fun _ => ?_) (fun h => absurd h (by decide))
    refine G_goto (pc := 657) 2285 X (dg dt_law5 54 rfl) (by decide) ?_
    exact G_wk kk ⟨rfl, ⟨rfl, ⟨rfl, ⟨rfl, ⟨rfl, trivial⟩⟩⟩⟩⟩
  · refine G_if_ne (pc := 642) (a := 1) (b := 0) (r := 1) 657 X (dg dt_law5 44 rfl) (by decide) (by rw [if_neg hk0]) (fun _ => ?_) (fun h => absurd h (by decide))
    refine G_goto (pc := 657) 2285 X (dg dt_law5 54 rfl) (by decide) ?_
    exact G_wk kk ⟨rfl, ⟨rfl, ⟨rfl, ⟨rfl, ⟨rfl, trivial⟩⟩⟩⟩⟩
set_option maxRecDepth 100000 in
set_option maxHeartbeats 4000000 in
theorem s_law6 {θ : Th} {ad : Nat → Nat} {cs : Nat × Nat} {b n : Nat} {xs : Nat → Int32} {i : Int32} {σ : St} (X : Cx θ g_strs code 7 "QuasigroveLaw" 2048 84000) (hS9 : Sx θ b n xs) (htr : θ.2.1.stackTraces = false) (hi1 : inb (i + 1) n = true) (hi2 : inb (i + 2) n = true) {k b9 : Int32} {σ1 σ2 : St} (h1 : fw_of σ (xs (ix (i + 1))) (xs (ix (i + 2))) = some (k, σ1)) (h2 : f_R_of σ1 (xs (ix (i + 1))) (xs (ix (i + 2))) = some (b9, σ2)) (h3 : σ2 82 0 = k) (h4 : k = 0 → σ2 103 0 = b9) (hR : Rm θ (cs.1 + 1) (cs.2 + 6)) (kk : G θ (cs.1 + 1, cs.2 + 6) (g_SH, ad) σ2 2285 [some (.ref b), some (.ref (ad 0)), some (.ref (ad 82)), some (.ref (ad 103)), some (.int i)] []) : G θ cs (g_SH, ad) σ 660 [some (.ref b), some (.ref (ad 0)), some (.ref (ad 82)), some (.ref (ad 103)), some (.int i), none, none] [] := by
  have hc : Rc θ (cs.1 + 1, cs.2 + 6) := Rm_rc hR
  refine G_aload_n (pc := 660) 1 X (dg dt_law6 0 rfl) rfl rfl ?_
  refine G_aload_n (pc := 661) 0 X (dg dt_law6 1 rfl) rfl rfl ?_
  refine G_iload (pc := 662) X (dg dt_law6 2 rfl) rfl ?_
  refine G_iconst (pc := 664) 1 X (dg dt_law6 3 rfl) (by decide) ?_
  refine G_iadd (pc := 665) X (dg dt_law6 4 rfl) ?_
  refine G_sld (pc := 666) X hS9 (dg dt_law6 5 rfl) hi1 ?_
  refine G_aload_n (pc := 667) 0 X (dg dt_law6 6 rfl) rfl rfl ?_
  refine G_iload (pc := 668) X (dg dt_law6 7 rfl) rfl ?_
  refine G_iconst (pc := 670) 2 X (dg dt_law6 8 rfl) (by decide) ?_
  refine G_iadd (pc := 671) X (dg dt_law6 9 rfl) ?_
  refine G_sld (pc := 672) X hS9 (dg dt_law6 10 rfl) hi2 ?_
  refine G_aload_n (pc := 673) 3 X (dg dt_law6 11 rfl) rfl rfl ?_
  refine G_callSW (pc := 674) (S := []) (n := 4) [.ref (ad 0), .int (xs (ix (i + 1))), .int (xs (ix (i + 2))), .ref (ad 103)] X hS9.nx (dg dt_law6 12 rfl) w_546 w_71 ⟨by decide +kernel, by decide +kernel, by decide +kernel⟩ w_545 w_544 (s_L_of htr ad σ _ _ h1) rfl ⟨Nat.le_of_ble_eq_true rfl, Nat.le_of_ble_eq_true rfl⟩ (Nat.le_of_ble_eq_true rfl) hR ?_
  refine G_istore (pc := 677) X (dg dt_law6 13 rfl) (Nat.le_of_ble_eq_true rfl) rfl ?_
  refine G_aload_n (pc := 679) 2 X (dg dt_law6 14 rfl) rfl rfl ?_
  refine G_aload_n (pc := 680) 0 X (dg dt_law6 15 rfl) rfl rfl ?_
  refine G_iload (pc := 681) X (dg dt_law6 16 rfl) rfl ?_
  refine G_iconst (pc := 683) 1 X (dg dt_law6 17 rfl) (by decide) ?_
  refine G_iadd (pc := 684) X (dg dt_law6 18 rfl) ?_
  refine G_sld (pc := 685) X hS9 (dg dt_law6 19 rfl) hi1 ?_
  refine G_aload_n (pc := 686) 0 X (dg dt_law6 20 rfl) rfl rfl ?_
  refine G_iload (pc := 687) X (dg dt_law6 21 rfl) rfl ?_
  refine G_iconst (pc := 689) 2 X (dg dt_law6 22 rfl) (by decide) ?_
  refine G_iadd (pc := 690) X (dg dt_law6 23 rfl) ?_
  refine G_sld (pc := 691) X hS9 (dg dt_law6 24 rfl) hi2 ?_
  refine G_callV (pc := 692) (S := []) [.int (xs (ix (i + 1))), .int (xs (ix (i + 2)))] nosub X (dg dt_law6 25 rfl) cb_R_of cv_R_of w_1211 (s_R_of _ ad σ1 _ _ h2) rfl ⟨Nat.le_of_ble_eq_true rfl, Nat.le_of_ble_eq_true rfl⟩ sh_82 rfl (Nat.le_of_ble_eq_true rfl) hc ?_
  refine G_istore (pc := 695) X (dg dt_law6 26 rfl) (Nat.le_of_ble_eq_true rfl) rfl ?_
  refine G_aload_n (pc := 697) 2 X (dg dt_law6 27 rfl) rfl rfl ?_
  refine G_callV (pc := 698) (S := []) [] nosub X (dg dt_law6 28 rfl) cb_R_thrown cv_R_thrown w_1151 (s_R_thrown _ ad σ2 (rv := σ2 82 0) rfl) rfl ⟨Nat.le_of_ble_eq_true rfl, Nat.le_of_ble_eq_true rfl⟩ sh_82 rfl (Nat.le_of_ble_eq_true rfl) hc ?_
  refine G_iload (pc := 701) X (dg dt_law6 29 rfl) rfl ?_
  refine G_icmp_eq (pc := 703) (a := 1) (b := 0) (r := 1) 708 X (dg dt_law6 30 rfl) (by decide) (by rw [if_pos h3]) (fun _ => ?_) (fun h => absurd h (by decide))
  refine G_iload (pc := 708) X (dg dt_law6 33 rfl) rfl ?_
  by_cases hk0 : k = 0
  · refine G_if_ne (pc := 710) (a := 0) (b := 1) (r := 1) 725 X (dg dt_law6 34 rfl) (by decide) (by rw [if_pos hk0]) (fun h => absurd h (by decide)) (fun _ => ?_)
    refine G_aload_n (pc := 713) 3 X (dg dt_law6 35 rfl) rfl rfl ?_
    refine G_iconst (pc := 714) 0 X (dg dt_law6 36 rfl) (by decide) ?_
    refine G_lald (pc := 715) X (dg dt_law6 37 rfl) sh_103 (by decide) ?_
    refine G_iload (pc := 716) X (dg dt_law6 38 rfl) rfl ?_
    refine G_i2l (pc := 718) X (dg dt_law6 39 rfl) ?_
    refine G_lcmp (pc := 719) X (dg dt_law6 40 rfl) ?_
    refine G_if_eq (pc := 720) (a := 1) (b := 0) (r := 1) 725 X (dg dt_law6 41 rfl) (by decide) (if_pos (lg_same (by rw [show σ2 103 (ix 0) = b9 from h4 hk0]))) (fun _ => ?_) (fun h => absurd h (by decide))
    refine G_goto (pc := 725) 2285 X (dg dt_law6 44 rfl) (by decide) ?_
    exact G_wk kk ⟨rfl, ⟨rfl, ⟨rfl, ⟨rfl, ⟨rfl, trivial⟩⟩⟩⟩⟩
  · refine G_if_ne (pc := 710) (a := 1) (b := 0) (r := 1) 725 X (dg dt_law6 34 rfl) (by decide) (by rw [if_neg hk0]) (fun _ => ?_) (fun h => absurd h (by decide))
    refine G_goto (pc := 725) 2285 X (dg dt_law6 44 rfl) (by decide) ?_
    exact G_wk kk ⟨rfl, ⟨rfl, ⟨rfl, ⟨rfl, ⟨rfl, trivial⟩⟩⟩⟩⟩
set_option maxRecDepth 100000 in
set_option maxHeartbeats 4000000 in
theorem s_law7 {θ : Th} {ad : Nat → Nat} {cs : Nat × Nat} {b n : Nat} {xs : Nat → Int32} {i : Int32} {σ : St} (X : Cx θ g_strs code 7 "QuasigroveLaw" 2048 84000) (hS9 : Sx θ b n xs) (htr : θ.2.1.stackTraces = false) (hi1 : inb (i + 1) n = true) (hi2 : inb (i + 2) n = true) {k b9 : Int32} {σ1 σ2 : St} (h1 : fw_distance σ (xs (ix (i + 1))) (xs (ix (i + 2))) = some (k, σ1)) (h2 : f_R_distance σ1 (xs (ix (i + 1))) (xs (ix (i + 2))) = some (b9, σ2)) (h3 : σ2 82 0 = k) (h4 : k = 0 → σ2 103 0 = b9) (hR : Rm θ (cs.1 + 1) (cs.2 + 6)) (kk : G θ (cs.1 + 1, cs.2 + 6) (g_SH, ad) σ2 2285 [some (.ref b), some (.ref (ad 0)), some (.ref (ad 82)), some (.ref (ad 103)), some (.int i)] []) : G θ cs (g_SH, ad) σ 728 [some (.ref b), some (.ref (ad 0)), some (.ref (ad 82)), some (.ref (ad 103)), some (.int i), none, none] [] := by
  have hc : Rc θ (cs.1 + 1, cs.2 + 6) := Rm_rc hR
  refine G_aload_n (pc := 728) 1 X (dg dt_law7 0 rfl) rfl rfl ?_
  refine G_aload_n (pc := 729) 0 X (dg dt_law7 1 rfl) rfl rfl ?_
  refine G_iload (pc := 730) X (dg dt_law7 2 rfl) rfl ?_
  refine G_iconst (pc := 732) 1 X (dg dt_law7 3 rfl) (by decide) ?_
  refine G_iadd (pc := 733) X (dg dt_law7 4 rfl) ?_
  refine G_sld (pc := 734) X hS9 (dg dt_law7 5 rfl) hi1 ?_
  refine G_aload_n (pc := 735) 0 X (dg dt_law7 6 rfl) rfl rfl ?_
  refine G_iload (pc := 736) X (dg dt_law7 7 rfl) rfl ?_
  refine G_iconst (pc := 738) 2 X (dg dt_law7 8 rfl) (by decide) ?_
  refine G_iadd (pc := 739) X (dg dt_law7 9 rfl) ?_
  refine G_sld (pc := 740) X hS9 (dg dt_law7 10 rfl) hi2 ?_
  refine G_aload_n (pc := 741) 3 X (dg dt_law7 11 rfl) rfl rfl ?_
  refine G_callSW (pc := 742) (S := []) (n := 4) [.ref (ad 0), .int (xs (ix (i + 1))), .int (xs (ix (i + 2))), .ref (ad 103)] X hS9.nx (dg dt_law7 12 rfl) w_566 w_71 ⟨by decide +kernel, by decide +kernel, by decide +kernel⟩ w_565 w_564 (s_L_distance htr ad σ _ _ h1) rfl ⟨Nat.le_of_ble_eq_true rfl, Nat.le_of_ble_eq_true rfl⟩ (Nat.le_of_ble_eq_true rfl) hR ?_
  refine G_istore (pc := 745) X (dg dt_law7 13 rfl) (Nat.le_of_ble_eq_true rfl) rfl ?_
  refine G_aload_n (pc := 747) 2 X (dg dt_law7 14 rfl) rfl rfl ?_
  refine G_aload_n (pc := 748) 0 X (dg dt_law7 15 rfl) rfl rfl ?_
  refine G_iload (pc := 749) X (dg dt_law7 16 rfl) rfl ?_
  refine G_iconst (pc := 751) 1 X (dg dt_law7 17 rfl) (by decide) ?_
  refine G_iadd (pc := 752) X (dg dt_law7 18 rfl) ?_
  refine G_sld (pc := 753) X hS9 (dg dt_law7 19 rfl) hi1 ?_
  refine G_aload_n (pc := 754) 0 X (dg dt_law7 20 rfl) rfl rfl ?_
  refine G_iload (pc := 755) X (dg dt_law7 21 rfl) rfl ?_
  refine G_iconst (pc := 757) 2 X (dg dt_law7 22 rfl) (by decide) ?_
  refine G_iadd (pc := 758) X (dg dt_law7 23 rfl) ?_
  refine G_sld (pc := 759) X hS9 (dg dt_law7 24 rfl) hi2 ?_
  refine G_callV (pc := 760) (S := []) [.int (xs (ix (i + 1))), .int (xs (ix (i + 2)))] nosub X (dg dt_law7 25 rfl) cb_R_distance cv_R_distance w_1231 (s_R_distance _ ad σ1 _ _ h2) rfl ⟨Nat.le_of_ble_eq_true rfl, Nat.le_of_ble_eq_true rfl⟩ sh_82 rfl (Nat.le_of_ble_eq_true rfl) hc ?_
  refine G_istore (pc := 763) X (dg dt_law7 26 rfl) (Nat.le_of_ble_eq_true rfl) rfl ?_
  refine G_aload_n (pc := 765) 2 X (dg dt_law7 27 rfl) rfl rfl ?_
  refine G_callV (pc := 766) (S := []) [] nosub X (dg dt_law7 28 rfl) cb_R_thrown cv_R_thrown w_1151 (s_R_thrown _ ad σ2 (rv := σ2 82 0) rfl) rfl ⟨Nat.le_of_ble_eq_true rfl, Nat.le_of_ble_eq_true rfl⟩ sh_82 rfl (Nat.le_of_ble_eq_true rfl) hc ?_
  refine G_iload (pc := 769) X (dg dt_law7 29 rfl) rfl ?_
  refine G_icmp_eq (pc := 771) (a := 1) (b := 0) (r := 1) 776 X (dg dt_law7 30 rfl) (by decide) (by rw [if_pos h3]) (fun _ => ?_) (fun h => absurd h (by decide))
  refine G_iload (pc := 776) X (dg dt_law7 33 rfl) rfl ?_
  by_cases hk0 : k = 0
  · refine G_if_ne (pc := 778) (a := 0) (b := 1) (r := 1) 793 X (dg dt_law7 34 rfl) (by decide) (by rw [if_pos hk0]) (fun h => absurd h (by decide)) (fun _ => ?_)
    refine G_aload_n (pc := 781) 3 X (dg dt_law7 35 rfl) rfl rfl ?_
    refine G_iconst (pc := 782) 0 X (dg dt_law7 36 rfl) (by decide) ?_
    refine G_lald (pc := 783) X (dg dt_law7 37 rfl) sh_103 (by decide) ?_
    refine G_iload (pc := 784) X (dg dt_law7 38 rfl) rfl ?_
    refine G_i2l (pc := 786) X (dg dt_law7 39 rfl) ?_
    refine G_lcmp (pc := 787) X (dg dt_law7 40 rfl) ?_
    refine G_if_eq (pc := 788) (a := 1) (b := 0) (r := 1) 793 X (dg dt_law7 41 rfl) (by decide) (if_pos (lg_same (by rw [show σ2 103 (ix 0) = b9 from h4 hk0]))) (fun _ => ?_) (fun h => absurd h (by decide))
    refine G_goto (pc := 793) 2285 X (dg dt_law7 44 rfl) (by decide) ?_
    exact G_wk kk ⟨rfl, ⟨rfl, ⟨rfl, ⟨rfl, ⟨rfl, trivial⟩⟩⟩⟩⟩
  · refine G_if_ne (pc := 778) (a := 1) (b := 0) (r := 1) 793 X (dg dt_law7 34 rfl) (by decide) (by rw [if_neg hk0]) (fun _ => ?_) (fun h => absurd h (by decide))
    refine G_goto (pc := 793) 2285 X (dg dt_law7 44 rfl) (by decide) ?_
    exact G_wk kk ⟨rfl, ⟨rfl, ⟨rfl, ⟨rfl, ⟨rfl, trivial⟩⟩⟩⟩⟩
set_option maxRecDepth 100000 in
set_option maxHeartbeats 4000000 in
theorem s_law8 {θ : Th} {ad : Nat → Nat} {cs : Nat × Nat} {b n : Nat} {xs : Nat → Int32} {i : Int32} {σ : St} (X : Cx θ g_strs code 7 "QuasigroveLaw" 2048 84000) (hS9 : Sx θ b n xs) (htr : θ.2.1.stackTraces = false) (hi1 : inb (i + 1) n = true) (hi2 : inb (i + 2) n = true) (hi3 : inb (i + 3) n = true) (hi4 : inb (i + 4) n = true) {k b9 : Int32} {σ1 σ2 : St} (h1 : fw_turn σ (xs (ix (i + 1))) (xs (ix (i + 2))) (xs (ix (i + 3))) (xs (ix (i + 4))) = some (k, σ1)) (h2 : f_R_turn σ1 (xs (ix (i + 1))) (xs (ix (i + 2))) (xs (ix (i + 3))) (xs (ix (i + 4))) = some (b9, σ2)) (h3 : σ2 82 0 = k) (h4 : k = 0 → σ2 103 0 = b9) (hR : Rm θ (cs.1 + 1) (cs.2 + 6)) (kk : G θ (cs.1 + 1, cs.2 + 6) (g_SH, ad) σ2 2285 [some (.ref b), some (.ref (ad 0)), some (.ref (ad 82)), some (.ref (ad 103)), some (.int i)] []) : G θ cs (g_SH, ad) σ 796 [some (.ref b), some (.ref (ad 0)), some (.ref (ad 82)), some (.ref (ad 103)), some (.int i), none, none] [] := by
  have hc : Rc θ (cs.1 + 1, cs.2 + 6) := Rm_rc hR
  refine G_aload_n (pc := 796) 1 X (dg dt_law8 0 rfl) rfl rfl ?_
  refine G_aload_n (pc := 797) 0 X (dg dt_law8 1 rfl) rfl rfl ?_
  refine G_iload (pc := 798) X (dg dt_law8 2 rfl) rfl ?_
  refine G_iconst (pc := 800) 1 X (dg dt_law8 3 rfl) (by decide) ?_
  refine G_iadd (pc := 801) X (dg dt_law8 4 rfl) ?_
  refine G_sld (pc := 802) X hS9 (dg dt_law8 5 rfl) hi1 ?_
  refine G_aload_n (pc := 803) 0 X (dg dt_law8 6 rfl) rfl rfl ?_
  refine G_iload (pc := 804) X (dg dt_law8 7 rfl) rfl ?_
  refine G_iconst (pc := 806) 2 X (dg dt_law8 8 rfl) (by decide) ?_
  refine G_iadd (pc := 807) X (dg dt_law8 9 rfl) ?_
  refine G_sld (pc := 808) X hS9 (dg dt_law8 10 rfl) hi2 ?_
  refine G_aload_n (pc := 809) 0 X (dg dt_law8 11 rfl) rfl rfl ?_
  refine G_iload (pc := 810) X (dg dt_law8 12 rfl) rfl ?_
  refine G_iconst (pc := 812) 3 X (dg dt_law8 13 rfl) (by decide) ?_
  refine G_iadd (pc := 813) X (dg dt_law8 14 rfl) ?_
  refine G_sld (pc := 814) X hS9 (dg dt_law8 15 rfl) hi3 ?_
  refine G_aload_n (pc := 815) 0 X (dg dt_law8 16 rfl) rfl rfl ?_
  refine G_iload (pc := 816) X (dg dt_law8 17 rfl) rfl ?_
  refine G_iconst (pc := 818) 4 X (dg dt_law8 18 rfl) (by decide) ?_
  refine G_iadd (pc := 819) X (dg dt_law8 19 rfl) ?_
  refine G_sld (pc := 820) X hS9 (dg dt_law8 20 rfl) hi4 ?_
  refine G_aload_n (pc := 821) 3 X (dg dt_law8 21 rfl) rfl rfl ?_
  refine G_callSW (pc := 822) (S := []) (n := 6) [.ref (ad 0), .int (xs (ix (i + 1))), .int (xs (ix (i + 2))), .int (xs (ix (i + 3))), .int (xs (ix (i + 4))), .ref (ad 103)] X hS9.nx (dg dt_law8 22 rfl) w_573 w_71 ⟨by decide +kernel, by decide +kernel, by decide +kernel⟩ w_572 w_571 (s_L_turn htr ad σ _ _ _ _ h1) rfl ⟨Nat.le_of_ble_eq_true rfl, Nat.le_of_ble_eq_true rfl⟩ (Nat.le_of_ble_eq_true rfl) hR ?_
  refine G_istore (pc := 825) X (dg dt_law8 23 rfl) (Nat.le_of_ble_eq_true rfl) rfl ?_
  refine G_aload_n (pc := 827) 2 X (dg dt_law8 24 rfl) rfl rfl ?_
  refine G_aload_n (pc := 828) 0 X (dg dt_law8 25 rfl) rfl rfl ?_
  refine G_iload (pc := 829) X (dg dt_law8 26 rfl) rfl ?_
  refine G_iconst (pc := 831) 1 X (dg dt_law8 27 rfl) (by decide) ?_
  refine G_iadd (pc := 832) X (dg dt_law8 28 rfl) ?_
  refine G_sld (pc := 833) X hS9 (dg dt_law8 29 rfl) hi1 ?_
  refine G_aload_n (pc := 834) 0 X (dg dt_law8 30 rfl) rfl rfl ?_
  refine G_iload (pc := 835) X (dg dt_law8 31 rfl) rfl ?_
  refine G_iconst (pc := 837) 2 X (dg dt_law8 32 rfl) (by decide) ?_
  refine G_iadd (pc := 838) X (dg dt_law8 33 rfl) ?_
  refine G_sld (pc := 839) X hS9 (dg dt_law8 34 rfl) hi2 ?_
  refine G_aload_n (pc := 840) 0 X (dg dt_law8 35 rfl) rfl rfl ?_
  refine G_iload (pc := 841) X (dg dt_law8 36 rfl) rfl ?_
  refine G_iconst (pc := 843) 3 X (dg dt_law8 37 rfl) (by decide) ?_
  refine G_iadd (pc := 844) X (dg dt_law8 38 rfl) ?_
  refine G_sld (pc := 845) X hS9 (dg dt_law8 39 rfl) hi3 ?_
  refine G_aload_n (pc := 846) 0 X (dg dt_law8 40 rfl) rfl rfl ?_
  refine G_iload (pc := 847) X (dg dt_law8 41 rfl) rfl ?_
  refine G_iconst (pc := 849) 4 X (dg dt_law8 42 rfl) (by decide) ?_
  refine G_iadd (pc := 850) X (dg dt_law8 43 rfl) ?_
  refine G_sld (pc := 851) X hS9 (dg dt_law8 44 rfl) hi4 ?_
  refine G_callV (pc := 852) (S := []) [.int (xs (ix (i + 1))), .int (xs (ix (i + 2))), .int (xs (ix (i + 3))), .int (xs (ix (i + 4)))] nosub X (dg dt_law8 45 rfl) cb_R_turn cv_R_turn w_1235 (s_R_turn _ ad σ1 _ _ _ _ h2) rfl ⟨Nat.le_of_ble_eq_true rfl, Nat.le_of_ble_eq_true rfl⟩ sh_82 rfl (Nat.le_of_ble_eq_true rfl) hc ?_
  refine G_istore (pc := 855) X (dg dt_law8 46 rfl) (Nat.le_of_ble_eq_true rfl) rfl ?_
  refine G_aload_n (pc := 857) 2 X (dg dt_law8 47 rfl) rfl rfl ?_
  refine G_callV (pc := 858) (S := []) [] nosub X (dg dt_law8 48 rfl) cb_R_thrown cv_R_thrown w_1151 (s_R_thrown _ ad σ2 (rv := σ2 82 0) rfl) rfl ⟨Nat.le_of_ble_eq_true rfl, Nat.le_of_ble_eq_true rfl⟩ sh_82 rfl (Nat.le_of_ble_eq_true rfl) hc ?_
  refine G_iload (pc := 861) X (dg dt_law8 49 rfl) rfl ?_
  refine G_icmp_eq (pc := 863) (a := 1) (b := 0) (r := 1) 868 X (dg dt_law8 50 rfl) (by decide) (by rw [if_pos h3]) (fun _ => ?_) (fun h => absurd h (by decide))
  refine G_iload (pc := 868) X (dg dt_law8 53 rfl) rfl ?_
  by_cases hk0 : k = 0
  · refine G_if_ne (pc := 870) (a := 0) (b := 1) (r := 1) 885 X (dg dt_law8 54 rfl) (by decide) (by rw [if_pos hk0]) (fun h => absurd h (by decide)) (fun _ => ?_)
    refine G_aload_n (pc := 873) 3 X (dg dt_law8 55 rfl) rfl rfl ?_
    refine G_iconst (pc := 874) 0 X (dg dt_law8 56 rfl) (by decide) ?_
    refine G_lald (pc := 875) X (dg dt_law8 57 rfl) sh_103 (by decide) ?_
    refine G_iload (pc := 876) X (dg dt_law8 58 rfl) rfl ?_
    refine G_i2l (pc := 878) X (dg dt_law8 59 rfl) ?_
    refine G_lcmp (pc := 879) X (dg dt_law8 60 rfl) ?_
    refine G_if_eq (pc := 880) (a := 1) (b := 0) (r := 1) 885 X (dg dt_law8 61 rfl) (by decide) (if_pos (lg_same (by rw [show σ2 103 (ix 0) = b9 from h4 hk0]))) (fun _ => ?_) (fun h => absurd h (by decide))
    refine G_goto (pc := 885) 2285 X (dg dt_law8 64 rfl) (by decide) ?_
    exact G_wk kk ⟨rfl, ⟨rfl, ⟨rfl, ⟨rfl, ⟨rfl, trivial⟩⟩⟩⟩⟩
  · refine G_if_ne (pc := 870) (a := 1) (b := 0) (r := 1) 885 X (dg dt_law8 54 rfl) (by decide) (by rw [if_neg hk0]) (fun _ => ?_) (fun h => absurd h (by decide))
    refine G_goto (pc := 885) 2285 X (dg dt_law8 64 rfl) (by decide) ?_
    exact G_wk kk ⟨rfl, ⟨rfl, ⟨rfl, ⟨rfl, ⟨rfl, trivial⟩⟩⟩⟩⟩
set_option maxRecDepth 100000 in
set_option maxHeartbeats 4000000 in
theorem s_law9 {θ : Th} {ad : Nat → Nat} {cs : Nat × Nat} {b n : Nat} {xs : Nat → Int32} {i : Int32} {σ : St} (X : Cx θ g_strs code 7 "QuasigroveLaw" 2048 84000) (hS9 : Sx θ b n xs) (htr : θ.2.1.stackTraces = false) (hi1 : inb (i + 1) n = true) (hi2 : inb (i + 2) n = true) (hi3 : inb (i + 3) n = true) {k b9 : Int32} {σ1 σ2 : St} (h1 : fw_stir σ (xs (ix (i + 1))) (xs (ix (i + 2))) (xs (ix (i + 3))) = some (k, σ1)) (h2 : f_R_stir σ1 (xs (ix (i + 1))) (xs (ix (i + 2))) (xs (ix (i + 3))) = some (b9, σ2)) (h3 : σ2 82 0 = k) (h4 : k = 0 → σ2 103 0 = b9) (hR : Rm θ (cs.1 + 1) (cs.2 + 6)) (kk : G θ (cs.1 + 1, cs.2 + 6) (g_SH, ad) σ2 2285 [some (.ref b), some (.ref (ad 0)), some (.ref (ad 82)), some (.ref (ad 103)), some (.int i)] []) : G θ cs (g_SH, ad) σ 888 [some (.ref b), some (.ref (ad 0)), some (.ref (ad 82)), some (.ref (ad 103)), some (.int i), none, none] [] := by
  have hc : Rc θ (cs.1 + 1, cs.2 + 6) := Rm_rc hR
  refine G_aload_n (pc := 888) 1 X (dg dt_law9 0 rfl) rfl rfl ?_
  refine G_aload_n (pc := 889) 0 X (dg dt_law9 1 rfl) rfl rfl ?_
  refine G_iload (pc := 890) X (dg dt_law9 2 rfl) rfl ?_
  refine G_iconst (pc := 892) 1 X (dg dt_law9 3 rfl) (by decide) ?_
  refine G_iadd (pc := 893) X (dg dt_law9 4 rfl) ?_
  refine G_sld (pc := 894) X hS9 (dg dt_law9 5 rfl) hi1 ?_
  refine G_aload_n (pc := 895) 0 X (dg dt_law9 6 rfl) rfl rfl ?_
  refine G_iload (pc := 896) X (dg dt_law9 7 rfl) rfl ?_
  refine G_iconst (pc := 898) 2 X (dg dt_law9 8 rfl) (by decide) ?_
  refine G_iadd (pc := 899) X (dg dt_law9 9 rfl) ?_
  refine G_sld (pc := 900) X hS9 (dg dt_law9 10 rfl) hi2 ?_
  refine G_aload_n (pc := 901) 0 X (dg dt_law9 11 rfl) rfl rfl ?_
  refine G_iload (pc := 902) X (dg dt_law9 12 rfl) rfl ?_
  refine G_iconst (pc := 904) 3 X (dg dt_law9 13 rfl) (by decide) ?_
  refine G_iadd (pc := 905) X (dg dt_law9 14 rfl) ?_
  refine G_sld (pc := 906) X hS9 (dg dt_law9 15 rfl) hi3 ?_
  refine G_aload_n (pc := 907) 3 X (dg dt_law9 16 rfl) rfl rfl ?_
  refine G_callSW (pc := 908) (S := []) (n := 5) [.ref (ad 0), .int (xs (ix (i + 1))), .int (xs (ix (i + 2))), .int (xs (ix (i + 3))), .ref (ad 103)] X hS9.nx (dg dt_law9 17 rfl) w_596 w_71 ⟨by decide +kernel, by decide +kernel, by decide +kernel⟩ w_595 w_594 (s_L_stir htr ad σ _ _ _ h1) rfl ⟨Nat.le_of_ble_eq_true rfl, Nat.le_of_ble_eq_true rfl⟩ (Nat.le_of_ble_eq_true rfl) hR ?_
  refine G_istore (pc := 911) X (dg dt_law9 18 rfl) (Nat.le_of_ble_eq_true rfl) rfl ?_
  refine G_aload_n (pc := 913) 2 X (dg dt_law9 19 rfl) rfl rfl ?_
  refine G_aload_n (pc := 914) 0 X (dg dt_law9 20 rfl) rfl rfl ?_
  refine G_iload (pc := 915) X (dg dt_law9 21 rfl) rfl ?_
  refine G_iconst (pc := 917) 1 X (dg dt_law9 22 rfl) (by decide) ?_
  refine G_iadd (pc := 918) X (dg dt_law9 23 rfl) ?_
  refine G_sld (pc := 919) X hS9 (dg dt_law9 24 rfl) hi1 ?_
  refine G_aload_n (pc := 920) 0 X (dg dt_law9 25 rfl) rfl rfl ?_
  refine G_iload (pc := 921) X (dg dt_law9 26 rfl) rfl ?_
  refine G_iconst (pc := 923) 2 X (dg dt_law9 27 rfl) (by decide) ?_
  refine G_iadd (pc := 924) X (dg dt_law9 28 rfl) ?_
  refine G_sld (pc := 925) X hS9 (dg dt_law9 29 rfl) hi2 ?_
  refine G_aload_n (pc := 926) 0 X (dg dt_law9 30 rfl) rfl rfl ?_
  refine G_iload (pc := 927) X (dg dt_law9 31 rfl) rfl ?_
  refine G_iconst (pc := 929) 3 X (dg dt_law9 32 rfl) (by decide) ?_
  refine G_iadd (pc := 930) X (dg dt_law9 33 rfl) ?_
  refine G_sld (pc := 931) X hS9 (dg dt_law9 34 rfl) hi3 ?_
  refine G_callV (pc := 932) (S := []) [.int (xs (ix (i + 1))), .int (xs (ix (i + 2))), .int (xs (ix (i + 3)))] nosub X (dg dt_law9 35 rfl) cb_R_stir cv_R_stir w_1243 (s_R_stir _ ad σ1 _ _ _ h2) rfl ⟨Nat.le_of_ble_eq_true rfl, Nat.le_of_ble_eq_true rfl⟩ sh_82 rfl (Nat.le_of_ble_eq_true rfl) hc ?_
  refine G_istore (pc := 935) X (dg dt_law9 36 rfl) (Nat.le_of_ble_eq_true rfl) rfl ?_
  refine G_aload_n (pc := 937) 2 X (dg dt_law9 37 rfl) rfl rfl ?_
  refine G_callV (pc := 938) (S := []) [] nosub X (dg dt_law9 38 rfl) cb_R_thrown cv_R_thrown w_1151 (s_R_thrown _ ad σ2 (rv := σ2 82 0) rfl) rfl ⟨Nat.le_of_ble_eq_true rfl, Nat.le_of_ble_eq_true rfl⟩ sh_82 rfl (Nat.le_of_ble_eq_true rfl) hc ?_
  refine G_iload (pc := 941) X (dg dt_law9 39 rfl) rfl ?_
  refine G_icmp_eq (pc := 943) (a := 1) (b := 0) (r := 1) 948 X (dg dt_law9 40 rfl) (by decide) (by rw [if_pos h3]) (fun _ => ?_) (fun h => absurd h (by decide))
  refine G_iload (pc := 948) X (dg dt_law9 43 rfl) rfl ?_
  by_cases hk0 : k = 0
  · refine G_if_ne (pc := 950) (a := 0) (b := 1) (r := 1) 965 X (dg dt_law9 44 rfl) (by decide) (by rw [if_pos hk0]) (fun h => absurd h (by decide)) (fun _ => ?_)
    refine G_aload_n (pc := 953) 3 X (dg dt_law9 45 rfl) rfl rfl ?_
    refine G_iconst (pc := 954) 0 X (dg dt_law9 46 rfl) (by decide) ?_
    refine G_lald (pc := 955) X (dg dt_law9 47 rfl) sh_103 (by decide) ?_
    refine G_iload (pc := 956) X (dg dt_law9 48 rfl) rfl ?_
    refine G_i2l (pc := 958) X (dg dt_law9 49 rfl) ?_
    refine G_lcmp (pc := 959) X (dg dt_law9 50 rfl) ?_
    refine G_if_eq (pc := 960) (a := 1) (b := 0) (r := 1) 965 X (dg dt_law9 51 rfl) (by decide) (if_pos (lg_same (by rw [show σ2 103 (ix 0) = b9 from h4 hk0]))) (fun _ => ?_) (fun h => absurd h (by decide))
    refine G_goto (pc := 965) 2285 X (dg dt_law9 54 rfl) (by decide) ?_
    exact G_wk kk ⟨rfl, ⟨rfl, ⟨rfl, ⟨rfl, ⟨rfl, trivial⟩⟩⟩⟩⟩
  · refine G_if_ne (pc := 950) (a := 1) (b := 0) (r := 1) 965 X (dg dt_law9 44 rfl) (by decide) (by rw [if_neg hk0]) (fun _ => ?_) (fun h => absurd h (by decide))
    refine G_goto (pc := 965) 2285 X (dg dt_law9 54 rfl) (by decide) ?_
    exact G_wk kk ⟨rfl, ⟨rfl, ⟨rfl, ⟨rfl, ⟨rfl, trivial⟩⟩⟩⟩⟩
set_option maxRecDepth 100000 in
set_option maxHeartbeats 4000000 in
theorem s_law10 {θ : Th} {ad : Nat → Nat} {cs : Nat × Nat} {b n : Nat} {xs : Nat → Int32} {i : Int32} {σ : St} (X : Cx θ g_strs code 7 "QuasigroveLaw" 2048 84000) (hS9 : Sx θ b n xs) (htr : θ.2.1.stackTraces = false) (hi1 : inb (i + 1) n = true) (hi2 : inb (i + 2) n = true) (hi3 : inb (i + 3) n = true) {k b9 : Int32} {σ1 σ2 : St} (h1 : fw_can σ (xs (ix (i + 1))) (xs (ix (i + 2))) (xs (ix (i + 3))) = some (k, σ1)) (h2 : f_R_can σ1 (xs (ix (i + 1))) (xs (ix (i + 2))) (xs (ix (i + 3))) = some (b9, σ2)) (h3 : σ2 82 0 = k) (h4 : k = 0 → σ2 103 0 = b9) (hR : Rm θ (cs.1 + 1) (cs.2 + 6)) (kk : G θ (cs.1 + 1, cs.2 + 6) (g_SH, ad) σ2 2285 [some (.ref b), some (.ref (ad 0)), some (.ref (ad 82)), some (.ref (ad 103)), some (.int i)] []) : G θ cs (g_SH, ad) σ 968 [some (.ref b), some (.ref (ad 0)), some (.ref (ad 82)), some (.ref (ad 103)), some (.int i), none, none] [] := by
  have hc : Rc θ (cs.1 + 1, cs.2 + 6) := Rm_rc hR
  refine G_aload_n (pc := 968) 1 X (dg dt_law10 0 rfl) rfl rfl ?_
  refine G_aload_n (pc := 969) 0 X (dg dt_law10 1 rfl) rfl rfl ?_
  refine G_iload (pc := 970) X (dg dt_law10 2 rfl) rfl ?_
  refine G_iconst (pc := 972) 1 X (dg dt_law10 3 rfl) (by decide) ?_
  refine G_iadd (pc := 973) X (dg dt_law10 4 rfl) ?_
  refine G_sld (pc := 974) X hS9 (dg dt_law10 5 rfl) hi1 ?_
  refine G_aload_n (pc := 975) 0 X (dg dt_law10 6 rfl) rfl rfl ?_
  refine G_iload (pc := 976) X (dg dt_law10 7 rfl) rfl ?_
  refine G_iconst (pc := 978) 2 X (dg dt_law10 8 rfl) (by decide) ?_
  refine G_iadd (pc := 979) X (dg dt_law10 9 rfl) ?_
  refine G_sld (pc := 980) X hS9 (dg dt_law10 10 rfl) hi2 ?_
  refine G_aload_n (pc := 981) 0 X (dg dt_law10 11 rfl) rfl rfl ?_
  refine G_iload (pc := 982) X (dg dt_law10 12 rfl) rfl ?_
  refine G_iconst (pc := 984) 3 X (dg dt_law10 13 rfl) (by decide) ?_
  refine G_iadd (pc := 985) X (dg dt_law10 14 rfl) ?_
  refine G_sld (pc := 986) X hS9 (dg dt_law10 15 rfl) hi3 ?_
  refine G_aload_n (pc := 987) 3 X (dg dt_law10 16 rfl) rfl rfl ?_
  refine G_callSW (pc := 988) (S := []) (n := 5) [.ref (ad 0), .int (xs (ix (i + 1))), .int (xs (ix (i + 2))), .int (xs (ix (i + 3))), .ref (ad 103)] X hS9.nx (dg dt_law10 17 rfl) w_617 w_71 ⟨by decide +kernel, by decide +kernel, by decide +kernel⟩ w_616 w_615 (s_L_can htr ad σ _ _ _ h1) rfl ⟨Nat.le_of_ble_eq_true rfl, Nat.le_of_ble_eq_true rfl⟩ (Nat.le_of_ble_eq_true rfl) hR ?_
  refine G_istore (pc := 991) X (dg dt_law10 18 rfl) (Nat.le_of_ble_eq_true rfl) rfl ?_
  refine G_aload_n (pc := 993) 2 X (dg dt_law10 19 rfl) rfl rfl ?_
  refine G_aload_n (pc := 994) 0 X (dg dt_law10 20 rfl) rfl rfl ?_
  refine G_iload (pc := 995) X (dg dt_law10 21 rfl) rfl ?_
  refine G_iconst (pc := 997) 1 X (dg dt_law10 22 rfl) (by decide) ?_
  refine G_iadd (pc := 998) X (dg dt_law10 23 rfl) ?_
  refine G_sld (pc := 999) X hS9 (dg dt_law10 24 rfl) hi1 ?_
  refine G_aload_n (pc := 1000) 0 X (dg dt_law10 25 rfl) rfl rfl ?_
  refine G_iload (pc := 1001) X (dg dt_law10 26 rfl) rfl ?_
  refine G_iconst (pc := 1003) 2 X (dg dt_law10 27 rfl) (by decide) ?_
  refine G_iadd (pc := 1004) X (dg dt_law10 28 rfl) ?_
  refine G_sld (pc := 1005) X hS9 (dg dt_law10 29 rfl) hi2 ?_
  refine G_aload_n (pc := 1006) 0 X (dg dt_law10 30 rfl) rfl rfl ?_
  refine G_iload (pc := 1007) X (dg dt_law10 31 rfl) rfl ?_
  refine G_iconst (pc := 1009) 3 X (dg dt_law10 32 rfl) (by decide) ?_
  refine G_iadd (pc := 1010) X (dg dt_law10 33 rfl) ?_
  refine G_sld (pc := 1011) X hS9 (dg dt_law10 34 rfl) hi3 ?_
  refine G_callV (pc := 1012) (S := []) [.int (xs (ix (i + 1))), .int (xs (ix (i + 2))), .int (xs (ix (i + 3)))] nosub X (dg dt_law10 35 rfl) cb_R_can cv_R_can w_1255 (s_R_can _ ad σ1 _ _ _ h2) rfl ⟨Nat.le_of_ble_eq_true rfl, Nat.le_of_ble_eq_true rfl⟩ sh_82 rfl (Nat.le_of_ble_eq_true rfl) hc ?_
  refine G_istore (pc := 1015) X (dg dt_law10 36 rfl) (Nat.le_of_ble_eq_true rfl) rfl ?_
  refine G_aload_n (pc := 1017) 2 X (dg dt_law10 37 rfl) rfl rfl ?_
  refine G_callV (pc := 1018) (S := []) [] nosub X (dg dt_law10 38 rfl) cb_R_thrown cv_R_thrown w_1151 (s_R_thrown _ ad σ2 (rv := σ2 82 0) rfl) rfl ⟨Nat.le_of_ble_eq_true rfl, Nat.le_of_ble_eq_true rfl⟩ sh_82 rfl (Nat.le_of_ble_eq_true rfl) hc ?_
  refine G_iload (pc := 1021) X (dg dt_law10 39 rfl) rfl ?_
  refine G_icmp_eq (pc := 1023) (a := 1) (b := 0) (r := 1) 1028 X (dg dt_law10 40 rfl) (by decide) (by rw [if_pos h3]) (fun _ => ?_) (fun h => absurd h (by decide))
  refine G_iload (pc := 1028) X (dg dt_law10 43 rfl) rfl ?_
  by_cases hk0 : k = 0
  · refine G_if_ne (pc := 1030) (a := 0) (b := 1) (r := 1) 1045 X (dg dt_law10 44 rfl) (by decide) (by rw [if_pos hk0]) (fun h => absurd h (by decide)) (fun _ => ?_)
    refine G_aload_n (pc := 1033) 3 X (dg dt_law10 45 rfl) rfl rfl ?_
    refine G_iconst (pc := 1034) 0 X (dg dt_law10 46 rfl) (by decide) ?_
    refine G_lald (pc := 1035) X (dg dt_law10 47 rfl) sh_103 (by decide) ?_
    refine G_iload (pc := 1036) X (dg dt_law10 48 rfl) rfl ?_
    refine G_i2l (pc := 1038) X (dg dt_law10 49 rfl) ?_
    refine G_lcmp (pc := 1039) X (dg dt_law10 50 rfl) ?_
    refine G_if_eq (pc := 1040) (a := 1) (b := 0) (r := 1) 1045 X (dg dt_law10 51 rfl) (by decide) (if_pos (lg_same (by rw [show σ2 103 (ix 0) = b9 from h4 hk0]))) (fun _ => ?_) (fun h => absurd h (by decide))
    refine G_goto (pc := 1045) 2285 X (dg dt_law10 54 rfl) (by decide) ?_
    exact G_wk kk ⟨rfl, ⟨rfl, ⟨rfl, ⟨rfl, ⟨rfl, trivial⟩⟩⟩⟩⟩
  · refine G_if_ne (pc := 1030) (a := 1) (b := 0) (r := 1) 1045 X (dg dt_law10 44 rfl) (by decide) (by rw [if_neg hk0]) (fun _ => ?_) (fun h => absurd h (by decide))
    refine G_goto (pc := 1045) 2285 X (dg dt_law10 54 rfl) (by decide) ?_
    exact G_wk kk ⟨rfl, ⟨rfl, ⟨rfl, ⟨rfl, ⟨rfl, trivial⟩⟩⟩⟩⟩
set_option maxRecDepth 100000 in
set_option maxHeartbeats 4000000 in
theorem s_law11 {θ : Th} {ad : Nat → Nat} {cs : Nat × Nat} {b n : Nat} {xs : Nat → Int32} {i : Int32} {σ : St} (X : Cx θ g_strs code 7 "QuasigroveLaw" 2048 84000) (hS9 : Sx θ b n xs) (htr : θ.2.1.stackTraces = false) (hi1 : inb (i + 1) n = true) (hi2 : inb (i + 2) n = true) {k b9 : Int32} {σ1 σ2 : St} (h1 : fw_fills σ (xs (ix (i + 1))) (xs (ix (i + 2))) = some (k, σ1)) (h2 : f_R_fills σ1 (xs (ix (i + 1))) (xs (ix (i + 2))) = some (b9, σ2)) (h3 : σ2 82 0 = k) (h4 : k = 0 → σ2 103 0 = b9) (hR : Rm θ (cs.1 + 1) (cs.2 + 6)) (kk : G θ (cs.1 + 1, cs.2 + 6) (g_SH, ad) σ2 2285 [some (.ref b), some (.ref (ad 0)), some (.ref (ad 82)), some (.ref (ad 103)), some (.int i)] []) : G θ cs (g_SH, ad) σ 1048 [some (.ref b), some (.ref (ad 0)), some (.ref (ad 82)), some (.ref (ad 103)), some (.int i), none, none] [] := by
  have hc : Rc θ (cs.1 + 1, cs.2 + 6) := Rm_rc hR
  refine G_aload_n (pc := 1048) 1 X (dg dt_law11 0 rfl) rfl rfl ?_
  refine G_aload_n (pc := 1049) 0 X (dg dt_law11 1 rfl) rfl rfl ?_
  refine G_iload (pc := 1050) X (dg dt_law11 2 rfl) rfl ?_
  refine G_iconst (pc := 1052) 1 X (dg dt_law11 3 rfl) (by decide) ?_
  refine G_iadd (pc := 1053) X (dg dt_law11 4 rfl) ?_
  refine G_sld (pc := 1054) X hS9 (dg dt_law11 5 rfl) hi1 ?_
  refine G_aload_n (pc := 1055) 0 X (dg dt_law11 6 rfl) rfl rfl ?_
  refine G_iload (pc := 1056) X (dg dt_law11 7 rfl) rfl ?_
  refine G_iconst (pc := 1058) 2 X (dg dt_law11 8 rfl) (by decide) ?_
  refine G_iadd (pc := 1059) X (dg dt_law11 9 rfl) ?_
  refine G_sld (pc := 1060) X hS9 (dg dt_law11 10 rfl) hi2 ?_
  refine G_aload_n (pc := 1061) 3 X (dg dt_law11 11 rfl) rfl rfl ?_
  refine G_callSW (pc := 1062) (S := []) (n := 4) [.ref (ad 0), .int (xs (ix (i + 1))), .int (xs (ix (i + 2))), .ref (ad 103)] X hS9.nx (dg dt_law11 12 rfl) w_625 w_71 ⟨by decide +kernel, by decide +kernel, by decide +kernel⟩ w_624 w_623 (s_L_fills htr ad σ _ _ h1) rfl ⟨Nat.le_of_ble_eq_true rfl, Nat.le_of_ble_eq_true rfl⟩ (Nat.le_of_ble_eq_true rfl) hR ?_
  refine G_istore (pc := 1065) X (dg dt_law11 13 rfl) (Nat.le_of_ble_eq_true rfl) rfl ?_
  refine G_aload_n (pc := 1067) 2 X (dg dt_law11 14 rfl) rfl rfl ?_
  refine G_aload_n (pc := 1068) 0 X (dg dt_law11 15 rfl) rfl rfl ?_
  refine G_iload (pc := 1069) X (dg dt_law11 16 rfl) rfl ?_
  refine G_iconst (pc := 1071) 1 X (dg dt_law11 17 rfl) (by decide) ?_
  refine G_iadd (pc := 1072) X (dg dt_law11 18 rfl) ?_
  refine G_sld (pc := 1073) X hS9 (dg dt_law11 19 rfl) hi1 ?_
  refine G_aload_n (pc := 1074) 0 X (dg dt_law11 20 rfl) rfl rfl ?_
  refine G_iload (pc := 1075) X (dg dt_law11 21 rfl) rfl ?_
  refine G_iconst (pc := 1077) 2 X (dg dt_law11 22 rfl) (by decide) ?_
  refine G_iadd (pc := 1078) X (dg dt_law11 23 rfl) ?_
  refine G_sld (pc := 1079) X hS9 (dg dt_law11 24 rfl) hi2 ?_
  refine G_callV (pc := 1080) (S := []) [.int (xs (ix (i + 1))), .int (xs (ix (i + 2)))] nosub X (dg dt_law11 25 rfl) cb_R_fills cv_R_fills w_1259 (s_R_fills _ ad σ1 _ _ h2) rfl ⟨Nat.le_of_ble_eq_true rfl, Nat.le_of_ble_eq_true rfl⟩ sh_82 rfl (Nat.le_of_ble_eq_true rfl) hc ?_
  refine G_istore (pc := 1083) X (dg dt_law11 26 rfl) (Nat.le_of_ble_eq_true rfl) rfl ?_
  refine G_aload_n (pc := 1085) 2 X (dg dt_law11 27 rfl) rfl rfl ?_
  refine G_callV (pc := 1086) (S := []) [] nosub X (dg dt_law11 28 rfl) cb_R_thrown cv_R_thrown w_1151 (s_R_thrown _ ad σ2 (rv := σ2 82 0) rfl) rfl ⟨Nat.le_of_ble_eq_true rfl, Nat.le_of_ble_eq_true rfl⟩ sh_82 rfl (Nat.le_of_ble_eq_true rfl) hc ?_
  refine G_iload (pc := 1089) X (dg dt_law11 29 rfl) rfl ?_
  refine G_icmp_eq (pc := 1091) (a := 1) (b := 0) (r := 1) 1096 X (dg dt_law11 30 rfl) (by decide) (by rw [if_pos h3]) (fun _ => ?_) (fun h => absurd h (by decide))
  refine G_iload (pc := 1096) X (dg dt_law11 33 rfl) rfl ?_
  by_cases hk0 : k = 0
  · refine G_if_ne (pc := 1098) (a := 0) (b := 1) (r := 1) 1113 X (dg dt_law11 34 rfl) (by decide) (by rw [if_pos hk0]) (fun h => absurd h (by decide)) (fun _ => ?_)
    refine G_aload_n (pc := 1101) 3 X (dg dt_law11 35 rfl) rfl rfl ?_
    refine G_iconst (pc := 1102) 0 X (dg dt_law11 36 rfl) (by decide) ?_
    refine G_lald (pc := 1103) X (dg dt_law11 37 rfl) sh_103 (by decide) ?_
    refine G_iload (pc := 1104) X (dg dt_law11 38 rfl) rfl ?_
    refine G_i2l (pc := 1106) X (dg dt_law11 39 rfl) ?_
    refine G_lcmp (pc := 1107) X (dg dt_law11 40 rfl) ?_
    refine G_if_eq (pc := 1108) (a := 1) (b := 0) (r := 1) 1113 X (dg dt_law11 41 rfl) (by decide) (if_pos (lg_same (by rw [show σ2 103 (ix 0) = b9 from h4 hk0]))) (fun _ => ?_) (fun h => absurd h (by decide))
    refine G_goto (pc := 1113) 2285 X (dg dt_law11 44 rfl) (by decide) ?_
    exact G_wk kk ⟨rfl, ⟨rfl, ⟨rfl, ⟨rfl, ⟨rfl, trivial⟩⟩⟩⟩⟩
  · refine G_if_ne (pc := 1098) (a := 1) (b := 0) (r := 1) 1113 X (dg dt_law11 34 rfl) (by decide) (by rw [if_neg hk0]) (fun _ => ?_) (fun h => absurd h (by decide))
    refine G_goto (pc := 1113) 2285 X (dg dt_law11 44 rfl) (by decide) ?_
    exact G_wk kk ⟨rfl, ⟨rfl, ⟨rfl, ⟨rfl, ⟨rfl, trivial⟩⟩⟩⟩⟩
set_option maxRecDepth 100000 in
set_option maxHeartbeats 4000000 in
theorem s_law12 {θ : Th} {ad : Nat → Nat} {cs : Nat × Nat} {b n : Nat} {xs : Nat → Int32} {i : Int32} {σ : St} (X : Cx θ g_strs code 7 "QuasigroveLaw" 2048 84000) (hS9 : Sx θ b n xs) (htr : θ.2.1.stackTraces = false) (hi1 : inb (i + 1) n = true) (hi2 : inb (i + 2) n = true) {k b9 : Int32} {σ1 σ2 : St} (h1 : fw_fillsAnew σ (xs (ix (i + 1))) (xs (ix (i + 2))) = some (k, σ1)) (h2 : f_R_fillsAnew σ1 (xs (ix (i + 1))) (xs (ix (i + 2))) = some (b9, σ2)) (h3 : σ2 82 0 = k) (h4 : k = 0 → σ2 103 0 = b9) (hR : Rm θ (cs.1 + 1) (cs.2 + 6)) (kk : G θ (cs.1 + 1, cs.2 + 6) (g_SH, ad) σ2 2285 [some (.ref b), some (.ref (ad 0)), some (.ref (ad 82)), some (.ref (ad 103)), some (.int i)] []) : G θ cs (g_SH, ad) σ 1116 [some (.ref b), some (.ref (ad 0)), some (.ref (ad 82)), some (.ref (ad 103)), some (.int i), none, none] [] := by
  have hc : Rc θ (cs.1 + 1, cs.2 + 6) := Rm_rc hR
  refine G_aload_n (pc := 1116) 1 X (dg dt_law12 0 rfl) rfl rfl ?_
  refine G_aload_n (pc := 1117) 0 X (dg dt_law12 1 rfl) rfl rfl ?_
  refine G_iload (pc := 1118) X (dg dt_law12 2 rfl) rfl ?_
  refine G_iconst (pc := 1120) 1 X (dg dt_law12 3 rfl) (by decide) ?_
  refine G_iadd (pc := 1121) X (dg dt_law12 4 rfl) ?_
  refine G_sld (pc := 1122) X hS9 (dg dt_law12 5 rfl) hi1 ?_
  refine G_aload_n (pc := 1123) 0 X (dg dt_law12 6 rfl) rfl rfl ?_
  refine G_iload (pc := 1124) X (dg dt_law12 7 rfl) rfl ?_
  refine G_iconst (pc := 1126) 2 X (dg dt_law12 8 rfl) (by decide) ?_
  refine G_iadd (pc := 1127) X (dg dt_law12 9 rfl) ?_
  refine G_sld (pc := 1128) X hS9 (dg dt_law12 10 rfl) hi2 ?_
  refine G_aload_n (pc := 1129) 3 X (dg dt_law12 11 rfl) rfl rfl ?_
  refine G_callSW (pc := 1130) (S := []) (n := 4) [.ref (ad 0), .int (xs (ix (i + 1))), .int (xs (ix (i + 2))), .ref (ad 103)] X hS9.nx (dg dt_law12 12 rfl) w_655 w_71 ⟨by decide +kernel, by decide +kernel, by decide +kernel⟩ w_654 w_653 (s_L_fillsAnew htr ad σ _ _ h1) rfl ⟨Nat.le_of_ble_eq_true rfl, Nat.le_of_ble_eq_true rfl⟩ (Nat.le_of_ble_eq_true rfl) hR ?_
  refine G_istore (pc := 1133) X (dg dt_law12 13 rfl) (Nat.le_of_ble_eq_true rfl) rfl ?_
  refine G_aload_n (pc := 1135) 2 X (dg dt_law12 14 rfl) rfl rfl ?_
  refine G_aload_n (pc := 1136) 0 X (dg dt_law12 15 rfl) rfl rfl ?_
  refine G_iload (pc := 1137) X (dg dt_law12 16 rfl) rfl ?_
  refine G_iconst (pc := 1139) 1 X (dg dt_law12 17 rfl) (by decide) ?_
  refine G_iadd (pc := 1140) X (dg dt_law12 18 rfl) ?_
  refine G_sld (pc := 1141) X hS9 (dg dt_law12 19 rfl) hi1 ?_
  refine G_aload_n (pc := 1142) 0 X (dg dt_law12 20 rfl) rfl rfl ?_
  refine G_iload (pc := 1143) X (dg dt_law12 21 rfl) rfl ?_
  refine G_iconst (pc := 1145) 2 X (dg dt_law12 22 rfl) (by decide) ?_
  refine G_iadd (pc := 1146) X (dg dt_law12 23 rfl) ?_
  refine G_sld (pc := 1147) X hS9 (dg dt_law12 24 rfl) hi2 ?_
  refine G_callV (pc := 1148) (S := []) [.int (xs (ix (i + 1))), .int (xs (ix (i + 2)))] nosub X (dg dt_law12 25 rfl) cb_R_fillsAnew cv_R_fillsAnew w_1275 (s_R_fillsAnew _ ad σ1 _ _ h2) rfl ⟨Nat.le_of_ble_eq_true rfl, Nat.le_of_ble_eq_true rfl⟩ sh_82 rfl (Nat.le_of_ble_eq_true rfl) hc ?_
  refine G_istore (pc := 1151) X (dg dt_law12 26 rfl) (Nat.le_of_ble_eq_true rfl) rfl ?_
  refine G_aload_n (pc := 1153) 2 X (dg dt_law12 27 rfl) rfl rfl ?_
  refine G_callV (pc := 1154) (S := []) [] nosub X (dg dt_law12 28 rfl) cb_R_thrown cv_R_thrown w_1151 (s_R_thrown _ ad σ2 (rv := σ2 82 0) rfl) rfl ⟨Nat.le_of_ble_eq_true rfl, Nat.le_of_ble_eq_true rfl⟩ sh_82 rfl (Nat.le_of_ble_eq_true rfl) hc ?_
  refine G_iload (pc := 1157) X (dg dt_law12 29 rfl) rfl ?_
  refine G_icmp_eq (pc := 1159) (a := 1) (b := 0) (r := 1) 1164 X (dg dt_law12 30 rfl) (by decide) (by rw [if_pos h3]) (fun _ => ?_) (fun h => absurd h (by decide))
  refine G_iload (pc := 1164) X (dg dt_law12 33 rfl) rfl ?_
  by_cases hk0 : k = 0
  · refine G_if_ne (pc := 1166) (a := 0) (b := 1) (r := 1) 1181 X (dg dt_law12 34 rfl) (by decide) (by rw [if_pos hk0]) (fun h => absurd h (by decide)) (fun _ => ?_)
    refine G_aload_n (pc := 1169) 3 X (dg dt_law12 35 rfl) rfl rfl ?_
    refine G_iconst (pc := 1170) 0 X (dg dt_law12 36 rfl) (by decide) ?_
    refine G_lald (pc := 1171) X (dg dt_law12 37 rfl) sh_103 (by decide) ?_
    refine G_iload (pc := 1172) X (dg dt_law12 38 rfl) rfl ?_
    refine G_i2l (pc := 1174) X (dg dt_law12 39 rfl) ?_
    refine G_lcmp (pc := 1175) X (dg dt_law12 40 rfl) ?_
    refine G_if_eq (pc := 1176) (a := 1) (b := 0) (r := 1) 1181 X (dg dt_law12 41 rfl) (by decide) (if_pos (lg_same (by rw [show σ2 103 (ix 0) = b9 from h4 hk0]))) (fun _ => ?_) (fun h => absurd h (by decide))
    refine G_goto (pc := 1181) 2285 X (dg dt_law12 44 rfl) (by decide) ?_
    exact G_wk kk ⟨rfl, ⟨rfl, ⟨rfl, ⟨rfl, ⟨rfl, trivial⟩⟩⟩⟩⟩
  · refine G_if_ne (pc := 1166) (a := 1) (b := 0) (r := 1) 1181 X (dg dt_law12 34 rfl) (by decide) (by rw [if_neg hk0]) (fun _ => ?_) (fun h => absurd h (by decide))
    refine G_goto (pc := 1181) 2285 X (dg dt_law12 44 rfl) (by decide) ?_
    exact G_wk kk ⟨rfl, ⟨rfl, ⟨rfl, ⟨rfl, ⟨rfl, trivial⟩⟩⟩⟩⟩
set_option maxRecDepth 100000 in
set_option maxHeartbeats 4000000 in
theorem s_law13 {θ : Th} {ad : Nat → Nat} {cs : Nat × Nat} {b n : Nat} {xs : Nat → Int32} {i : Int32} {σ : St} (X : Cx θ g_strs code 7 "QuasigroveLaw" 2048 84000) (hS9 : Sx θ b n xs) (htr : θ.2.1.stackTraces = false) (hi1 : inb (i + 1) n = true) {k b9 : Int32} {σ1 σ2 : St} (h1 : fw_fill σ (xs (ix (i + 1))) = some (k, σ1)) (h2 : f_R_fill σ1 (xs (ix (i + 1))) = some (b9, σ2)) (h3 : σ2 82 0 = k) (h4 : k = 0 → σ2 103 0 = b9) (hR : Rm θ (cs.1 + 1) (cs.2 + 6)) (kk : G θ (cs.1 + 1, cs.2 + 6) (g_SH, ad) σ2 2285 [some (.ref b), some (.ref (ad 0)), some (.ref (ad 82)), some (.ref (ad 103)), some (.int i)] []) : G θ cs (g_SH, ad) σ 1184 [some (.ref b), some (.ref (ad 0)), some (.ref (ad 82)), some (.ref (ad 103)), some (.int i), none, none] [] := by
  have hc : Rc θ (cs.1 + 1, cs.2 + 6) := Rm_rc hR
  refine G_aload_n (pc := 1184) 1 X (dg dt_law13 0 rfl) rfl rfl ?_
  refine G_aload_n (pc := 1185) 0 X (dg dt_law13 1 rfl) rfl rfl ?_
  refine G_iload (pc := 1186) X (dg dt_law13 2 rfl) rfl ?_
  refine G_iconst (pc := 1188) 1 X (dg dt_law13 3 rfl) (by decide) ?_
  refine G_iadd (pc := 1189) X (dg dt_law13 4 rfl) ?_
  refine G_sld (pc := 1190) X hS9 (dg dt_law13 5 rfl) hi1 ?_
  refine G_aload_n (pc := 1191) 3 X (dg dt_law13 6 rfl) rfl rfl ?_
  refine G_callSW (pc := 1192) (S := []) (n := 3) [.ref (ad 0), .int (xs (ix (i + 1))), .ref (ad 103)] X hS9.nx (dg dt_law13 7 rfl) w_696 w_71 ⟨by decide +kernel, by decide +kernel, by decide +kernel⟩ w_695 w_694 (s_L_fill htr ad σ _ h1) rfl ⟨Nat.le_of_ble_eq_true rfl, Nat.le_of_ble_eq_true rfl⟩ (Nat.le_of_ble_eq_true rfl) hR ?_
  refine G_istore (pc := 1195) X (dg dt_law13 8 rfl) (Nat.le_of_ble_eq_true rfl) rfl ?_
  refine G_aload_n (pc := 1197) 2 X (dg dt_law13 9 rfl) rfl rfl ?_
  refine G_aload_n (pc := 1198) 0 X (dg dt_law13 10 rfl) rfl rfl ?_
  refine G_iload (pc := 1199) X (dg dt_law13 11 rfl) rfl ?_
  refine G_iconst (pc := 1201) 1 X (dg dt_law13 12 rfl) (by decide) ?_
  refine G_iadd (pc := 1202) X (dg dt_law13 13 rfl) ?_
  refine G_sld (pc := 1203) X hS9 (dg dt_law13 14 rfl) hi1 ?_
  refine G_callV (pc := 1204) (S := []) [.int (xs (ix (i + 1)))] nosub X (dg dt_law13 15 rfl) cb_R_fill cv_R_fill w_1279 (s_R_fill _ ad σ1 _ h2) rfl ⟨Nat.le_of_ble_eq_true rfl, Nat.le_of_ble_eq_true rfl⟩ sh_82 rfl (Nat.le_of_ble_eq_true rfl) hc ?_
  refine G_istore (pc := 1207) X (dg dt_law13 16 rfl) (Nat.le_of_ble_eq_true rfl) rfl ?_
  refine G_aload_n (pc := 1209) 2 X (dg dt_law13 17 rfl) rfl rfl ?_
  refine G_callV (pc := 1210) (S := []) [] nosub X (dg dt_law13 18 rfl) cb_R_thrown cv_R_thrown w_1151 (s_R_thrown _ ad σ2 (rv := σ2 82 0) rfl) rfl ⟨Nat.le_of_ble_eq_true rfl, Nat.le_of_ble_eq_true rfl⟩ sh_82 rfl (Nat.le_of_ble_eq_true rfl) hc ?_
  refine G_iload (pc := 1213) X (dg dt_law13 19 rfl) rfl ?_
  refine G_icmp_eq (pc := 1215) (a := 1) (b := 0) (r := 1) 1220 X (dg dt_law13 20 rfl) (by decide) (by rw [if_pos h3]) (fun _ => ?_) (fun h => absurd h (by decide))
  refine G_iload (pc := 1220) X (dg dt_law13 23 rfl) rfl ?_
  by_cases hk0 : k = 0
  · refine G_if_ne (pc := 1222) (a := 0) (b := 1) (r := 1) 1237 X (dg dt_law13 24 rfl) (by decide) (by rw [if_pos hk0]) (fun h => absurd h (by decide)) (fun _ => ?_)
    refine G_aload_n (pc := 1225) 3 X (dg dt_law13 25 rfl) rfl rfl ?_
    refine G_iconst (pc := 1226) 0 X (dg dt_law13 26 rfl) (by decide) ?_
    refine G_lald (pc := 1227) X (dg dt_law13 27 rfl) sh_103 (by decide) ?_
    refine G_iload (pc := 1228) X (dg dt_law13 28 rfl) rfl ?_
    refine G_i2l (pc := 1230) X (dg dt_law13 29 rfl) ?_
    refine G_lcmp (pc := 1231) X (dg dt_law13 30 rfl) ?_
    refine G_if_eq (pc := 1232) (a := 1) (b := 0) (r := 1) 1237 X (dg dt_law13 31 rfl) (by decide) (if_pos (lg_same (by rw [show σ2 103 (ix 0) = b9 from h4 hk0]))) (fun _ => ?_) (fun h => absurd h (by decide))
    refine G_goto (pc := 1237) 2285 X (dg dt_law13 34 rfl) (by decide) ?_
    exact G_wk kk ⟨rfl, ⟨rfl, ⟨rfl, ⟨rfl, ⟨rfl, trivial⟩⟩⟩⟩⟩
  · refine G_if_ne (pc := 1222) (a := 1) (b := 0) (r := 1) 1237 X (dg dt_law13 24 rfl) (by decide) (by rw [if_neg hk0]) (fun _ => ?_) (fun h => absurd h (by decide))
    refine G_goto (pc := 1237) 2285 X (dg dt_law13 34 rfl) (by decide) ?_
    exact G_wk kk ⟨rfl, ⟨rfl, ⟨rfl, ⟨rfl, ⟨rfl, trivial⟩⟩⟩⟩⟩
set_option maxRecDepth 100000 in
set_option maxHeartbeats 4000000 in
theorem s_law14 {θ : Th} {ad : Nat → Nat} {cs : Nat × Nat} {b n : Nat} {xs : Nat → Int32} {i : Int32} {σ : St} (X : Cx θ g_strs code 7 "QuasigroveLaw" 2048 84000) (hS9 : Sx θ b n xs) (htr : θ.2.1.stackTraces = false) (hi1 : inb (i + 1) n = true) {k b9 : Int32} {σ1 σ2 : St} (h1 : fw_forced σ (xs (ix (i + 1))) = some (k, σ1)) (h2 : f_R_forced σ1 (xs (ix (i + 1))) = some (b9, σ2)) (h3 : σ2 82 0 = k) (h4 : k = 0 → σ2 103 0 = b9) (hR : Rm θ (cs.1 + 1) (cs.2 + 6)) (kk : G θ (cs.1 + 1, cs.2 + 6) (g_SH, ad) σ2 2285 [some (.ref b), some (.ref (ad 0)), some (.ref (ad 82)), some (.ref (ad 103)), some (.int i)] []) : G θ cs (g_SH, ad) σ 1240 [some (.ref b), some (.ref (ad 0)), some (.ref (ad 82)), some (.ref (ad 103)), some (.int i), none, none] [] := by
  have hc : Rc θ (cs.1 + 1, cs.2 + 6) := Rm_rc hR
  refine G_aload_n (pc := 1240) 1 X (dg dt_law14 0 rfl) rfl rfl ?_
  refine G_aload_n (pc := 1241) 0 X (dg dt_law14 1 rfl) rfl rfl ?_
  refine G_iload (pc := 1242) X (dg dt_law14 2 rfl) rfl ?_
  refine G_iconst (pc := 1244) 1 X (dg dt_law14 3 rfl) (by decide) ?_
  refine G_iadd (pc := 1245) X (dg dt_law14 4 rfl) ?_
  refine G_sld (pc := 1246) X hS9 (dg dt_law14 5 rfl) hi1 ?_
  refine G_aload_n (pc := 1247) 3 X (dg dt_law14 6 rfl) rfl rfl ?_
  refine G_callSW (pc := 1248) (S := []) (n := 3) [.ref (ad 0), .int (xs (ix (i + 1))), .ref (ad 103)] X hS9.nx (dg dt_law14 7 rfl) w_710 w_71 ⟨by decide +kernel, by decide +kernel, by decide +kernel⟩ w_709 w_708 (s_L_forced htr ad σ _ h1) rfl ⟨Nat.le_of_ble_eq_true rfl, Nat.le_of_ble_eq_true rfl⟩ (Nat.le_of_ble_eq_true rfl) hR ?_
  refine G_istore (pc := 1251) X (dg dt_law14 8 rfl) (Nat.le_of_ble_eq_true rfl) rfl ?_
  refine G_aload_n (pc := 1253) 2 X (dg dt_law14 9 rfl) rfl rfl ?_
  refine G_aload_n (pc := 1254) 0 X (dg dt_law14 10 rfl) rfl rfl ?_
  refine G_iload (pc := 1255) X (dg dt_law14 11 rfl) rfl ?_
  refine G_iconst (pc := 1257) 1 X (dg dt_law14 12 rfl) (by decide) ?_
  refine G_iadd (pc := 1258) X (dg dt_law14 13 rfl) ?_
  refine G_sld (pc := 1259) X hS9 (dg dt_law14 14 rfl) hi1 ?_
  refine G_callV (pc := 1260) (S := []) [.int (xs (ix (i + 1)))] nosub X (dg dt_law14 15 rfl) cb_R_forced cv_R_forced w_1283 (s_R_forced _ ad σ1 _ h2) rfl ⟨Nat.le_of_ble_eq_true rfl, Nat.le_of_ble_eq_true rfl⟩ sh_82 rfl (Nat.le_of_ble_eq_true rfl) hc ?_
  refine G_istore (pc := 1263) X (dg dt_law14 16 rfl) (Nat.le_of_ble_eq_true rfl) rfl ?_
  refine G_aload_n (pc := 1265) 2 X (dg dt_law14 17 rfl) rfl rfl ?_
  refine G_callV (pc := 1266) (S := []) [] nosub X (dg dt_law14 18 rfl) cb_R_thrown cv_R_thrown w_1151 (s_R_thrown _ ad σ2 (rv := σ2 82 0) rfl) rfl ⟨Nat.le_of_ble_eq_true rfl, Nat.le_of_ble_eq_true rfl⟩ sh_82 rfl (Nat.le_of_ble_eq_true rfl) hc ?_
  refine G_iload (pc := 1269) X (dg dt_law14 19 rfl) rfl ?_
  refine G_icmp_eq (pc := 1271) (a := 1) (b := 0) (r := 1) 1276 X (dg dt_law14 20 rfl) (by decide) (by rw [if_pos h3]) (fun _ => ?_) (fun h => absurd h (by decide))
  refine G_iload (pc := 1276) X (dg dt_law14 23 rfl) rfl ?_
  by_cases hk0 : k = 0
  · refine G_if_ne (pc := 1278) (a := 0) (b := 1) (r := 1) 1293 X (dg dt_law14 24 rfl) (by decide) (by rw [if_pos hk0]) (fun h => absurd h (by decide)) (fun _ => ?_)
    refine G_aload_n (pc := 1281) 3 X (dg dt_law14 25 rfl) rfl rfl ?_
    refine G_iconst (pc := 1282) 0 X (dg dt_law14 26 rfl) (by decide) ?_
    refine G_lald (pc := 1283) X (dg dt_law14 27 rfl) sh_103 (by decide) ?_
    refine G_iload (pc := 1284) X (dg dt_law14 28 rfl) rfl ?_
    refine G_i2l (pc := 1286) X (dg dt_law14 29 rfl) ?_
    refine G_lcmp (pc := 1287) X (dg dt_law14 30 rfl) ?_
    refine G_if_eq (pc := 1288) (a := 1) (b := 0) (r := 1) 1293 X (dg dt_law14 31 rfl) (by decide) (if_pos (lg_same (by rw [show σ2 103 (ix 0) = b9 from h4 hk0]))) (fun _ => ?_) (fun h => absurd h (by decide))
    refine G_goto (pc := 1293) 2285 X (dg dt_law14 34 rfl) (by decide) ?_
    exact G_wk kk ⟨rfl, ⟨rfl, ⟨rfl, ⟨rfl, ⟨rfl, trivial⟩⟩⟩⟩⟩
  · refine G_if_ne (pc := 1278) (a := 1) (b := 0) (r := 1) 1293 X (dg dt_law14 24 rfl) (by decide) (by rw [if_neg hk0]) (fun _ => ?_) (fun h => absurd h (by decide))
    refine G_goto (pc := 1293) 2285 X (dg dt_law14 34 rfl) (by decide) ?_
    exact G_wk kk ⟨rfl, ⟨rfl, ⟨rfl, ⟨rfl, ⟨rfl, trivial⟩⟩⟩⟩⟩
set_option maxRecDepth 100000 in
set_option maxHeartbeats 4000000 in
theorem s_law15 {θ : Th} {ad : Nat → Nat} {cs : Nat × Nat} {b n : Nat} {xs : Nat → Int32} {i : Int32} {σ : St} (X : Cx θ g_strs code 7 "QuasigroveLaw" 2048 84000) (hS9 : Sx θ b n xs) (htr : θ.2.1.stackTraces = false) (hi1 : inb (i + 1) n = true) {k b9 : Int32} {σ1 σ2 : St} (h1 : fw_logic σ (xs (ix (i + 1))) = some (k, σ1)) (h2 : f_R_logic σ1 (xs (ix (i + 1))) = some (b9, σ2)) (h3 : σ2 82 0 = k) (h4 : k = 0 → σ2 103 0 = b9) (hR : Rm θ (cs.1 + 1) (cs.2 + 6)) (kk : G θ (cs.1 + 1, cs.2 + 6) (g_SH, ad) σ2 2285 [some (.ref b), some (.ref (ad 0)), some (.ref (ad 82)), some (.ref (ad 103)), some (.int i)] []) : G θ cs (g_SH, ad) σ 1296 [some (.ref b), some (.ref (ad 0)), some (.ref (ad 82)), some (.ref (ad 103)), some (.int i), none, none] [] := by
  have hc : Rc θ (cs.1 + 1, cs.2 + 6) := Rm_rc hR
  refine G_aload_n (pc := 1296) 1 X (dg dt_law15 0 rfl) rfl rfl ?_
  refine G_aload_n (pc := 1297) 0 X (dg dt_law15 1 rfl) rfl rfl ?_
  refine G_iload (pc := 1298) X (dg dt_law15 2 rfl) rfl ?_
  refine G_iconst (pc := 1300) 1 X (dg dt_law15 3 rfl) (by decide) ?_
  refine G_iadd (pc := 1301) X (dg dt_law15 4 rfl) ?_
  refine G_sld (pc := 1302) X hS9 (dg dt_law15 5 rfl) hi1 ?_
  refine G_aload_n (pc := 1303) 3 X (dg dt_law15 6 rfl) rfl rfl ?_
  refine G_callSW (pc := 1304) (S := []) (n := 3) [.ref (ad 0), .int (xs (ix (i + 1))), .ref (ad 103)] X hS9.nx (dg dt_law15 7 rfl) w_744 w_71 ⟨by decide +kernel, by decide +kernel, by decide +kernel⟩ w_743 w_742 (s_L_logic htr ad σ _ h1) rfl ⟨Nat.le_of_ble_eq_true rfl, Nat.le_of_ble_eq_true rfl⟩ (Nat.le_of_ble_eq_true rfl) hR ?_
  refine G_istore (pc := 1307) X (dg dt_law15 8 rfl) (Nat.le_of_ble_eq_true rfl) rfl ?_
  refine G_aload_n (pc := 1309) 2 X (dg dt_law15 9 rfl) rfl rfl ?_
  refine G_aload_n (pc := 1310) 0 X (dg dt_law15 10 rfl) rfl rfl ?_
  refine G_iload (pc := 1311) X (dg dt_law15 11 rfl) rfl ?_
  refine G_iconst (pc := 1313) 1 X (dg dt_law15 12 rfl) (by decide) ?_
  refine G_iadd (pc := 1314) X (dg dt_law15 13 rfl) ?_
  refine G_sld (pc := 1315) X hS9 (dg dt_law15 14 rfl) hi1 ?_
  refine G_callV (pc := 1316) (S := []) [.int (xs (ix (i + 1)))] nosub X (dg dt_law15 15 rfl) cb_R_logic cv_R_logic w_1295 (s_R_logic _ ad σ1 _ h2) rfl ⟨Nat.le_of_ble_eq_true rfl, Nat.le_of_ble_eq_true rfl⟩ sh_82 rfl (Nat.le_of_ble_eq_true rfl) hc ?_
  refine G_istore (pc := 1319) X (dg dt_law15 16 rfl) (Nat.le_of_ble_eq_true rfl) rfl ?_
  refine G_aload_n (pc := 1321) 2 X (dg dt_law15 17 rfl) rfl rfl ?_
  refine G_callV (pc := 1322) (S := []) [] nosub X (dg dt_law15 18 rfl) cb_R_thrown cv_R_thrown w_1151 (s_R_thrown _ ad σ2 (rv := σ2 82 0) rfl) rfl ⟨Nat.le_of_ble_eq_true rfl, Nat.le_of_ble_eq_true rfl⟩ sh_82 rfl (Nat.le_of_ble_eq_true rfl) hc ?_
  refine G_iload (pc := 1325) X (dg dt_law15 19 rfl) rfl ?_
  refine G_icmp_eq (pc := 1327) (a := 1) (b := 0) (r := 1) 1332 X (dg dt_law15 20 rfl) (by decide) (by rw [if_pos h3]) (fun _ => ?_) (fun h => absurd h (by decide))
  refine G_iload (pc := 1332) X (dg dt_law15 23 rfl) rfl ?_
  by_cases hk0 : k = 0
  · refine G_if_ne (pc := 1334) (a := 0) (b := 1) (r := 1) 1349 X (dg dt_law15 24 rfl) (by decide) (by rw [if_pos hk0]) (fun h => absurd h (by decide)) (fun _ => ?_)
    refine G_aload_n (pc := 1337) 3 X (dg dt_law15 25 rfl) rfl rfl ?_
    refine G_iconst (pc := 1338) 0 X (dg dt_law15 26 rfl) (by decide) ?_
    refine G_lald (pc := 1339) X (dg dt_law15 27 rfl) sh_103 (by decide) ?_
    refine G_iload (pc := 1340) X (dg dt_law15 28 rfl) rfl ?_
    refine G_i2l (pc := 1342) X (dg dt_law15 29 rfl) ?_
    refine G_lcmp (pc := 1343) X (dg dt_law15 30 rfl) ?_
    refine G_if_eq (pc := 1344) (a := 1) (b := 0) (r := 1) 1349 X (dg dt_law15 31 rfl) (by decide) (if_pos (lg_same (by rw [show σ2 103 (ix 0) = b9 from h4 hk0]))) (fun _ => ?_) (fun h => absurd h (by decide))
    refine G_goto (pc := 1349) 2285 X (dg dt_law15 34 rfl) (by decide) ?_
    exact G_wk kk ⟨rfl, ⟨rfl, ⟨rfl, ⟨rfl, ⟨rfl, trivial⟩⟩⟩⟩⟩
  · refine G_if_ne (pc := 1334) (a := 1) (b := 0) (r := 1) 1349 X (dg dt_law15 24 rfl) (by decide) (by rw [if_neg hk0]) (fun _ => ?_) (fun h => absurd h (by decide))
    refine G_goto (pc := 1349) 2285 X (dg dt_law15 34 rfl) (by decide) ?_
    exact G_wk kk ⟨rfl, ⟨rfl, ⟨rfl, ⟨rfl, ⟨rfl, trivial⟩⟩⟩⟩⟩
set_option maxRecDepth 100000 in
set_option maxHeartbeats 4000000 in
theorem s_law16 {θ : Th} {ad : Nat → Nat} {cs : Nat × Nat} {b n : Nat} {xs : Nat → Int32} {i : Int32} {σ : St} (X : Cx θ g_strs code 7 "QuasigroveLaw" 2048 84000) (hS9 : Sx θ b n xs) (htr : θ.2.1.stackTraces = false) (hi1 : inb (i + 1) n = true) {k b9 : Int32} {σ1 σ2 : St} (h1 : fw_critical σ (xs (ix (i + 1))) = some (k, σ1)) (h2 : f_R_critical σ1 (xs (ix (i + 1))) = some (b9, σ2)) (h3 : σ2 82 0 = k) (h4 : k = 0 → σ2 103 0 = b9) (hR : Rm θ (cs.1 + 1) (cs.2 + 6)) (kk : G θ (cs.1 + 1, cs.2 + 6) (g_SH, ad) σ2 2285 [some (.ref b), some (.ref (ad 0)), some (.ref (ad 82)), some (.ref (ad 103)), some (.int i)] []) : G θ cs (g_SH, ad) σ 1352 [some (.ref b), some (.ref (ad 0)), some (.ref (ad 82)), some (.ref (ad 103)), some (.int i), none, none] [] := by
  have hc : Rc θ (cs.1 + 1, cs.2 + 6) := Rm_rc hR
  refine G_aload_n (pc := 1352) 1 X (dg dt_law16 0 rfl) rfl rfl ?_
  refine G_aload_n (pc := 1353) 0 X (dg dt_law16 1 rfl) rfl rfl ?_
  refine G_iload (pc := 1354) X (dg dt_law16 2 rfl) rfl ?_
  refine G_iconst (pc := 1356) 1 X (dg dt_law16 3 rfl) (by decide) ?_
  refine G_iadd (pc := 1357) X (dg dt_law16 4 rfl) ?_
  refine G_sld (pc := 1358) X hS9 (dg dt_law16 5 rfl) hi1 ?_
  refine G_aload_n (pc := 1359) 3 X (dg dt_law16 6 rfl) rfl rfl ?_
  refine G_callSW (pc := 1360) (S := []) (n := 3) [.ref (ad 0), .int (xs (ix (i + 1))), .ref (ad 103)] X hS9.nx (dg dt_law16 7 rfl) w_758 w_71 ⟨by decide +kernel, by decide +kernel, by decide +kernel⟩ w_757 w_756 (s_L_critical htr ad σ _ h1) rfl ⟨Nat.le_of_ble_eq_true rfl, Nat.le_of_ble_eq_true rfl⟩ (Nat.le_of_ble_eq_true rfl) hR ?_
  refine G_istore (pc := 1363) X (dg dt_law16 8 rfl) (Nat.le_of_ble_eq_true rfl) rfl ?_
  refine G_aload_n (pc := 1365) 2 X (dg dt_law16 9 rfl) rfl rfl ?_
  refine G_aload_n (pc := 1366) 0 X (dg dt_law16 10 rfl) rfl rfl ?_
  refine G_iload (pc := 1367) X (dg dt_law16 11 rfl) rfl ?_
  refine G_iconst (pc := 1369) 1 X (dg dt_law16 12 rfl) (by decide) ?_
  refine G_iadd (pc := 1370) X (dg dt_law16 13 rfl) ?_
  refine G_sld (pc := 1371) X hS9 (dg dt_law16 14 rfl) hi1 ?_
  refine G_callV (pc := 1372) (S := []) [.int (xs (ix (i + 1)))] nosub X (dg dt_law16 15 rfl) cb_R_critical cv_R_critical w_1299 (s_R_critical _ ad σ1 _ h2) rfl ⟨Nat.le_of_ble_eq_true rfl, Nat.le_of_ble_eq_true rfl⟩ sh_82 rfl (Nat.le_of_ble_eq_true rfl) hc ?_
  refine G_istore (pc := 1375) X (dg dt_law16 16 rfl) (Nat.le_of_ble_eq_true rfl) rfl ?_
  refine G_aload_n (pc := 1377) 2 X (dg dt_law16 17 rfl) rfl rfl ?_
  refine G_callV (pc := 1378) (S := []) [] nosub X (dg dt_law16 18 rfl) cb_R_thrown cv_R_thrown w_1151 (s_R_thrown _ ad σ2 (rv := σ2 82 0) rfl) rfl ⟨Nat.le_of_ble_eq_true rfl, Nat.le_of_ble_eq_true rfl⟩ sh_82 rfl (Nat.le_of_ble_eq_true rfl) hc ?_
  refine G_iload (pc := 1381) X (dg dt_law16 19 rfl) rfl ?_
  refine G_icmp_eq (pc := 1383) (a := 1) (b := 0) (r := 1) 1388 X (dg dt_law16 20 rfl) (by decide) (by rw [if_pos h3]) (fun _ => ?_) (fun h => absurd h (by decide))
  refine G_iload (pc := 1388) X (dg dt_law16 23 rfl) rfl ?_
  by_cases hk0 : k = 0
  · refine G_if_ne (pc := 1390) (a := 0) (b := 1) (r := 1) 1405 X (dg dt_law16 24 rfl) (by decide) (by rw [if_pos hk0]) (fun h => absurd h (by decide)) (fun _ => ?_)
    refine G_aload_n (pc := 1393) 3 X (dg dt_law16 25 rfl) rfl rfl ?_
    refine G_iconst (pc := 1394) 0 X (dg dt_law16 26 rfl) (by decide) ?_
    refine G_lald (pc := 1395) X (dg dt_law16 27 rfl) sh_103 (by decide) ?_
    refine G_iload (pc := 1396) X (dg dt_law16 28 rfl) rfl ?_
    refine G_i2l (pc := 1398) X (dg dt_law16 29 rfl) ?_
    refine G_lcmp (pc := 1399) X (dg dt_law16 30 rfl) ?_
    refine G_if_eq (pc := 1400) (a := 1) (b := 0) (r := 1) 1405 X (dg dt_law16 31 rfl) (by decide) (if_pos (lg_same (by rw [show σ2 103 (ix 0) = b9 from h4 hk0]))) (fun _ => ?_) (fun h => absurd h (by decide))
    refine G_goto (pc := 1405) 2285 X (dg dt_law16 34 rfl) (by decide) ?_
    exact G_wk kk ⟨rfl, ⟨rfl, ⟨rfl, ⟨rfl, ⟨rfl, trivial⟩⟩⟩⟩⟩
  · refine G_if_ne (pc := 1390) (a := 1) (b := 0) (r := 1) 1405 X (dg dt_law16 24 rfl) (by decide) (by rw [if_neg hk0]) (fun _ => ?_) (fun h => absurd h (by decide))
    refine G_goto (pc := 1405) 2285 X (dg dt_law16 34 rfl) (by decide) ?_
    exact G_wk kk ⟨rfl, ⟨rfl, ⟨rfl, ⟨rfl, ⟨rfl, trivial⟩⟩⟩⟩⟩
set_option maxRecDepth 100000 in
set_option maxHeartbeats 4000000 in
theorem s_law17 {θ : Th} {ad : Nat → Nat} {cs : Nat × Nat} {b n : Nat} {xs : Nat → Int32} {i : Int32} {σ : St} (X : Cx θ g_strs code 7 "QuasigroveLaw" 2048 84000) (hS9 : Sx θ b n xs) (htr : θ.2.1.stackTraces = false) (hi1 : inb (i + 1) n = true) (hi2 : inb (i + 2) n = true) (hi3 : inb (i + 3) n = true) {k b9 : Int32} {σ1 σ2 : St} (h1 : fw_type σ (tyL (xs (ix (i + 1))) (xs (ix (i + 2)))) (xs (ix (i + 3))) = some (k, σ1)) (h2 : f_R_type σ1 (tyL (xs (ix (i + 1))) (xs (ix (i + 2)))) (xs (ix (i + 3))) = some (b9, σ2)) (h3 : σ2 82 0 = k) (h4 : k = 0 → σ2 103 0 = b9) (hR : Rm θ (cs.1 + 1) (cs.2 + 6)) (kk : G θ (cs.1 + 1, cs.2 + 6) (g_SH, ad) σ2 2285 [some (.ref b), some (.ref (ad 0)), some (.ref (ad 82)), some (.ref (ad 103)), some (.int i)] []) : G θ cs (g_SH, ad) σ 1408 [some (.ref b), some (.ref (ad 0)), some (.ref (ad 82)), some (.ref (ad 103)), some (.int i), none, none] [] := by
  have hc : Rc θ (cs.1 + 1, cs.2 + 6) := Rm_rc hR
  refine G_aload_n (pc := 1408) 1 X (dg dt_law17 0 rfl) rfl rfl ?_
  refine G_aload_n (pc := 1409) 0 X (dg dt_law17 1 rfl) rfl rfl ?_
  refine G_iload (pc := 1410) X (dg dt_law17 2 rfl) rfl ?_
  refine G_iconst (pc := 1412) 1 X (dg dt_law17 3 rfl) (by decide) ?_
  refine G_iadd (pc := 1413) X (dg dt_law17 4 rfl) ?_
  refine G_sld (pc := 1414) X hS9 (dg dt_law17 5 rfl) hi1 ?_
  refine G_i2l (pc := 1415) X (dg dt_law17 6 rfl) ?_
  refine G_bipush (pc := 1416) 32 X (dg dt_law17 7 rfl) (by decide) ?_
  refine G_lshl (pc := 1418) X (dg dt_law17 8 rfl) ?_
  refine G_aload_n (pc := 1419) 0 X (dg dt_law17 9 rfl) rfl rfl ?_
  refine G_iload (pc := 1420) X (dg dt_law17 10 rfl) rfl ?_
  refine G_iconst (pc := 1422) 2 X (dg dt_law17 11 rfl) (by decide) ?_
  refine G_iadd (pc := 1423) X (dg dt_law17 12 rfl) ?_
  refine G_sld (pc := 1424) X hS9 (dg dt_law17 13 rfl) hi2 ?_
  refine G_i2l (pc := 1425) X (dg dt_law17 14 rfl) ?_
  refine G_ldc2 (pc := 1426) X (dg dt_law17 15 rfl) w_1460 ?_
  refine G_land (pc := 1429) X (dg dt_law17 16 rfl) ?_
  refine G_lor (pc := 1430) X (dg dt_law17 17 rfl) ?_
  refine G_aload_n (pc := 1431) 0 X (dg dt_law17 18 rfl) rfl rfl ?_
  refine G_iload (pc := 1432) X (dg dt_law17 19 rfl) rfl ?_
  refine G_iconst (pc := 1434) 3 X (dg dt_law17 20 rfl) (by decide) ?_
  refine G_iadd (pc := 1435) X (dg dt_law17 21 rfl) ?_
  refine G_sld (pc := 1436) X hS9 (dg dt_law17 22 rfl) hi3 ?_
  refine G_aload_n (pc := 1437) 3 X (dg dt_law17 23 rfl) rfl rfl ?_
  refine G_callSW (pc := 1438) (S := []) (n := 4) [.ref (ad 0), .long (tyL (xs (ix (i + 1))) (xs (ix (i + 2)))), .int (xs (ix (i + 3))), .ref (ad 103)] X hS9.nx (dg dt_law17 24 rfl) w_791 w_71 ⟨by decide +kernel, by decide +kernel, by decide +kernel⟩ w_790 w_789 (s_L_type htr ad σ _ _ h1) rfl ⟨Nat.le_of_ble_eq_true rfl, Nat.le_of_ble_eq_true rfl⟩ (Nat.le_of_ble_eq_true rfl) hR ?_
  refine G_istore (pc := 1441) X (dg dt_law17 25 rfl) (Nat.le_of_ble_eq_true rfl) rfl ?_
  refine G_aload_n (pc := 1443) 2 X (dg dt_law17 26 rfl) rfl rfl ?_
  refine G_aload_n (pc := 1444) 0 X (dg dt_law17 27 rfl) rfl rfl ?_
  refine G_iload (pc := 1445) X (dg dt_law17 28 rfl) rfl ?_
  refine G_iconst (pc := 1447) 1 X (dg dt_law17 29 rfl) (by decide) ?_
  refine G_iadd (pc := 1448) X (dg dt_law17 30 rfl) ?_
  refine G_sld (pc := 1449) X hS9 (dg dt_law17 31 rfl) hi1 ?_
  refine G_i2l (pc := 1450) X (dg dt_law17 32 rfl) ?_
  refine G_bipush (pc := 1451) 32 X (dg dt_law17 33 rfl) (by decide) ?_
  refine G_lshl (pc := 1453) X (dg dt_law17 34 rfl) ?_
  refine G_aload_n (pc := 1454) 0 X (dg dt_law17 35 rfl) rfl rfl ?_
  refine G_iload (pc := 1455) X (dg dt_law17 36 rfl) rfl ?_
  refine G_iconst (pc := 1457) 2 X (dg dt_law17 37 rfl) (by decide) ?_
  refine G_iadd (pc := 1458) X (dg dt_law17 38 rfl) ?_
  refine G_sld (pc := 1459) X hS9 (dg dt_law17 39 rfl) hi2 ?_
  refine G_i2l (pc := 1460) X (dg dt_law17 40 rfl) ?_
  refine G_ldc2 (pc := 1461) X (dg dt_law17 41 rfl) w_1460 ?_
  refine G_land (pc := 1464) X (dg dt_law17 42 rfl) ?_
  refine G_lor (pc := 1465) X (dg dt_law17 43 rfl) ?_
  refine G_aload_n (pc := 1466) 0 X (dg dt_law17 44 rfl) rfl rfl ?_
  refine G_iload (pc := 1467) X (dg dt_law17 45 rfl) rfl ?_
  refine G_iconst (pc := 1469) 3 X (dg dt_law17 46 rfl) (by decide) ?_
  refine G_iadd (pc := 1470) X (dg dt_law17 47 rfl) ?_
  refine G_sld (pc := 1471) X hS9 (dg dt_law17 48 rfl) hi3 ?_
  refine G_callV (pc := 1472) (S := []) [.long (tyL (xs (ix (i + 1))) (xs (ix (i + 2)))), .int (xs (ix (i + 3)))] nosub X (dg dt_law17 49 rfl) cb_R_type cv_R_type w_1307 (s_R_type _ ad σ1 _ _ h2) rfl ⟨Nat.le_of_ble_eq_true rfl, Nat.le_of_ble_eq_true rfl⟩ sh_82 rfl (Nat.le_of_ble_eq_true rfl) hc ?_
  refine G_istore (pc := 1475) X (dg dt_law17 50 rfl) (Nat.le_of_ble_eq_true rfl) rfl ?_
  refine G_aload_n (pc := 1477) 2 X (dg dt_law17 51 rfl) rfl rfl ?_
  refine G_callV (pc := 1478) (S := []) [] nosub X (dg dt_law17 52 rfl) cb_R_thrown cv_R_thrown w_1151 (s_R_thrown _ ad σ2 (rv := σ2 82 0) rfl) rfl ⟨Nat.le_of_ble_eq_true rfl, Nat.le_of_ble_eq_true rfl⟩ sh_82 rfl (Nat.le_of_ble_eq_true rfl) hc ?_
  refine G_iload (pc := 1481) X (dg dt_law17 53 rfl) rfl ?_
  refine G_icmp_eq (pc := 1483) (a := 1) (b := 0) (r := 1) 1488 X (dg dt_law17 54 rfl) (by decide) (by rw [if_pos h3]) (fun _ => ?_) (fun h => absurd h (by decide))
  refine G_iload (pc := 1488) X (dg dt_law17 57 rfl) rfl ?_
  by_cases hk0 : k = 0
  · refine G_if_ne (pc := 1490) (a := 0) (b := 1) (r := 1) 1505 X (dg dt_law17 58 rfl) (by decide) (by rw [if_pos hk0]) (fun h => absurd h (by decide)) (fun _ => ?_)
    refine G_aload_n (pc := 1493) 3 X (dg dt_law17 59 rfl) rfl rfl ?_
    refine G_iconst (pc := 1494) 0 X (dg dt_law17 60 rfl) (by decide) ?_
    refine G_lald (pc := 1495) X (dg dt_law17 61 rfl) sh_103 (by decide) ?_
    refine G_iload (pc := 1496) X (dg dt_law17 62 rfl) rfl ?_
    refine G_i2l (pc := 1498) X (dg dt_law17 63 rfl) ?_
    refine G_lcmp (pc := 1499) X (dg dt_law17 64 rfl) ?_
    refine G_if_eq (pc := 1500) (a := 1) (b := 0) (r := 1) 1505 X (dg dt_law17 65 rfl) (by decide) (if_pos (lg_same (by rw [show σ2 103 (ix 0) = b9 from h4 hk0]))) (fun _ => ?_) (fun h => absurd h (by decide))
    refine G_goto (pc := 1505) 2285 X (dg dt_law17 68 rfl) (by decide) ?_
    exact G_wk kk ⟨rfl, ⟨rfl, ⟨rfl, ⟨rfl, ⟨rfl, trivial⟩⟩⟩⟩⟩
  · refine G_if_ne (pc := 1490) (a := 1) (b := 0) (r := 1) 1505 X (dg dt_law17 58 rfl) (by decide) (by rw [if_neg hk0]) (fun _ => ?_) (fun h => absurd h (by decide))
    refine G_goto (pc := 1505) 2285 X (dg dt_law17 68 rfl) (by decide) ?_
    exact G_wk kk ⟨rfl, ⟨rfl, ⟨rfl, ⟨rfl, ⟨rfl, trivial⟩⟩⟩⟩⟩
set_option maxRecDepth 100000 in
set_option maxHeartbeats 4000000 in
theorem s_law18 {θ : Th} {ad : Nat → Nat} {cs : Nat × Nat} {b n : Nat} {xs : Nat → Int32} {i : Int32} {σ : St} (X : Cx θ g_strs code 7 "QuasigroveLaw" 2048 84000) (hS9 : Sx θ b n xs) (htr : θ.2.1.stackTraces = false)  (hc : Rc θ cs) {k b9 : Int32} {σ1 : St} {σ2 : St} (h1 : f_Q_wipe σ = some (k, σ1)) (h2 : f_R_wipe σ1 = some (b9, σ2)) (h3 : k = b9) (kk : G θ cs (g_SH, ad) σ2 2285 [some (.ref b), some (.ref (ad 0)), some (.ref (ad 82)), some (.ref (ad 103)), some (.int i)] []) : G θ cs (g_SH, ad) σ 1508 [some (.ref b), some (.ref (ad 0)), some (.ref (ad 82)), some (.ref (ad 103)), some (.int i), none, none] [] := by
  refine G_aload_n (pc := 1508) 1 X (dg dt_law18 0 rfl) rfl rfl ?_
  refine G_callV (pc := 1509) (S := []) [] nosub X (dg dt_law18 1 rfl) cb_Q_wipe cv_Q_wipe w_292 (s_Q_wipe _ ad σ h1) rfl ⟨Nat.le_of_ble_eq_true rfl, Nat.le_of_ble_eq_true rfl⟩ sh_0 rfl (Nat.le_of_ble_eq_true rfl) hc ?_
  refine G_aload_n (pc := 1512) 2 X (dg dt_law18 2 rfl) rfl rfl ?_
  refine G_callV (pc := 1513) (S := [.int k]) [] nosub X (dg dt_law18 3 rfl) cb_R_wipe cv_R_wipe w_1316 (s_R_wipe _ ad σ1 h2) rfl ⟨Nat.le_of_ble_eq_true rfl, Nat.le_of_ble_eq_true rfl⟩ sh_82 rfl (Nat.le_of_ble_eq_true rfl) hc ?_
  refine G_icmp_eq (pc := 1516) (a := 1) (b := 0) (r := 1) 2285 X (dg dt_law18 4 rfl) (by decide) (by rw [if_pos h3]) (fun _ => ?_) (fun h => absurd h (by decide))
  exact G_wk kk ⟨rfl, ⟨rfl, ⟨rfl, ⟨rfl, ⟨rfl, trivial⟩⟩⟩⟩⟩
set_option maxRecDepth 100000 in
set_option maxHeartbeats 4000000 in
theorem s_law19 {θ : Th} {ad : Nat → Nat} {cs : Nat × Nat} {b n : Nat} {xs : Nat → Int32} {i : Int32} {σ : St} (X : Cx θ g_strs code 7 "QuasigroveLaw" 2048 84000) (hS9 : Sx θ b n xs) (htr : θ.2.1.stackTraces = false)  (hc : Rc θ cs) {k b9 : Int32} {σ1 : St} {σ2 : St} (h1 : f_Q_fault σ = some (k, σ1)) (h2 : f_R_fault σ1 = some (b9, σ2)) (h3 : k = b9) (kk : G θ cs (g_SH, ad) σ2 2285 [some (.ref b), some (.ref (ad 0)), some (.ref (ad 82)), some (.ref (ad 103)), some (.int i)] []) : G θ cs (g_SH, ad) σ 1521 [some (.ref b), some (.ref (ad 0)), some (.ref (ad 82)), some (.ref (ad 103)), some (.int i), none, none] [] := by
  refine G_aload_n (pc := 1521) 1 X (dg dt_law19 0 rfl) rfl rfl ?_
  refine G_callV (pc := 1522) (S := []) [] nosub X (dg dt_law19 1 rfl) cb_Q_fault cv_Q_fault w_296 (s_Q_fault _ ad σ h1) rfl ⟨Nat.le_of_ble_eq_true rfl, Nat.le_of_ble_eq_true rfl⟩ sh_0 rfl (Nat.le_of_ble_eq_true rfl) hc ?_
  refine G_aload_n (pc := 1525) 2 X (dg dt_law19 2 rfl) rfl rfl ?_
  refine G_callV (pc := 1526) (S := [.int k]) [] nosub X (dg dt_law19 3 rfl) cb_R_fault cv_R_fault w_1320 (s_R_fault _ ad σ1 h2) rfl ⟨Nat.le_of_ble_eq_true rfl, Nat.le_of_ble_eq_true rfl⟩ sh_82 rfl (Nat.le_of_ble_eq_true rfl) hc ?_
  refine G_icmp_eq (pc := 1529) (a := 1) (b := 0) (r := 1) 2285 X (dg dt_law19 4 rfl) (by decide) (by rw [if_pos h3]) (fun _ => ?_) (fun h => absurd h (by decide))
  exact G_wk kk ⟨rfl, ⟨rfl, ⟨rfl, ⟨rfl, ⟨rfl, trivial⟩⟩⟩⟩⟩
set_option maxRecDepth 100000 in
set_option maxHeartbeats 4000000 in
theorem s_law20 {θ : Th} {ad : Nat → Nat} {cs : Nat × Nat} {b n : Nat} {xs : Nat → Int32} {i : Int32} {σ : St} (X : Cx θ g_strs code 7 "QuasigroveLaw" 2048 84000) (hS9 : Sx θ b n xs) (htr : θ.2.1.stackTraces = false) (hi1 : inb (i + 1) n = true) {k b9 : Int32} {σ1 σ2 : St} (h1 : fw_breaks σ (xs (ix (i + 1))) = some (k, σ1)) (h2 : f_R_breaks σ1 (xs (ix (i + 1))) = some (b9, σ2)) (h3 : σ2 82 0 = k) (h4 : k = 0 → σ2 103 0 = b9) (hR : Rm θ (cs.1 + 1) (cs.2 + 6)) (kk : G θ (cs.1 + 1, cs.2 + 6) (g_SH, ad) σ2 2285 [some (.ref b), some (.ref (ad 0)), some (.ref (ad 82)), some (.ref (ad 103)), some (.int i)] []) : G θ cs (g_SH, ad) σ 1534 [some (.ref b), some (.ref (ad 0)), some (.ref (ad 82)), some (.ref (ad 103)), some (.int i), none, none] [] := by
  have hc : Rc θ (cs.1 + 1, cs.2 + 6) := Rm_rc hR
  refine G_aload_n (pc := 1534) 1 X (dg dt_law20 0 rfl) rfl rfl ?_
  refine G_aload_n (pc := 1535) 0 X (dg dt_law20 1 rfl) rfl rfl ?_
  refine G_iload (pc := 1536) X (dg dt_law20 2 rfl) rfl ?_
  refine G_iconst (pc := 1538) 1 X (dg dt_law20 3 rfl) (by decide) ?_
  refine G_iadd (pc := 1539) X (dg dt_law20 4 rfl) ?_
  refine G_sld (pc := 1540) X hS9 (dg dt_law20 5 rfl) hi1 ?_
  refine G_aload_n (pc := 1541) 3 X (dg dt_law20 6 rfl) rfl rfl ?_
  refine G_callSW (pc := 1542) (S := []) (n := 3) [.ref (ad 0), .int (xs (ix (i + 1))), .ref (ad 103)] X hS9.nx (dg dt_law20 7 rfl) w_812 w_71 ⟨by decide +kernel, by decide +kernel, by decide +kernel⟩ w_811 w_810 (s_L_breaks htr ad σ _ h1) rfl ⟨Nat.le_of_ble_eq_true rfl, Nat.le_of_ble_eq_true rfl⟩ (Nat.le_of_ble_eq_true rfl) hR ?_
  refine G_istore (pc := 1545) X (dg dt_law20 8 rfl) (Nat.le_of_ble_eq_true rfl) rfl ?_
  refine G_aload_n (pc := 1547) 2 X (dg dt_law20 9 rfl) rfl rfl ?_
  refine G_aload_n (pc := 1548) 0 X (dg dt_law20 10 rfl) rfl rfl ?_
  refine G_iload (pc := 1549) X (dg dt_law20 11 rfl) rfl ?_
  refine G_iconst (pc := 1551) 1 X (dg dt_law20 12 rfl) (by decide) ?_
  refine G_iadd (pc := 1552) X (dg dt_law20 13 rfl) ?_
  refine G_sld (pc := 1553) X hS9 (dg dt_law20 14 rfl) hi1 ?_
  refine G_callV (pc := 1554) (S := []) [.int (xs (ix (i + 1)))] nosub X (dg dt_law20 15 rfl) cb_R_breaks cv_R_breaks w_1328 (s_R_breaks _ ad σ1 _ h2) rfl ⟨Nat.le_of_ble_eq_true rfl, Nat.le_of_ble_eq_true rfl⟩ sh_82 rfl (Nat.le_of_ble_eq_true rfl) hc ?_
  refine G_istore (pc := 1557) X (dg dt_law20 16 rfl) (Nat.le_of_ble_eq_true rfl) rfl ?_
  refine G_aload_n (pc := 1559) 2 X (dg dt_law20 17 rfl) rfl rfl ?_
  refine G_callV (pc := 1560) (S := []) [] nosub X (dg dt_law20 18 rfl) cb_R_thrown cv_R_thrown w_1151 (s_R_thrown _ ad σ2 (rv := σ2 82 0) rfl) rfl ⟨Nat.le_of_ble_eq_true rfl, Nat.le_of_ble_eq_true rfl⟩ sh_82 rfl (Nat.le_of_ble_eq_true rfl) hc ?_
  refine G_iload (pc := 1563) X (dg dt_law20 19 rfl) rfl ?_
  refine G_icmp_eq (pc := 1565) (a := 1) (b := 0) (r := 1) 1570 X (dg dt_law20 20 rfl) (by decide) (by rw [if_pos h3]) (fun _ => ?_) (fun h => absurd h (by decide))
  refine G_iload (pc := 1570) X (dg dt_law20 23 rfl) rfl ?_
  by_cases hk0 : k = 0
  · refine G_if_ne (pc := 1572) (a := 0) (b := 1) (r := 1) 1587 X (dg dt_law20 24 rfl) (by decide) (by rw [if_pos hk0]) (fun h => absurd h (by decide)) (fun _ => ?_)
    refine G_aload_n (pc := 1575) 3 X (dg dt_law20 25 rfl) rfl rfl ?_
    refine G_iconst (pc := 1576) 0 X (dg dt_law20 26 rfl) (by decide) ?_
    refine G_lald (pc := 1577) X (dg dt_law20 27 rfl) sh_103 (by decide) ?_
    refine G_iload (pc := 1578) X (dg dt_law20 28 rfl) rfl ?_
    refine G_i2l (pc := 1580) X (dg dt_law20 29 rfl) ?_
    refine G_lcmp (pc := 1581) X (dg dt_law20 30 rfl) ?_
    refine G_if_eq (pc := 1582) (a := 1) (b := 0) (r := 1) 1587 X (dg dt_law20 31 rfl) (by decide) (if_pos (lg_same (by rw [show σ2 103 (ix 0) = b9 from h4 hk0]))) (fun _ => ?_) (fun h => absurd h (by decide))
    refine G_goto (pc := 1587) 2285 X (dg dt_law20 34 rfl) (by decide) ?_
    exact G_wk kk ⟨rfl, ⟨rfl, ⟨rfl, ⟨rfl, ⟨rfl, trivial⟩⟩⟩⟩⟩
  · refine G_if_ne (pc := 1572) (a := 1) (b := 0) (r := 1) 1587 X (dg dt_law20 24 rfl) (by decide) (by rw [if_neg hk0]) (fun _ => ?_) (fun h => absurd h (by decide))
    refine G_goto (pc := 1587) 2285 X (dg dt_law20 34 rfl) (by decide) ?_
    exact G_wk kk ⟨rfl, ⟨rfl, ⟨rfl, ⟨rfl, ⟨rfl, trivial⟩⟩⟩⟩⟩
set_option maxRecDepth 100000 in
set_option maxHeartbeats 4000000 in
theorem s_law21 {θ : Th} {ad : Nat → Nat} {cs : Nat × Nat} {b n : Nat} {xs : Nat → Int32} {i : Int32} {σ : St} (X : Cx θ g_strs code 7 "QuasigroveLaw" 2048 84000) (hS9 : Sx θ b n xs) (htr : θ.2.1.stackTraces = false) (hi1 : inb (i + 1) n = true) {k b9 : Int32} {σ1 σ2 : St} (h1 : fw_unit σ (xs (ix (i + 1))) = some (k, σ1)) (h2 : f_R_unit σ1 (xs (ix (i + 1))) = some (b9, σ2)) (h3 : σ2 82 0 = k) (h4 : k = 0 → σ2 103 0 = b9) (hR : Rm θ (cs.1 + 1) (cs.2 + 6)) (kk : G θ (cs.1 + 1, cs.2 + 6) (g_SH, ad) σ2 2285 [some (.ref b), some (.ref (ad 0)), some (.ref (ad 82)), some (.ref (ad 103)), some (.int i)] []) : G θ cs (g_SH, ad) σ 1590 [some (.ref b), some (.ref (ad 0)), some (.ref (ad 82)), some (.ref (ad 103)), some (.int i), none, none] [] := by
  have hc : Rc θ (cs.1 + 1, cs.2 + 6) := Rm_rc hR
  refine G_aload_n (pc := 1590) 1 X (dg dt_law21 0 rfl) rfl rfl ?_
  refine G_aload_n (pc := 1591) 0 X (dg dt_law21 1 rfl) rfl rfl ?_
  refine G_iload (pc := 1592) X (dg dt_law21 2 rfl) rfl ?_
  refine G_iconst (pc := 1594) 1 X (dg dt_law21 3 rfl) (by decide) ?_
  refine G_iadd (pc := 1595) X (dg dt_law21 4 rfl) ?_
  refine G_sld (pc := 1596) X hS9 (dg dt_law21 5 rfl) hi1 ?_
  refine G_aload_n (pc := 1597) 3 X (dg dt_law21 6 rfl) rfl rfl ?_
  refine G_callSW (pc := 1598) (S := []) (n := 3) [.ref (ad 0), .int (xs (ix (i + 1))), .ref (ad 103)] X hS9.nx (dg dt_law21 7 rfl) w_832 w_71 ⟨by decide +kernel, by decide +kernel, by decide +kernel⟩ w_831 w_830 (s_L_unit htr ad σ _ h1) rfl ⟨Nat.le_of_ble_eq_true rfl, Nat.le_of_ble_eq_true rfl⟩ (Nat.le_of_ble_eq_true rfl) hR ?_
  refine G_istore (pc := 1601) X (dg dt_law21 8 rfl) (Nat.le_of_ble_eq_true rfl) rfl ?_
  refine G_aload_n (pc := 1603) 2 X (dg dt_law21 9 rfl) rfl rfl ?_
  refine G_aload_n (pc := 1604) 0 X (dg dt_law21 10 rfl) rfl rfl ?_
  refine G_iload (pc := 1605) X (dg dt_law21 11 rfl) rfl ?_
  refine G_iconst (pc := 1607) 1 X (dg dt_law21 12 rfl) (by decide) ?_
  refine G_iadd (pc := 1608) X (dg dt_law21 13 rfl) ?_
  refine G_sld (pc := 1609) X hS9 (dg dt_law21 14 rfl) hi1 ?_
  refine G_callV (pc := 1610) (S := []) [.int (xs (ix (i + 1)))] nosub X (dg dt_law21 15 rfl) cb_R_unit cv_R_unit w_1340 (s_R_unit _ ad σ1 _ h2) rfl ⟨Nat.le_of_ble_eq_true rfl, Nat.le_of_ble_eq_true rfl⟩ sh_82 rfl (Nat.le_of_ble_eq_true rfl) hc ?_
  refine G_istore (pc := 1613) X (dg dt_law21 16 rfl) (Nat.le_of_ble_eq_true rfl) rfl ?_
  refine G_aload_n (pc := 1615) 2 X (dg dt_law21 17 rfl) rfl rfl ?_
  refine G_callV (pc := 1616) (S := []) [] nosub X (dg dt_law21 18 rfl) cb_R_thrown cv_R_thrown w_1151 (s_R_thrown _ ad σ2 (rv := σ2 82 0) rfl) rfl ⟨Nat.le_of_ble_eq_true rfl, Nat.le_of_ble_eq_true rfl⟩ sh_82 rfl (Nat.le_of_ble_eq_true rfl) hc ?_
  refine G_iload (pc := 1619) X (dg dt_law21 19 rfl) rfl ?_
  refine G_icmp_eq (pc := 1621) (a := 1) (b := 0) (r := 1) 1626 X (dg dt_law21 20 rfl) (by decide) (by rw [if_pos h3]) (fun _ => ?_) (fun h => absurd h (by decide))
  refine G_iload (pc := 1626) X (dg dt_law21 23 rfl) rfl ?_
  by_cases hk0 : k = 0
  · refine G_if_ne (pc := 1628) (a := 0) (b := 1) (r := 1) 1643 X (dg dt_law21 24 rfl) (by decide) (by rw [if_pos hk0]) (fun h => absurd h (by decide)) (fun _ => ?_)
    refine G_aload_n (pc := 1631) 3 X (dg dt_law21 25 rfl) rfl rfl ?_
    refine G_iconst (pc := 1632) 0 X (dg dt_law21 26 rfl) (by decide) ?_
    refine G_lald (pc := 1633) X (dg dt_law21 27 rfl) sh_103 (by decide) ?_
    refine G_iload (pc := 1634) X (dg dt_law21 28 rfl) rfl ?_
    refine G_i2l (pc := 1636) X (dg dt_law21 29 rfl) ?_
    refine G_lcmp (pc := 1637) X (dg dt_law21 30 rfl) ?_
    refine G_if_eq (pc := 1638) (a := 1) (b := 0) (r := 1) 1643 X (dg dt_law21 31 rfl) (by decide) (if_pos (lg_same (by rw [show σ2 103 (ix 0) = b9 from h4 hk0]))) (fun _ => ?_) (fun h => absurd h (by decide))
    refine G_goto (pc := 1643) 2285 X (dg dt_law21 34 rfl) (by decide) ?_
    exact G_wk kk ⟨rfl, ⟨rfl, ⟨rfl, ⟨rfl, ⟨rfl, trivial⟩⟩⟩⟩⟩
  · refine G_if_ne (pc := 1628) (a := 1) (b := 0) (r := 1) 1643 X (dg dt_law21 24 rfl) (by decide) (by rw [if_neg hk0]) (fun _ => ?_) (fun h => absurd h (by decide))
    refine G_goto (pc := 1643) 2285 X (dg dt_law21 34 rfl) (by decide) ?_
    exact G_wk kk ⟨rfl, ⟨rfl, ⟨rfl, ⟨rfl, ⟨rfl, trivial⟩⟩⟩⟩⟩
set_option maxRecDepth 100000 in
set_option maxHeartbeats 4000000 in
theorem s_law22 {θ : Th} {ad : Nat → Nat} {cs : Nat × Nat} {b n : Nat} {xs : Nat → Int32} {i : Int32} {σ : St} (X : Cx θ g_strs code 7 "QuasigroveLaw" 2048 84000) (hS9 : Sx θ b n xs) (htr : θ.2.1.stackTraces = false) (hi1 : inb (i + 1) n = true) (hi2 : inb (i + 2) n = true) {k b9 : Int32} {σ1 σ2 : St} (h1 : fw_nucleus σ (xs (ix (i + 1))) (xs (ix (i + 2))) = some (k, σ1)) (h2 : f_R_nucleus σ1 (xs (ix (i + 1))) (xs (ix (i + 2))) = some (b9, σ2)) (h3 : σ2 82 0 = k) (h4 : k = 0 → σ2 103 0 = b9) (hR : Rm θ (cs.1 + 1) (cs.2 + 6)) (kk : G θ (cs.1 + 1, cs.2 + 6) (g_SH, ad) σ2 2285 [some (.ref b), some (.ref (ad 0)), some (.ref (ad 82)), some (.ref (ad 103)), some (.int i)] []) : G θ cs (g_SH, ad) σ 1646 [some (.ref b), some (.ref (ad 0)), some (.ref (ad 82)), some (.ref (ad 103)), some (.int i), none, none] [] := by
  have hc : Rc θ (cs.1 + 1, cs.2 + 6) := Rm_rc hR
  refine G_aload_n (pc := 1646) 1 X (dg dt_law22 0 rfl) rfl rfl ?_
  refine G_aload_n (pc := 1647) 0 X (dg dt_law22 1 rfl) rfl rfl ?_
  refine G_iload (pc := 1648) X (dg dt_law22 2 rfl) rfl ?_
  refine G_iconst (pc := 1650) 1 X (dg dt_law22 3 rfl) (by decide) ?_
  refine G_iadd (pc := 1651) X (dg dt_law22 4 rfl) ?_
  refine G_sld (pc := 1652) X hS9 (dg dt_law22 5 rfl) hi1 ?_
  refine G_aload_n (pc := 1653) 0 X (dg dt_law22 6 rfl) rfl rfl ?_
  refine G_iload (pc := 1654) X (dg dt_law22 7 rfl) rfl ?_
  refine G_iconst (pc := 1656) 2 X (dg dt_law22 8 rfl) (by decide) ?_
  refine G_iadd (pc := 1657) X (dg dt_law22 9 rfl) ?_
  refine G_sld (pc := 1658) X hS9 (dg dt_law22 10 rfl) hi2 ?_
  refine G_aload_n (pc := 1659) 3 X (dg dt_law22 11 rfl) rfl rfl ?_
  refine G_callSW (pc := 1660) (S := []) (n := 4) [.ref (ad 0), .int (xs (ix (i + 1))), .int (xs (ix (i + 2))), .ref (ad 103)] X hS9.nx (dg dt_law22 12 rfl) w_846 w_71 ⟨by decide +kernel, by decide +kernel, by decide +kernel⟩ w_845 w_844 (s_L_nucleus htr ad σ _ _ h1) rfl ⟨Nat.le_of_ble_eq_true rfl, Nat.le_of_ble_eq_true rfl⟩ (Nat.le_of_ble_eq_true rfl) hR ?_
  refine G_istore (pc := 1663) X (dg dt_law22 13 rfl) (Nat.le_of_ble_eq_true rfl) rfl ?_
  refine G_aload_n (pc := 1665) 2 X (dg dt_law22 14 rfl) rfl rfl ?_
  refine G_aload_n (pc := 1666) 0 X (dg dt_law22 15 rfl) rfl rfl ?_
  refine G_iload (pc := 1667) X (dg dt_law22 16 rfl) rfl ?_
  refine G_iconst (pc := 1669) 1 X (dg dt_law22 17 rfl) (by decide) ?_
  refine G_iadd (pc := 1670) X (dg dt_law22 18 rfl) ?_
  refine G_sld (pc := 1671) X hS9 (dg dt_law22 19 rfl) hi1 ?_
  refine G_aload_n (pc := 1672) 0 X (dg dt_law22 20 rfl) rfl rfl ?_
  refine G_iload (pc := 1673) X (dg dt_law22 21 rfl) rfl ?_
  refine G_iconst (pc := 1675) 2 X (dg dt_law22 22 rfl) (by decide) ?_
  refine G_iadd (pc := 1676) X (dg dt_law22 23 rfl) ?_
  refine G_sld (pc := 1677) X hS9 (dg dt_law22 24 rfl) hi2 ?_
  refine G_callV (pc := 1678) (S := []) [.int (xs (ix (i + 1))), .int (xs (ix (i + 2)))] nosub X (dg dt_law22 25 rfl) cb_R_nucleus cv_R_nucleus w_1348 (s_R_nucleus _ ad σ1 _ _ h2) rfl ⟨Nat.le_of_ble_eq_true rfl, Nat.le_of_ble_eq_true rfl⟩ sh_82 rfl (Nat.le_of_ble_eq_true rfl) hc ?_
  refine G_istore (pc := 1681) X (dg dt_law22 26 rfl) (Nat.le_of_ble_eq_true rfl) rfl ?_
  refine G_aload_n (pc := 1683) 2 X (dg dt_law22 27 rfl) rfl rfl ?_
  refine G_callV (pc := 1684) (S := []) [] nosub X (dg dt_law22 28 rfl) cb_R_thrown cv_R_thrown w_1151 (s_R_thrown _ ad σ2 (rv := σ2 82 0) rfl) rfl ⟨Nat.le_of_ble_eq_true rfl, Nat.le_of_ble_eq_true rfl⟩ sh_82 rfl (Nat.le_of_ble_eq_true rfl) hc ?_
  refine G_iload (pc := 1687) X (dg dt_law22 29 rfl) rfl ?_
  refine G_icmp_eq (pc := 1689) (a := 1) (b := 0) (r := 1) 1694 X (dg dt_law22 30 rfl) (by decide) (by rw [if_pos h3]) (fun _ => ?_) (fun h => absurd h (by decide))
  refine G_iload (pc := 1694) X (dg dt_law22 33 rfl) rfl ?_
  by_cases hk0 : k = 0
  · refine G_if_ne (pc := 1696) (a := 0) (b := 1) (r := 1) 1711 X (dg dt_law22 34 rfl) (by decide) (by rw [if_pos hk0]) (fun h => absurd h (by decide)) (fun _ => ?_)
    refine G_aload_n (pc := 1699) 3 X (dg dt_law22 35 rfl) rfl rfl ?_
    refine G_iconst (pc := 1700) 0 X (dg dt_law22 36 rfl) (by decide) ?_
    refine G_lald (pc := 1701) X (dg dt_law22 37 rfl) sh_103 (by decide) ?_
    refine G_iload (pc := 1702) X (dg dt_law22 38 rfl) rfl ?_
    refine G_i2l (pc := 1704) X (dg dt_law22 39 rfl) ?_
    refine G_lcmp (pc := 1705) X (dg dt_law22 40 rfl) ?_
    refine G_if_eq (pc := 1706) (a := 1) (b := 0) (r := 1) 1711 X (dg dt_law22 41 rfl) (by decide) (if_pos (lg_same (by rw [show σ2 103 (ix 0) = b9 from h4 hk0]))) (fun _ => ?_) (fun h => absurd h (by decide))
    refine G_goto (pc := 1711) 2285 X (dg dt_law22 44 rfl) (by decide) ?_
    exact G_wk kk ⟨rfl, ⟨rfl, ⟨rfl, ⟨rfl, ⟨rfl, trivial⟩⟩⟩⟩⟩
  · refine G_if_ne (pc := 1696) (a := 1) (b := 0) (r := 1) 1711 X (dg dt_law22 34 rfl) (by decide) (by rw [if_neg hk0]) (fun _ => ?_) (fun h => absurd h (by decide))
    refine G_goto (pc := 1711) 2285 X (dg dt_law22 44 rfl) (by decide) ?_
    exact G_wk kk ⟨rfl, ⟨rfl, ⟨rfl, ⟨rfl, ⟨rfl, trivial⟩⟩⟩⟩⟩
set_option maxRecDepth 100000 in
set_option maxHeartbeats 4000000 in
theorem s_law23 {θ : Th} {ad : Nat → Nat} {cs : Nat × Nat} {b n : Nat} {xs : Nat → Int32} {i : Int32} {σ : St} (X : Cx θ g_strs code 7 "QuasigroveLaw" 2048 84000) (hS9 : Sx θ b n xs) (htr : θ.2.1.stackTraces = false) (hi1 : inb (i + 1) n = true) (hi2 : inb (i + 2) n = true) {k b9 : Int32} {σ1 σ2 : St} (h1 : fw_closed σ (xs (ix (i + 1))) (xs (ix (i + 2))) = some (k, σ1)) (h2 : f_R_closed σ1 (xs (ix (i + 1))) (xs (ix (i + 2))) = some (b9, σ2)) (h3 : σ2 82 0 = k) (h4 : k = 0 → σ2 103 0 = b9) (hR : Rm θ (cs.1 + 1) (cs.2 + 6)) (kk : G θ (cs.1 + 1, cs.2 + 6) (g_SH, ad) σ2 2285 [some (.ref b), some (.ref (ad 0)), some (.ref (ad 82)), some (.ref (ad 103)), some (.int i)] []) : G θ cs (g_SH, ad) σ 1714 [some (.ref b), some (.ref (ad 0)), some (.ref (ad 82)), some (.ref (ad 103)), some (.int i), none, none] [] := by
  have hc : Rc θ (cs.1 + 1, cs.2 + 6) := Rm_rc hR
  refine G_aload_n (pc := 1714) 1 X (dg dt_law23 0 rfl) rfl rfl ?_
  refine G_aload_n (pc := 1715) 0 X (dg dt_law23 1 rfl) rfl rfl ?_
  refine G_iload (pc := 1716) X (dg dt_law23 2 rfl) rfl ?_
  refine G_iconst (pc := 1718) 1 X (dg dt_law23 3 rfl) (by decide) ?_
  refine G_iadd (pc := 1719) X (dg dt_law23 4 rfl) ?_
  refine G_sld (pc := 1720) X hS9 (dg dt_law23 5 rfl) hi1 ?_
  refine G_aload_n (pc := 1721) 0 X (dg dt_law23 6 rfl) rfl rfl ?_
  refine G_iload (pc := 1722) X (dg dt_law23 7 rfl) rfl ?_
  refine G_iconst (pc := 1724) 2 X (dg dt_law23 8 rfl) (by decide) ?_
  refine G_iadd (pc := 1725) X (dg dt_law23 9 rfl) ?_
  refine G_sld (pc := 1726) X hS9 (dg dt_law23 10 rfl) hi2 ?_
  refine G_aload_n (pc := 1727) 3 X (dg dt_law23 11 rfl) rfl rfl ?_
  refine G_callSW (pc := 1728) (S := []) (n := 4) [.ref (ad 0), .int (xs (ix (i + 1))), .int (xs (ix (i + 2))), .ref (ad 103)] X hS9.nx (dg dt_law23 12 rfl) w_868 w_71 ⟨by decide +kernel, by decide +kernel, by decide +kernel⟩ w_867 w_866 (s_L_closed htr ad σ _ _ h1) rfl ⟨Nat.le_of_ble_eq_true rfl, Nat.le_of_ble_eq_true rfl⟩ (Nat.le_of_ble_eq_true rfl) hR ?_
  refine G_istore (pc := 1731) X (dg dt_law23 13 rfl) (Nat.le_of_ble_eq_true rfl) rfl ?_
  refine G_aload_n (pc := 1733) 2 X (dg dt_law23 14 rfl) rfl rfl ?_
  refine G_aload_n (pc := 1734) 0 X (dg dt_law23 15 rfl) rfl rfl ?_
  refine G_iload (pc := 1735) X (dg dt_law23 16 rfl) rfl ?_
  refine G_iconst (pc := 1737) 1 X (dg dt_law23 17 rfl) (by decide) ?_
  refine G_iadd (pc := 1738) X (dg dt_law23 18 rfl) ?_
  refine G_sld (pc := 1739) X hS9 (dg dt_law23 19 rfl) hi1 ?_
  refine G_aload_n (pc := 1740) 0 X (dg dt_law23 20 rfl) rfl rfl ?_
  refine G_iload (pc := 1741) X (dg dt_law23 21 rfl) rfl ?_
  refine G_iconst (pc := 1743) 2 X (dg dt_law23 22 rfl) (by decide) ?_
  refine G_iadd (pc := 1744) X (dg dt_law23 23 rfl) ?_
  refine G_sld (pc := 1745) X hS9 (dg dt_law23 24 rfl) hi2 ?_
  refine G_callV (pc := 1746) (S := []) [.int (xs (ix (i + 1))), .int (xs (ix (i + 2)))] nosub X (dg dt_law23 25 rfl) cb_R_closed cv_R_closed w_1364 (s_R_closed _ ad σ1 _ _ h2) rfl ⟨Nat.le_of_ble_eq_true rfl, Nat.le_of_ble_eq_true rfl⟩ sh_82 rfl (Nat.le_of_ble_eq_true rfl) hc ?_
  refine G_istore (pc := 1749) X (dg dt_law23 26 rfl) (Nat.le_of_ble_eq_true rfl) rfl ?_
  refine G_aload_n (pc := 1751) 2 X (dg dt_law23 27 rfl) rfl rfl ?_
  refine G_callV (pc := 1752) (S := []) [] nosub X (dg dt_law23 28 rfl) cb_R_thrown cv_R_thrown w_1151 (s_R_thrown _ ad σ2 (rv := σ2 82 0) rfl) rfl ⟨Nat.le_of_ble_eq_true rfl, Nat.le_of_ble_eq_true rfl⟩ sh_82 rfl (Nat.le_of_ble_eq_true rfl) hc ?_
  refine G_iload (pc := 1755) X (dg dt_law23 29 rfl) rfl ?_
  refine G_icmp_eq (pc := 1757) (a := 1) (b := 0) (r := 1) 1762 X (dg dt_law23 30 rfl) (by decide) (by rw [if_pos h3]) (fun _ => ?_) (fun h => absurd h (by decide))
  refine G_iload (pc := 1762) X (dg dt_law23 33 rfl) rfl ?_
  by_cases hk0 : k = 0
  · refine G_if_ne (pc := 1764) (a := 0) (b := 1) (r := 1) 1779 X (dg dt_law23 34 rfl) (by decide) (by rw [if_pos hk0]) (fun h => absurd h (by decide)) (fun _ => ?_)
    refine G_aload_n (pc := 1767) 3 X (dg dt_law23 35 rfl) rfl rfl ?_
    refine G_iconst (pc := 1768) 0 X (dg dt_law23 36 rfl) (by decide) ?_
    refine G_lald (pc := 1769) X (dg dt_law23 37 rfl) sh_103 (by decide) ?_
    refine G_iload (pc := 1770) X (dg dt_law23 38 rfl) rfl ?_
    refine G_i2l (pc := 1772) X (dg dt_law23 39 rfl) ?_
    refine G_lcmp (pc := 1773) X (dg dt_law23 40 rfl) ?_
    refine G_if_eq (pc := 1774) (a := 1) (b := 0) (r := 1) 1779 X (dg dt_law23 41 rfl) (by decide) (if_pos (lg_same (by rw [show σ2 103 (ix 0) = b9 from h4 hk0]))) (fun _ => ?_) (fun h => absurd h (by decide))
    refine G_goto (pc := 1779) 2285 X (dg dt_law23 44 rfl) (by decide) ?_
    exact G_wk kk ⟨rfl, ⟨rfl, ⟨rfl, ⟨rfl, ⟨rfl, trivial⟩⟩⟩⟩⟩
  · refine G_if_ne (pc := 1764) (a := 1) (b := 0) (r := 1) 1779 X (dg dt_law23 34 rfl) (by decide) (by rw [if_neg hk0]) (fun _ => ?_) (fun h => absurd h (by decide))
    refine G_goto (pc := 1779) 2285 X (dg dt_law23 44 rfl) (by decide) ?_
    exact G_wk kk ⟨rfl, ⟨rfl, ⟨rfl, ⟨rfl, ⟨rfl, trivial⟩⟩⟩⟩⟩
set_option maxRecDepth 100000 in
set_option maxHeartbeats 4000000 in
theorem s_law24 {θ : Th} {ad : Nat → Nat} {cs : Nat × Nat} {b n : Nat} {xs : Nat → Int32} {i : Int32} {σ : St} (X : Cx θ g_strs code 7 "QuasigroveLaw" 2048 84000) (hS9 : Sx θ b n xs) (htr : θ.2.1.stackTraces = false) (hi1 : inb (i + 1) n = true) (hi2 : inb (i + 2) n = true) {k b9 : Int32} {σ1 σ2 : St} (h1 : fw_count σ (xs (ix (i + 1))) (xs (ix (i + 2))) = some (k, σ1)) (h2 : f_R_count σ1 (xs (ix (i + 1))) (xs (ix (i + 2))) = some (b9, σ2)) (h3 : σ2 82 0 = k) (h4 : k = 0 → σ2 103 0 = b9) (hR : Rm θ (cs.1 + 1) (cs.2 + 6)) (kk : G θ (cs.1 + 1, cs.2 + 6) (g_SH, ad) σ2 2285 [some (.ref b), some (.ref (ad 0)), some (.ref (ad 82)), some (.ref (ad 103)), some (.int i)] []) : G θ cs (g_SH, ad) σ 1782 [some (.ref b), some (.ref (ad 0)), some (.ref (ad 82)), some (.ref (ad 103)), some (.int i), none, none] [] := by
  have hc : Rc θ (cs.1 + 1, cs.2 + 6) := Rm_rc hR
  refine G_aload_n (pc := 1782) 1 X (dg dt_law24 0 rfl) rfl rfl ?_
  refine G_aload_n (pc := 1783) 0 X (dg dt_law24 1 rfl) rfl rfl ?_
  refine G_iload (pc := 1784) X (dg dt_law24 2 rfl) rfl ?_
  refine G_iconst (pc := 1786) 1 X (dg dt_law24 3 rfl) (by decide) ?_
  refine G_iadd (pc := 1787) X (dg dt_law24 4 rfl) ?_
  refine G_sld (pc := 1788) X hS9 (dg dt_law24 5 rfl) hi1 ?_
  refine G_aload_n (pc := 1789) 0 X (dg dt_law24 6 rfl) rfl rfl ?_
  refine G_iload (pc := 1790) X (dg dt_law24 7 rfl) rfl ?_
  refine G_iconst (pc := 1792) 2 X (dg dt_law24 8 rfl) (by decide) ?_
  refine G_iadd (pc := 1793) X (dg dt_law24 9 rfl) ?_
  refine G_sld (pc := 1794) X hS9 (dg dt_law24 10 rfl) hi2 ?_
  refine G_aload_n (pc := 1795) 3 X (dg dt_law24 11 rfl) rfl rfl ?_
  refine G_callSW (pc := 1796) (S := []) (n := 4) [.ref (ad 0), .int (xs (ix (i + 1))), .int (xs (ix (i + 2))), .ref (ad 103)] X hS9.nx (dg dt_law24 12 rfl) w_883 w_71 ⟨by decide +kernel, by decide +kernel, by decide +kernel⟩ w_882 w_881 (s_L_count htr ad σ _ _ h1) rfl ⟨Nat.le_of_ble_eq_true rfl, Nat.le_of_ble_eq_true rfl⟩ (Nat.le_of_ble_eq_true rfl) hR ?_
  refine G_istore (pc := 1799) X (dg dt_law24 13 rfl) (Nat.le_of_ble_eq_true rfl) rfl ?_
  refine G_aload_n (pc := 1801) 2 X (dg dt_law24 14 rfl) rfl rfl ?_
  refine G_aload_n (pc := 1802) 0 X (dg dt_law24 15 rfl) rfl rfl ?_
  refine G_iload (pc := 1803) X (dg dt_law24 16 rfl) rfl ?_
  refine G_iconst (pc := 1805) 1 X (dg dt_law24 17 rfl) (by decide) ?_
  refine G_iadd (pc := 1806) X (dg dt_law24 18 rfl) ?_
  refine G_sld (pc := 1807) X hS9 (dg dt_law24 19 rfl) hi1 ?_
  refine G_aload_n (pc := 1808) 0 X (dg dt_law24 20 rfl) rfl rfl ?_
  refine G_iload (pc := 1809) X (dg dt_law24 21 rfl) rfl ?_
  refine G_iconst (pc := 1811) 2 X (dg dt_law24 22 rfl) (by decide) ?_
  refine G_iadd (pc := 1812) X (dg dt_law24 23 rfl) ?_
  refine G_sld (pc := 1813) X hS9 (dg dt_law24 24 rfl) hi2 ?_
  refine G_callV (pc := 1814) (S := []) [.int (xs (ix (i + 1))), .int (xs (ix (i + 2)))] nosub X (dg dt_law24 25 rfl) cb_R_count cv_R_count w_1372 (s_R_count _ ad σ1 _ _ h2) rfl ⟨Nat.le_of_ble_eq_true rfl, Nat.le_of_ble_eq_true rfl⟩ sh_82 rfl (Nat.le_of_ble_eq_true rfl) hc ?_
  refine G_istore (pc := 1817) X (dg dt_law24 26 rfl) (Nat.le_of_ble_eq_true rfl) rfl ?_
  refine G_aload_n (pc := 1819) 2 X (dg dt_law24 27 rfl) rfl rfl ?_
  refine G_callV (pc := 1820) (S := []) [] nosub X (dg dt_law24 28 rfl) cb_R_thrown cv_R_thrown w_1151 (s_R_thrown _ ad σ2 (rv := σ2 82 0) rfl) rfl ⟨Nat.le_of_ble_eq_true rfl, Nat.le_of_ble_eq_true rfl⟩ sh_82 rfl (Nat.le_of_ble_eq_true rfl) hc ?_
  refine G_iload (pc := 1823) X (dg dt_law24 29 rfl) rfl ?_
  refine G_icmp_eq (pc := 1825) (a := 1) (b := 0) (r := 1) 1830 X (dg dt_law24 30 rfl) (by decide) (by rw [if_pos h3]) (fun _ => ?_) (fun h => absurd h (by decide))
  refine G_iload (pc := 1830) X (dg dt_law24 33 rfl) rfl ?_
  by_cases hk0 : k = 0
  · refine G_if_ne (pc := 1832) (a := 0) (b := 1) (r := 1) 1847 X (dg dt_law24 34 rfl) (by decide) (by rw [if_pos hk0]) (fun h => absurd h (by decide)) (fun _ => ?_)
    refine G_aload_n (pc := 1835) 3 X (dg dt_law24 35 rfl) rfl rfl ?_
    refine G_iconst (pc := 1836) 0 X (dg dt_law24 36 rfl) (by decide) ?_
    refine G_lald (pc := 1837) X (dg dt_law24 37 rfl) sh_103 (by decide) ?_
    refine G_iload (pc := 1838) X (dg dt_law24 38 rfl) rfl ?_
    refine G_i2l (pc := 1840) X (dg dt_law24 39 rfl) ?_
    refine G_lcmp (pc := 1841) X (dg dt_law24 40 rfl) ?_
    refine G_if_eq (pc := 1842) (a := 1) (b := 0) (r := 1) 1847 X (dg dt_law24 41 rfl) (by decide) (if_pos (lg_same (by rw [show σ2 103 (ix 0) = b9 from h4 hk0]))) (fun _ => ?_) (fun h => absurd h (by decide))
    refine G_goto (pc := 1847) 2285 X (dg dt_law24 44 rfl) (by decide) ?_
    exact G_wk kk ⟨rfl, ⟨rfl, ⟨rfl, ⟨rfl, ⟨rfl, trivial⟩⟩⟩⟩⟩
  · refine G_if_ne (pc := 1832) (a := 1) (b := 0) (r := 1) 1847 X (dg dt_law24 34 rfl) (by decide) (by rw [if_neg hk0]) (fun _ => ?_) (fun h => absurd h (by decide))
    refine G_goto (pc := 1847) 2285 X (dg dt_law24 44 rfl) (by decide) ?_
    exact G_wk kk ⟨rfl, ⟨rfl, ⟨rfl, ⟨rfl, ⟨rfl, trivial⟩⟩⟩⟩⟩
set_option maxRecDepth 100000 in
set_option maxHeartbeats 4000000 in
theorem s_law25 {θ : Th} {ad : Nat → Nat} {cs : Nat × Nat} {b n : Nat} {xs : Nat → Int32} {i : Int32} {σ : St} (X : Cx θ g_strs code 7 "QuasigroveLaw" 2048 84000) (hS9 : Sx θ b n xs) (htr : θ.2.1.stackTraces = false) (hi1 : inb (i + 1) n = true) (hi2 : inb (i + 2) n = true) {k b9 : Int32} {σ1 σ2 : St} (h1 : fw_isotopies σ (xs (ix (i + 1))) (xs (ix (i + 2))) = some (k, σ1)) (h2 : f_R_isotopies σ1 (xs (ix (i + 1))) (xs (ix (i + 2))) = some (b9, σ2)) (h3 : σ2 82 0 = k) (h4 : k = 0 → σ2 103 0 = b9) (hR : Rm θ (cs.1 + 1) (cs.2 + 6)) (kk : G θ (cs.1 + 1, cs.2 + 6) (g_SH, ad) σ2 2285 [some (.ref b), some (.ref (ad 0)), some (.ref (ad 82)), some (.ref (ad 103)), some (.int i)] []) : G θ cs (g_SH, ad) σ 1850 [some (.ref b), some (.ref (ad 0)), some (.ref (ad 82)), some (.ref (ad 103)), some (.int i), none, none] [] := by
  have hc : Rc θ (cs.1 + 1, cs.2 + 6) := Rm_rc hR
  refine G_aload_n (pc := 1850) 1 X (dg dt_law25 0 rfl) rfl rfl ?_
  refine G_aload_n (pc := 1851) 0 X (dg dt_law25 1 rfl) rfl rfl ?_
  refine G_iload (pc := 1852) X (dg dt_law25 2 rfl) rfl ?_
  refine G_iconst (pc := 1854) 1 X (dg dt_law25 3 rfl) (by decide) ?_
  refine G_iadd (pc := 1855) X (dg dt_law25 4 rfl) ?_
  refine G_sld (pc := 1856) X hS9 (dg dt_law25 5 rfl) hi1 ?_
  refine G_aload_n (pc := 1857) 0 X (dg dt_law25 6 rfl) rfl rfl ?_
  refine G_iload (pc := 1858) X (dg dt_law25 7 rfl) rfl ?_
  refine G_iconst (pc := 1860) 2 X (dg dt_law25 8 rfl) (by decide) ?_
  refine G_iadd (pc := 1861) X (dg dt_law25 9 rfl) ?_
  refine G_sld (pc := 1862) X hS9 (dg dt_law25 10 rfl) hi2 ?_
  refine G_aload_n (pc := 1863) 3 X (dg dt_law25 11 rfl) rfl rfl ?_
  refine G_callSW (pc := 1864) (S := []) (n := 4) [.ref (ad 0), .int (xs (ix (i + 1))), .int (xs (ix (i + 2))), .ref (ad 103)] X hS9.nx (dg dt_law25 12 rfl) w_936 w_71 ⟨by decide +kernel, by decide +kernel, by decide +kernel⟩ w_935 w_934 (s_L_isotopies htr ad σ _ _ h1) rfl ⟨Nat.le_of_ble_eq_true rfl, Nat.le_of_ble_eq_true rfl⟩ (Nat.le_of_ble_eq_true rfl) hR ?_
  refine G_istore (pc := 1867) X (dg dt_law25 13 rfl) (Nat.le_of_ble_eq_true rfl) rfl ?_
  refine G_aload_n (pc := 1869) 2 X (dg dt_law25 14 rfl) rfl rfl ?_
  refine G_aload_n (pc := 1870) 0 X (dg dt_law25 15 rfl) rfl rfl ?_
  refine G_iload (pc := 1871) X (dg dt_law25 16 rfl) rfl ?_
  refine G_iconst (pc := 1873) 1 X (dg dt_law25 17 rfl) (by decide) ?_
  refine G_iadd (pc := 1874) X (dg dt_law25 18 rfl) ?_
  refine G_sld (pc := 1875) X hS9 (dg dt_law25 19 rfl) hi1 ?_
  refine G_aload_n (pc := 1876) 0 X (dg dt_law25 20 rfl) rfl rfl ?_
  refine G_iload (pc := 1877) X (dg dt_law25 21 rfl) rfl ?_
  refine G_iconst (pc := 1879) 2 X (dg dt_law25 22 rfl) (by decide) ?_
  refine G_iadd (pc := 1880) X (dg dt_law25 23 rfl) ?_
  refine G_sld (pc := 1881) X hS9 (dg dt_law25 24 rfl) hi2 ?_
  refine G_callV (pc := 1882) (S := []) [.int (xs (ix (i + 1))), .int (xs (ix (i + 2)))] nosub X (dg dt_law25 25 rfl) cb_R_isotopies cv_R_isotopies w_1400 (s_R_isotopies _ ad σ1 _ _ h2) rfl ⟨Nat.le_of_ble_eq_true rfl, Nat.le_of_ble_eq_true rfl⟩ sh_82 rfl (Nat.le_of_ble_eq_true rfl) hc ?_
  refine G_istore (pc := 1885) X (dg dt_law25 26 rfl) (Nat.le_of_ble_eq_true rfl) rfl ?_
  refine G_aload_n (pc := 1887) 2 X (dg dt_law25 27 rfl) rfl rfl ?_
  refine G_callV (pc := 1888) (S := []) [] nosub X (dg dt_law25 28 rfl) cb_R_thrown cv_R_thrown w_1151 (s_R_thrown _ ad σ2 (rv := σ2 82 0) rfl) rfl ⟨Nat.le_of_ble_eq_true rfl, Nat.le_of_ble_eq_true rfl⟩ sh_82 rfl (Nat.le_of_ble_eq_true rfl) hc ?_
  refine G_iload (pc := 1891) X (dg dt_law25 29 rfl) rfl ?_
  refine G_icmp_eq (pc := 1893) (a := 1) (b := 0) (r := 1) 1898 X (dg dt_law25 30 rfl) (by decide) (by rw [if_pos h3]) (fun _ => ?_) (fun h => absurd h (by decide))
  refine G_iload (pc := 1898) X (dg dt_law25 33 rfl) rfl ?_
  by_cases hk0 : k = 0
  · refine G_if_ne (pc := 1900) (a := 0) (b := 1) (r := 1) 1915 X (dg dt_law25 34 rfl) (by decide) (by rw [if_pos hk0]) (fun h => absurd h (by decide)) (fun _ => ?_)
    refine G_aload_n (pc := 1903) 3 X (dg dt_law25 35 rfl) rfl rfl ?_
    refine G_iconst (pc := 1904) 0 X (dg dt_law25 36 rfl) (by decide) ?_
    refine G_lald (pc := 1905) X (dg dt_law25 37 rfl) sh_103 (by decide) ?_
    refine G_iload (pc := 1906) X (dg dt_law25 38 rfl) rfl ?_
    refine G_i2l (pc := 1908) X (dg dt_law25 39 rfl) ?_
    refine G_lcmp (pc := 1909) X (dg dt_law25 40 rfl) ?_
    refine G_if_eq (pc := 1910) (a := 1) (b := 0) (r := 1) 1915 X (dg dt_law25 41 rfl) (by decide) (if_pos (lg_same (by rw [show σ2 103 (ix 0) = b9 from h4 hk0]))) (fun _ => ?_) (fun h => absurd h (by decide))
    refine G_goto (pc := 1915) 2285 X (dg dt_law25 44 rfl) (by decide) ?_
    exact G_wk kk ⟨rfl, ⟨rfl, ⟨rfl, ⟨rfl, ⟨rfl, trivial⟩⟩⟩⟩⟩
  · refine G_if_ne (pc := 1900) (a := 1) (b := 0) (r := 1) 1915 X (dg dt_law25 34 rfl) (by decide) (by rw [if_neg hk0]) (fun _ => ?_) (fun h => absurd h (by decide))
    refine G_goto (pc := 1915) 2285 X (dg dt_law25 44 rfl) (by decide) ?_
    exact G_wk kk ⟨rfl, ⟨rfl, ⟨rfl, ⟨rfl, ⟨rfl, trivial⟩⟩⟩⟩⟩
set_option maxRecDepth 100000 in
set_option maxHeartbeats 4000000 in
theorem s_law26 {θ : Th} {ad : Nat → Nat} {cs : Nat × Nat} {b n : Nat} {xs : Nat → Int32} {i : Int32} {σ : St} (X : Cx θ g_strs code 7 "QuasigroveLaw" 2048 84000) (hS9 : Sx θ b n xs) (htr : θ.2.1.stackTraces = false) (hi1 : inb (i + 1) n = true) {k b9 : Int32} {σ1 σ2 : St} (h1 : fw_transversals σ (xs (ix (i + 1))) = some (k, σ1)) (h2 : f_R_transversals σ1 (xs (ix (i + 1))) = some (b9, σ2)) (h3 : σ2 82 0 = k) (h4 : k = 0 → σ2 103 0 = b9) (hR : Rm θ (cs.1 + 1) (cs.2 + 6)) (kk : G θ (cs.1 + 1, cs.2 + 6) (g_SH, ad) σ2 2285 [some (.ref b), some (.ref (ad 0)), some (.ref (ad 82)), some (.ref (ad 103)), some (.int i)] []) : G θ cs (g_SH, ad) σ 1918 [some (.ref b), some (.ref (ad 0)), some (.ref (ad 82)), some (.ref (ad 103)), some (.int i), none, none] [] := by
  have hc : Rc θ (cs.1 + 1, cs.2 + 6) := Rm_rc hR
  refine G_aload_n (pc := 1918) 1 X (dg dt_law26 0 rfl) rfl rfl ?_
  refine G_aload_n (pc := 1919) 0 X (dg dt_law26 1 rfl) rfl rfl ?_
  refine G_iload (pc := 1920) X (dg dt_law26 2 rfl) rfl ?_
  refine G_iconst (pc := 1922) 1 X (dg dt_law26 3 rfl) (by decide) ?_
  refine G_iadd (pc := 1923) X (dg dt_law26 4 rfl) ?_
  refine G_sld (pc := 1924) X hS9 (dg dt_law26 5 rfl) hi1 ?_
  refine G_aload_n (pc := 1925) 3 X (dg dt_law26 6 rfl) rfl rfl ?_
  refine G_callSW (pc := 1926) (S := []) (n := 3) [.ref (ad 0), .int (xs (ix (i + 1))), .ref (ad 103)] X hS9.nx (dg dt_law26 7 rfl) w_960 w_71 ⟨by decide +kernel, by decide +kernel, by decide +kernel⟩ w_959 w_958 (s_L_transversals htr ad σ _ h1) rfl ⟨Nat.le_of_ble_eq_true rfl, Nat.le_of_ble_eq_true rfl⟩ (Nat.le_of_ble_eq_true rfl) hR ?_
  refine G_istore (pc := 1929) X (dg dt_law26 8 rfl) (Nat.le_of_ble_eq_true rfl) rfl ?_
  refine G_aload_n (pc := 1931) 2 X (dg dt_law26 9 rfl) rfl rfl ?_
  refine G_aload_n (pc := 1932) 0 X (dg dt_law26 10 rfl) rfl rfl ?_
  refine G_iload (pc := 1933) X (dg dt_law26 11 rfl) rfl ?_
  refine G_iconst (pc := 1935) 1 X (dg dt_law26 12 rfl) (by decide) ?_
  refine G_iadd (pc := 1936) X (dg dt_law26 13 rfl) ?_
  refine G_sld (pc := 1937) X hS9 (dg dt_law26 14 rfl) hi1 ?_
  refine G_callV (pc := 1938) (S := []) [.int (xs (ix (i + 1)))] nosub X (dg dt_law26 15 rfl) cb_R_transversals cv_R_transversals w_1408 (s_R_transversals _ ad σ1 _ h2) rfl ⟨Nat.le_of_ble_eq_true rfl, Nat.le_of_ble_eq_true rfl⟩ sh_82 rfl (Nat.le_of_ble_eq_true rfl) hc ?_
  refine G_istore (pc := 1941) X (dg dt_law26 16 rfl) (Nat.le_of_ble_eq_true rfl) rfl ?_
  refine G_aload_n (pc := 1943) 2 X (dg dt_law26 17 rfl) rfl rfl ?_
  refine G_callV (pc := 1944) (S := []) [] nosub X (dg dt_law26 18 rfl) cb_R_thrown cv_R_thrown w_1151 (s_R_thrown _ ad σ2 (rv := σ2 82 0) rfl) rfl ⟨Nat.le_of_ble_eq_true rfl, Nat.le_of_ble_eq_true rfl⟩ sh_82 rfl (Nat.le_of_ble_eq_true rfl) hc ?_
  refine G_iload (pc := 1947) X (dg dt_law26 19 rfl) rfl ?_
  refine G_icmp_eq (pc := 1949) (a := 1) (b := 0) (r := 1) 1954 X (dg dt_law26 20 rfl) (by decide) (by rw [if_pos h3]) (fun _ => ?_) (fun h => absurd h (by decide))
  refine G_iload (pc := 1954) X (dg dt_law26 23 rfl) rfl ?_
  by_cases hk0 : k = 0
  · refine G_if_ne (pc := 1956) (a := 0) (b := 1) (r := 1) 1971 X (dg dt_law26 24 rfl) (by decide) (by rw [if_pos hk0]) (fun h => absurd h (by decide)) (fun _ => ?_)
    refine G_aload_n (pc := 1959) 3 X (dg dt_law26 25 rfl) rfl rfl ?_
    refine G_iconst (pc := 1960) 0 X (dg dt_law26 26 rfl) (by decide) ?_
    refine G_lald (pc := 1961) X (dg dt_law26 27 rfl) sh_103 (by decide) ?_
    refine G_iload (pc := 1962) X (dg dt_law26 28 rfl) rfl ?_
    refine G_i2l (pc := 1964) X (dg dt_law26 29 rfl) ?_
    refine G_lcmp (pc := 1965) X (dg dt_law26 30 rfl) ?_
    refine G_if_eq (pc := 1966) (a := 1) (b := 0) (r := 1) 1971 X (dg dt_law26 31 rfl) (by decide) (if_pos (lg_same (by rw [show σ2 103 (ix 0) = b9 from h4 hk0]))) (fun _ => ?_) (fun h => absurd h (by decide))
    refine G_goto (pc := 1971) 2285 X (dg dt_law26 34 rfl) (by decide) ?_
    exact G_wk kk ⟨rfl, ⟨rfl, ⟨rfl, ⟨rfl, ⟨rfl, trivial⟩⟩⟩⟩⟩
  · refine G_if_ne (pc := 1956) (a := 1) (b := 0) (r := 1) 1971 X (dg dt_law26 24 rfl) (by decide) (by rw [if_neg hk0]) (fun _ => ?_) (fun h => absurd h (by decide))
    refine G_goto (pc := 1971) 2285 X (dg dt_law26 34 rfl) (by decide) ?_
    exact G_wk kk ⟨rfl, ⟨rfl, ⟨rfl, ⟨rfl, ⟨rfl, trivial⟩⟩⟩⟩⟩
set_option maxRecDepth 100000 in
set_option maxHeartbeats 4000000 in
theorem s_law27 {θ : Th} {ad : Nat → Nat} {cs : Nat × Nat} {b n : Nat} {xs : Nat → Int32} {i : Int32} {σ : St} (X : Cx θ g_strs code 7 "QuasigroveLaw" 2048 84000) (hS9 : Sx θ b n xs) (htr : θ.2.1.stackTraces = false) (hi1 : inb (i + 1) n = true) {k b9 : Int32} {σ1 σ2 : St} (h1 : fw_mates σ (xs (ix (i + 1))) = some (k, σ1)) (h2 : f_R_mates σ1 (xs (ix (i + 1))) = some (b9, σ2)) (h3 : σ2 82 0 = k) (h4 : k = 0 → σ2 103 0 = b9) (hR : Rm θ (cs.1 + 1) (cs.2 + 6)) (kk : G θ (cs.1 + 1, cs.2 + 6) (g_SH, ad) σ2 2285 [some (.ref b), some (.ref (ad 0)), some (.ref (ad 82)), some (.ref (ad 103)), some (.int i)] []) : G θ cs (g_SH, ad) σ 1974 [some (.ref b), some (.ref (ad 0)), some (.ref (ad 82)), some (.ref (ad 103)), some (.int i), none, none] [] := by
  have hc : Rc θ (cs.1 + 1, cs.2 + 6) := Rm_rc hR
  refine G_aload_n (pc := 1974) 1 X (dg dt_law27 0 rfl) rfl rfl ?_
  refine G_aload_n (pc := 1975) 0 X (dg dt_law27 1 rfl) rfl rfl ?_
  refine G_iload (pc := 1976) X (dg dt_law27 2 rfl) rfl ?_
  refine G_iconst (pc := 1978) 1 X (dg dt_law27 3 rfl) (by decide) ?_
  refine G_iadd (pc := 1979) X (dg dt_law27 4 rfl) ?_
  refine G_sld (pc := 1980) X hS9 (dg dt_law27 5 rfl) hi1 ?_
  refine G_aload_n (pc := 1981) 3 X (dg dt_law27 6 rfl) rfl rfl ?_
  refine G_callSW (pc := 1982) (S := []) (n := 3) [.ref (ad 0), .int (xs (ix (i + 1))), .ref (ad 103)] X hS9.nx (dg dt_law27 7 rfl) w_979 w_71 ⟨by decide +kernel, by decide +kernel, by decide +kernel⟩ w_978 w_977 (s_L_mates htr ad σ _ h1) rfl ⟨Nat.le_of_ble_eq_true rfl, Nat.le_of_ble_eq_true rfl⟩ (Nat.le_of_ble_eq_true rfl) hR ?_
  refine G_istore (pc := 1985) X (dg dt_law27 8 rfl) (Nat.le_of_ble_eq_true rfl) rfl ?_
  refine G_aload_n (pc := 1987) 2 X (dg dt_law27 9 rfl) rfl rfl ?_
  refine G_aload_n (pc := 1988) 0 X (dg dt_law27 10 rfl) rfl rfl ?_
  refine G_iload (pc := 1989) X (dg dt_law27 11 rfl) rfl ?_
  refine G_iconst (pc := 1991) 1 X (dg dt_law27 12 rfl) (by decide) ?_
  refine G_iadd (pc := 1992) X (dg dt_law27 13 rfl) ?_
  refine G_sld (pc := 1993) X hS9 (dg dt_law27 14 rfl) hi1 ?_
  refine G_callV (pc := 1994) (S := []) [.int (xs (ix (i + 1)))] nosub X (dg dt_law27 15 rfl) cb_R_mates cv_R_mates w_1416 (s_R_mates _ ad σ1 _ h2) rfl ⟨Nat.le_of_ble_eq_true rfl, Nat.le_of_ble_eq_true rfl⟩ sh_82 rfl (Nat.le_of_ble_eq_true rfl) hc ?_
  refine G_istore (pc := 1997) X (dg dt_law27 16 rfl) (Nat.le_of_ble_eq_true rfl) rfl ?_
  refine G_aload_n (pc := 1999) 2 X (dg dt_law27 17 rfl) rfl rfl ?_
  refine G_callV (pc := 2000) (S := []) [] nosub X (dg dt_law27 18 rfl) cb_R_thrown cv_R_thrown w_1151 (s_R_thrown _ ad σ2 (rv := σ2 82 0) rfl) rfl ⟨Nat.le_of_ble_eq_true rfl, Nat.le_of_ble_eq_true rfl⟩ sh_82 rfl (Nat.le_of_ble_eq_true rfl) hc ?_
  refine G_iload (pc := 2003) X (dg dt_law27 19 rfl) rfl ?_
  refine G_icmp_eq (pc := 2005) (a := 1) (b := 0) (r := 1) 2010 X (dg dt_law27 20 rfl) (by decide) (by rw [if_pos h3]) (fun _ => ?_) (fun h => absurd h (by decide))
  refine G_iload (pc := 2010) X (dg dt_law27 23 rfl) rfl ?_
  by_cases hk0 : k = 0
  · refine G_if_ne (pc := 2012) (a := 0) (b := 1) (r := 1) 2027 X (dg dt_law27 24 rfl) (by decide) (by rw [if_pos hk0]) (fun h => absurd h (by decide)) (fun _ => ?_)
    refine G_aload_n (pc := 2015) 3 X (dg dt_law27 25 rfl) rfl rfl ?_
    refine G_iconst (pc := 2016) 0 X (dg dt_law27 26 rfl) (by decide) ?_
    refine G_lald (pc := 2017) X (dg dt_law27 27 rfl) sh_103 (by decide) ?_
    refine G_iload (pc := 2018) X (dg dt_law27 28 rfl) rfl ?_
    refine G_i2l (pc := 2020) X (dg dt_law27 29 rfl) ?_
    refine G_lcmp (pc := 2021) X (dg dt_law27 30 rfl) ?_
    refine G_if_eq (pc := 2022) (a := 1) (b := 0) (r := 1) 2027 X (dg dt_law27 31 rfl) (by decide) (if_pos (lg_same (by rw [show σ2 103 (ix 0) = b9 from h4 hk0]))) (fun _ => ?_) (fun h => absurd h (by decide))
    refine G_goto (pc := 2027) 2285 X (dg dt_law27 34 rfl) (by decide) ?_
    exact G_wk kk ⟨rfl, ⟨rfl, ⟨rfl, ⟨rfl, ⟨rfl, trivial⟩⟩⟩⟩⟩
  · refine G_if_ne (pc := 2012) (a := 1) (b := 0) (r := 1) 2027 X (dg dt_law27 24 rfl) (by decide) (by rw [if_neg hk0]) (fun _ => ?_) (fun h => absurd h (by decide))
    refine G_goto (pc := 2027) 2285 X (dg dt_law27 34 rfl) (by decide) ?_
    exact G_wk kk ⟨rfl, ⟨rfl, ⟨rfl, ⟨rfl, ⟨rfl, trivial⟩⟩⟩⟩⟩
set_option maxRecDepth 100000 in
set_option maxHeartbeats 4000000 in
theorem s_law28 {θ : Th} {ad : Nat → Nat} {cs : Nat × Nat} {b n : Nat} {xs : Nat → Int32} {i : Int32} {σ : St} (X : Cx θ g_strs code 7 "QuasigroveLaw" 2048 84000) (hS9 : Sx θ b n xs) (htr : θ.2.1.stackTraces = false) (hi1 : inb (i + 1) n = true) {k b9 : Int32} {σ1 σ2 : St} (h1 : fw_mate σ (xs (ix (i + 1))) = some (k, σ1)) (h2 : f_R_mate σ1 (xs (ix (i + 1))) = some (b9, σ2)) (h3 : σ2 82 0 = k) (h4 : k = 0 → σ2 103 0 = b9) (hR : Rm θ (cs.1 + 1) (cs.2 + 6)) (kk : G θ (cs.1 + 1, cs.2 + 6) (g_SH, ad) σ2 2285 [some (.ref b), some (.ref (ad 0)), some (.ref (ad 82)), some (.ref (ad 103)), some (.int i)] []) : G θ cs (g_SH, ad) σ 2030 [some (.ref b), some (.ref (ad 0)), some (.ref (ad 82)), some (.ref (ad 103)), some (.int i), none, none] [] := by
  have hc : Rc θ (cs.1 + 1, cs.2 + 6) := Rm_rc hR
  refine G_aload_n (pc := 2030) 1 X (dg dt_law28 0 rfl) rfl rfl ?_
  refine G_aload_n (pc := 2031) 0 X (dg dt_law28 1 rfl) rfl rfl ?_
  refine G_iload (pc := 2032) X (dg dt_law28 2 rfl) rfl ?_
  refine G_iconst (pc := 2034) 1 X (dg dt_law28 3 rfl) (by decide) ?_
  refine G_iadd (pc := 2035) X (dg dt_law28 4 rfl) ?_
  refine G_sld (pc := 2036) X hS9 (dg dt_law28 5 rfl) hi1 ?_
  refine G_aload_n (pc := 2037) 3 X (dg dt_law28 6 rfl) rfl rfl ?_
  refine G_callSW (pc := 2038) (S := []) (n := 3) [.ref (ad 0), .int (xs (ix (i + 1))), .ref (ad 103)] X hS9.nx (dg dt_law28 7 rfl) w_1006 w_71 ⟨by decide +kernel, by decide +kernel, by decide +kernel⟩ w_1005 w_1004 (s_L_mate htr ad σ _ h1) rfl ⟨Nat.le_of_ble_eq_true rfl, Nat.le_of_ble_eq_true rfl⟩ (Nat.le_of_ble_eq_true rfl) hR ?_
  refine G_istore (pc := 2041) X (dg dt_law28 8 rfl) (Nat.le_of_ble_eq_true rfl) rfl ?_
  refine G_aload_n (pc := 2043) 2 X (dg dt_law28 9 rfl) rfl rfl ?_
  refine G_aload_n (pc := 2044) 0 X (dg dt_law28 10 rfl) rfl rfl ?_
  refine G_iload (pc := 2045) X (dg dt_law28 11 rfl) rfl ?_
  refine G_iconst (pc := 2047) 1 X (dg dt_law28 12 rfl) (by decide) ?_
  refine G_iadd (pc := 2048) X (dg dt_law28 13 rfl) ?_
  refine G_sld (pc := 2049) X hS9 (dg dt_law28 14 rfl) hi1 ?_
  refine G_callV (pc := 2050) (S := []) [.int (xs (ix (i + 1)))] nosub X (dg dt_law28 15 rfl) cb_R_mate cv_R_mate w_1432 (s_R_mate _ ad σ1 _ h2) rfl ⟨Nat.le_of_ble_eq_true rfl, Nat.le_of_ble_eq_true rfl⟩ sh_82 rfl (Nat.le_of_ble_eq_true rfl) hc ?_
  refine G_istore (pc := 2053) X (dg dt_law28 16 rfl) (Nat.le_of_ble_eq_true rfl) rfl ?_
  refine G_aload_n (pc := 2055) 2 X (dg dt_law28 17 rfl) rfl rfl ?_
  refine G_callV (pc := 2056) (S := []) [] nosub X (dg dt_law28 18 rfl) cb_R_thrown cv_R_thrown w_1151 (s_R_thrown _ ad σ2 (rv := σ2 82 0) rfl) rfl ⟨Nat.le_of_ble_eq_true rfl, Nat.le_of_ble_eq_true rfl⟩ sh_82 rfl (Nat.le_of_ble_eq_true rfl) hc ?_
  refine G_iload (pc := 2059) X (dg dt_law28 19 rfl) rfl ?_
  refine G_icmp_eq (pc := 2061) (a := 1) (b := 0) (r := 1) 2066 X (dg dt_law28 20 rfl) (by decide) (by rw [if_pos h3]) (fun _ => ?_) (fun h => absurd h (by decide))
  refine G_iload (pc := 2066) X (dg dt_law28 23 rfl) rfl ?_
  by_cases hk0 : k = 0
  · refine G_if_ne (pc := 2068) (a := 0) (b := 1) (r := 1) 2083 X (dg dt_law28 24 rfl) (by decide) (by rw [if_pos hk0]) (fun h => absurd h (by decide)) (fun _ => ?_)
    refine G_aload_n (pc := 2071) 3 X (dg dt_law28 25 rfl) rfl rfl ?_
    refine G_iconst (pc := 2072) 0 X (dg dt_law28 26 rfl) (by decide) ?_
    refine G_lald (pc := 2073) X (dg dt_law28 27 rfl) sh_103 (by decide) ?_
    refine G_iload (pc := 2074) X (dg dt_law28 28 rfl) rfl ?_
    refine G_i2l (pc := 2076) X (dg dt_law28 29 rfl) ?_
    refine G_lcmp (pc := 2077) X (dg dt_law28 30 rfl) ?_
    refine G_if_eq (pc := 2078) (a := 1) (b := 0) (r := 1) 2083 X (dg dt_law28 31 rfl) (by decide) (if_pos (lg_same (by rw [show σ2 103 (ix 0) = b9 from h4 hk0]))) (fun _ => ?_) (fun h => absurd h (by decide))
    refine G_goto (pc := 2083) 2285 X (dg dt_law28 34 rfl) (by decide) ?_
    exact G_wk kk ⟨rfl, ⟨rfl, ⟨rfl, ⟨rfl, ⟨rfl, trivial⟩⟩⟩⟩⟩
  · refine G_if_ne (pc := 2068) (a := 1) (b := 0) (r := 1) 2083 X (dg dt_law28 24 rfl) (by decide) (by rw [if_neg hk0]) (fun _ => ?_) (fun h => absurd h (by decide))
    refine G_goto (pc := 2083) 2285 X (dg dt_law28 34 rfl) (by decide) ?_
    exact G_wk kk ⟨rfl, ⟨rfl, ⟨rfl, ⟨rfl, ⟨rfl, trivial⟩⟩⟩⟩⟩
set_option maxRecDepth 100000 in
set_option maxHeartbeats 4000000 in
theorem s_law29 {θ : Th} {ad : Nat → Nat} {cs : Nat × Nat} {b n : Nat} {xs : Nat → Int32} {i : Int32} {σ : St} (X : Cx θ g_strs code 7 "QuasigroveLaw" 2048 84000) (hS9 : Sx θ b n xs) (htr : θ.2.1.stackTraces = false) (hi1 : inb (i + 1) n = true) (hi2 : inb (i + 2) n = true) {k b9 : Int32} {σ1 σ2 : St} (h1 : fw_areMates σ (xs (ix (i + 1))) (xs (ix (i + 2))) = some (k, σ1)) (h2 : f_R_areMates σ1 (xs (ix (i + 1))) (xs (ix (i + 2))) = some (b9, σ2)) (h3 : σ2 82 0 = k) (h4 : k = 0 → σ2 103 0 = if b9 = 0 then 0 else 1) (hR : Rm θ (cs.1 + 1) (cs.2 + 6)) (kk : G θ (cs.1 + 1, cs.2 + 6) (g_SH, ad) σ2 2285 [some (.ref b), some (.ref (ad 0)), some (.ref (ad 82)), some (.ref (ad 103)), some (.int i)] []) : G θ cs (g_SH, ad) σ 2086 [some (.ref b), some (.ref (ad 0)), some (.ref (ad 82)), some (.ref (ad 103)), some (.int i), none, none] [] := by
  have hc : Rc θ (cs.1 + 1, cs.2 + 6) := Rm_rc hR
  refine G_aload_n (pc := 2086) 1 X (dg dt_law29 0 rfl) rfl rfl ?_
  refine G_aload_n (pc := 2087) 0 X (dg dt_law29 1 rfl) rfl rfl ?_
  refine G_iload (pc := 2088) X (dg dt_law29 2 rfl) rfl ?_
  refine G_iconst (pc := 2090) 1 X (dg dt_law29 3 rfl) (by decide) ?_
  refine G_iadd (pc := 2091) X (dg dt_law29 4 rfl) ?_
  refine G_sld (pc := 2092) X hS9 (dg dt_law29 5 rfl) hi1 ?_
  refine G_aload_n (pc := 2093) 0 X (dg dt_law29 6 rfl) rfl rfl ?_
  refine G_iload (pc := 2094) X (dg dt_law29 7 rfl) rfl ?_
  refine G_iconst (pc := 2096) 2 X (dg dt_law29 8 rfl) (by decide) ?_
  refine G_iadd (pc := 2097) X (dg dt_law29 9 rfl) ?_
  refine G_sld (pc := 2098) X hS9 (dg dt_law29 10 rfl) hi2 ?_
  refine G_aload_n (pc := 2099) 3 X (dg dt_law29 11 rfl) rfl rfl ?_
  refine G_callSW (pc := 2100) (S := []) (n := 4) [.ref (ad 0), .int (xs (ix (i + 1))), .int (xs (ix (i + 2))), .ref (ad 103)] X hS9.nx (dg dt_law29 12 rfl) w_1013 w_71 ⟨by decide +kernel, by decide +kernel, by decide +kernel⟩ w_1012 w_1011 (s_L_areMates htr ad σ _ _ h1) rfl ⟨Nat.le_of_ble_eq_true rfl, Nat.le_of_ble_eq_true rfl⟩ (Nat.le_of_ble_eq_true rfl) hR ?_
  refine G_istore (pc := 2103) X (dg dt_law29 13 rfl) (Nat.le_of_ble_eq_true rfl) rfl ?_
  refine G_aload_n (pc := 2105) 2 X (dg dt_law29 14 rfl) rfl rfl ?_
  refine G_aload_n (pc := 2106) 0 X (dg dt_law29 15 rfl) rfl rfl ?_
  refine G_iload (pc := 2107) X (dg dt_law29 16 rfl) rfl ?_
  refine G_iconst (pc := 2109) 1 X (dg dt_law29 17 rfl) (by decide) ?_
  refine G_iadd (pc := 2110) X (dg dt_law29 18 rfl) ?_
  refine G_sld (pc := 2111) X hS9 (dg dt_law29 19 rfl) hi1 ?_
  refine G_aload_n (pc := 2112) 0 X (dg dt_law29 20 rfl) rfl rfl ?_
  refine G_iload (pc := 2113) X (dg dt_law29 21 rfl) rfl ?_
  refine G_iconst (pc := 2115) 2 X (dg dt_law29 22 rfl) (by decide) ?_
  refine G_iadd (pc := 2116) X (dg dt_law29 23 rfl) ?_
  refine G_sld (pc := 2117) X hS9 (dg dt_law29 24 rfl) hi2 ?_
  refine G_callV (pc := 2118) (S := []) [.int (xs (ix (i + 1))), .int (xs (ix (i + 2)))] nosub X (dg dt_law29 25 rfl) cb_R_areMates cv_R_areMates w_1436 (s_R_areMates _ ad σ1 _ _ h2) rfl ⟨Nat.le_of_ble_eq_true rfl, Nat.le_of_ble_eq_true rfl⟩ sh_82 rfl (Nat.le_of_ble_eq_true rfl) hc ?_
  refine G_istore (pc := 2121) X (dg dt_law29 26 rfl) (Nat.le_of_ble_eq_true rfl) rfl ?_
  refine G_aload_n (pc := 2123) 2 X (dg dt_law29 27 rfl) rfl rfl ?_
  refine G_callV (pc := 2124) (S := []) [] nosub X (dg dt_law29 28 rfl) cb_R_thrown cv_R_thrown w_1151 (s_R_thrown _ ad σ2 (rv := σ2 82 0) rfl) rfl ⟨Nat.le_of_ble_eq_true rfl, Nat.le_of_ble_eq_true rfl⟩ sh_82 rfl (Nat.le_of_ble_eq_true rfl) hc ?_
  refine G_iload (pc := 2127) X (dg dt_law29 29 rfl) rfl ?_
  refine G_icmp_eq (pc := 2129) (a := 1) (b := 0) (r := 1) 2134 X (dg dt_law29 30 rfl) (by decide) (by rw [if_pos h3]) (fun _ => ?_) (fun h => absurd h (by decide))
  refine G_iload (pc := 2134) X (dg dt_law29 33 rfl) rfl ?_
  by_cases hk0 : k = 0
  · refine G_if_ne (pc := 2136) (a := 0) (b := 1) (r := 1) 2158 X (dg dt_law29 34 rfl) (by decide) (by rw [if_pos hk0]) (fun h => absurd h (by decide)) (fun _ => ?_)
    refine G_aload_n (pc := 2139) 3 X (dg dt_law29 35 rfl) rfl rfl ?_
    refine G_iconst (pc := 2140) 0 X (dg dt_law29 36 rfl) (by decide) ?_
    refine G_lald (pc := 2141) X (dg dt_law29 37 rfl) sh_103 (by decide) ?_
    refine G_iload (pc := 2142) X (dg dt_law29 38 rfl) rfl ?_
    by_cases hb0 : b9 = 0
    · refine G_if_eq (pc := 2144) (a := 1) (b := 0) (r := 1) 2151 X (dg dt_law29 39 rfl) (by decide) (if_pos hb0) (fun _ => ?_) (fun h => absurd h (by decide))
      refine G_lconst (pc := 2151) ((0 : Int32).toInt64) X (dg dt_law29 42 rfl) (by decide) ?_
      refine G_lcmp (pc := 2152) X (dg dt_law29 43 rfl) ?_
      refine G_if_eq (pc := 2153) (a := 1) (b := 0) (r := 1) 2158 X (dg dt_law29 44 rfl) (by decide) (if_pos (lg_same (by rw [show σ2 103 (ix 0) = 0 from (h4 hk0).trans (if_pos hb0)]))) (fun _ => ?_) (fun h => absurd h (by decide))
      refine G_goto (pc := 2158) 2285 X (dg dt_law29 47 rfl) (by decide) ?_
      exact G_wk kk ⟨rfl, ⟨rfl, ⟨rfl, ⟨rfl, ⟨rfl, trivial⟩⟩⟩⟩⟩
    · refine G_if_eq (pc := 2144) (a := 0) (b := 1) (r := 1) 2151 X (dg dt_law29 39 rfl) (by decide) (if_neg hb0) (fun h => absurd h (by decide)) (fun _ => ?_)
      refine G_lconst (pc := 2147) ((1 : Int32).toInt64) X (dg dt_law29 40 rfl) (by decide) ?_
      refine G_goto (pc := 2148) 2152 X (dg dt_law29 41 rfl) (by decide) ?_
      refine G_lcmp (pc := 2152) X (dg dt_law29 43 rfl) ?_
      refine G_if_eq (pc := 2153) (a := 1) (b := 0) (r := 1) 2158 X (dg dt_law29 44 rfl) (by decide) (if_pos (lg_same (by rw [show σ2 103 (ix 0) = 1 from (h4 hk0).trans (if_neg hb0)]))) (fun _ => ?_) (fun h => absurd h (by decide))
      refine G_goto (pc := 2158) 2285 X (dg dt_law29 47 rfl) (by decide) ?_
      exact G_wk kk ⟨rfl, ⟨rfl, ⟨rfl, ⟨rfl, ⟨rfl, trivial⟩⟩⟩⟩⟩
  · refine G_if_ne (pc := 2136) (a := 1) (b := 0) (r := 1) 2158 X (dg dt_law29 34 rfl) (by decide) (by rw [if_neg hk0]) (fun _ => ?_) (fun h => absurd h (by decide))
    refine G_goto (pc := 2158) 2285 X (dg dt_law29 47 rfl) (by decide) ?_
    exact G_wk kk ⟨rfl, ⟨rfl, ⟨rfl, ⟨rfl, ⟨rfl, trivial⟩⟩⟩⟩⟩
set_option maxRecDepth 100000 in
set_option maxHeartbeats 4000000 in
theorem s_law30 {θ : Th} {ad : Nat → Nat} {cs : Nat × Nat} {b n : Nat} {xs : Nat → Int32} {i : Int32} {σ : St} (X : Cx θ g_strs code 7 "QuasigroveLaw" 2048 84000) (hS9 : Sx θ b n xs) (htr : θ.2.1.stackTraces = false) (hi1 : inb (i + 1) n = true) (hi2 : inb (i + 2) n = true) {k b9 : Int32} {σ1 σ2 : St} (h1 : fw_parity σ (xs (ix (i + 1))) (xs (ix (i + 2))) = some (k, σ1)) (h2 : f_R_parity σ1 (xs (ix (i + 1))) (xs (ix (i + 2))) = some (b9, σ2)) (h3 : σ2 82 0 = k) (h4 : k = 0 → σ2 103 0 = b9) (hR : Rm θ (cs.1 + 1) (cs.2 + 6)) (kk : G θ (cs.1 + 1, cs.2 + 6) (g_SH, ad) σ2 2285 [some (.ref b), some (.ref (ad 0)), some (.ref (ad 82)), some (.ref (ad 103)), some (.int i)] []) : G θ cs (g_SH, ad) σ 2161 [some (.ref b), some (.ref (ad 0)), some (.ref (ad 82)), some (.ref (ad 103)), some (.int i), none, none] [] := by
  have hc : Rc θ (cs.1 + 1, cs.2 + 6) := Rm_rc hR
  refine G_aload_n (pc := 2161) 1 X (dg dt_law30 0 rfl) rfl rfl ?_
  refine G_aload_n (pc := 2162) 0 X (dg dt_law30 1 rfl) rfl rfl ?_
  refine G_iload (pc := 2163) X (dg dt_law30 2 rfl) rfl ?_
  refine G_iconst (pc := 2165) 1 X (dg dt_law30 3 rfl) (by decide) ?_
  refine G_iadd (pc := 2166) X (dg dt_law30 4 rfl) ?_
  refine G_sld (pc := 2167) X hS9 (dg dt_law30 5 rfl) hi1 ?_
  refine G_aload_n (pc := 2168) 0 X (dg dt_law30 6 rfl) rfl rfl ?_
  refine G_iload (pc := 2169) X (dg dt_law30 7 rfl) rfl ?_
  refine G_iconst (pc := 2171) 2 X (dg dt_law30 8 rfl) (by decide) ?_
  refine G_iadd (pc := 2172) X (dg dt_law30 9 rfl) ?_
  refine G_sld (pc := 2173) X hS9 (dg dt_law30 10 rfl) hi2 ?_
  refine G_aload_n (pc := 2174) 3 X (dg dt_law30 11 rfl) rfl rfl ?_
  refine G_callSW (pc := 2175) (S := []) (n := 4) [.ref (ad 0), .int (xs (ix (i + 1))), .int (xs (ix (i + 2))), .ref (ad 103)] X hS9.nx (dg dt_law30 12 rfl) w_1024 w_71 ⟨by decide +kernel, by decide +kernel, by decide +kernel⟩ w_1023 w_1022 (s_L_parity htr ad σ _ _ h1) rfl ⟨Nat.le_of_ble_eq_true rfl, Nat.le_of_ble_eq_true rfl⟩ (Nat.le_of_ble_eq_true rfl) hR ?_
  refine G_istore (pc := 2178) X (dg dt_law30 13 rfl) (Nat.le_of_ble_eq_true rfl) rfl ?_
  refine G_aload_n (pc := 2180) 2 X (dg dt_law30 14 rfl) rfl rfl ?_
  refine G_aload_n (pc := 2181) 0 X (dg dt_law30 15 rfl) rfl rfl ?_
  refine G_iload (pc := 2182) X (dg dt_law30 16 rfl) rfl ?_
  refine G_iconst (pc := 2184) 1 X (dg dt_law30 17 rfl) (by decide) ?_
  refine G_iadd (pc := 2185) X (dg dt_law30 18 rfl) ?_
  refine G_sld (pc := 2186) X hS9 (dg dt_law30 19 rfl) hi1 ?_
  refine G_aload_n (pc := 2187) 0 X (dg dt_law30 20 rfl) rfl rfl ?_
  refine G_iload (pc := 2188) X (dg dt_law30 21 rfl) rfl ?_
  refine G_iconst (pc := 2190) 2 X (dg dt_law30 22 rfl) (by decide) ?_
  refine G_iadd (pc := 2191) X (dg dt_law30 23 rfl) ?_
  refine G_sld (pc := 2192) X hS9 (dg dt_law30 24 rfl) hi2 ?_
  refine G_callV (pc := 2193) (S := []) [.int (xs (ix (i + 1))), .int (xs (ix (i + 2)))] nosub X (dg dt_law30 25 rfl) cb_R_parity cv_R_parity w_1440 (s_R_parity _ ad σ1 _ _ h2) rfl ⟨Nat.le_of_ble_eq_true rfl, Nat.le_of_ble_eq_true rfl⟩ sh_82 rfl (Nat.le_of_ble_eq_true rfl) hc ?_
  refine G_istore (pc := 2196) X (dg dt_law30 26 rfl) (Nat.le_of_ble_eq_true rfl) rfl ?_
  refine G_aload_n (pc := 2198) 2 X (dg dt_law30 27 rfl) rfl rfl ?_
  refine G_callV (pc := 2199) (S := []) [] nosub X (dg dt_law30 28 rfl) cb_R_thrown cv_R_thrown w_1151 (s_R_thrown _ ad σ2 (rv := σ2 82 0) rfl) rfl ⟨Nat.le_of_ble_eq_true rfl, Nat.le_of_ble_eq_true rfl⟩ sh_82 rfl (Nat.le_of_ble_eq_true rfl) hc ?_
  refine G_iload (pc := 2202) X (dg dt_law30 29 rfl) rfl ?_
  refine G_icmp_eq (pc := 2204) (a := 1) (b := 0) (r := 1) 2209 X (dg dt_law30 30 rfl) (by decide) (by rw [if_pos h3]) (fun _ => ?_) (fun h => absurd h (by decide))
  refine G_iload (pc := 2209) X (dg dt_law30 33 rfl) rfl ?_
  by_cases hk0 : k = 0
  · refine G_if_ne (pc := 2211) (a := 0) (b := 1) (r := 1) 2226 X (dg dt_law30 34 rfl) (by decide) (by rw [if_pos hk0]) (fun h => absurd h (by decide)) (fun _ => ?_)
    refine G_aload_n (pc := 2214) 3 X (dg dt_law30 35 rfl) rfl rfl ?_
    refine G_iconst (pc := 2215) 0 X (dg dt_law30 36 rfl) (by decide) ?_
    refine G_lald (pc := 2216) X (dg dt_law30 37 rfl) sh_103 (by decide) ?_
    refine G_iload (pc := 2217) X (dg dt_law30 38 rfl) rfl ?_
    refine G_i2l (pc := 2219) X (dg dt_law30 39 rfl) ?_
    refine G_lcmp (pc := 2220) X (dg dt_law30 40 rfl) ?_
    refine G_if_eq (pc := 2221) (a := 1) (b := 0) (r := 1) 2226 X (dg dt_law30 41 rfl) (by decide) (if_pos (lg_same (by rw [show σ2 103 (ix 0) = b9 from h4 hk0]))) (fun _ => ?_) (fun h => absurd h (by decide))
    refine G_goto (pc := 2226) 2285 X (dg dt_law30 44 rfl) (by decide) ?_
    exact G_wk kk ⟨rfl, ⟨rfl, ⟨rfl, ⟨rfl, ⟨rfl, trivial⟩⟩⟩⟩⟩
  · refine G_if_ne (pc := 2211) (a := 1) (b := 0) (r := 1) 2226 X (dg dt_law30 34 rfl) (by decide) (by rw [if_neg hk0]) (fun _ => ?_) (fun h => absurd h (by decide))
    refine G_goto (pc := 2226) 2285 X (dg dt_law30 44 rfl) (by decide) ?_
    exact G_wk kk ⟨rfl, ⟨rfl, ⟨rfl, ⟨rfl, ⟨rfl, trivial⟩⟩⟩⟩⟩
set_option maxRecDepth 100000 in
set_option maxHeartbeats 4000000 in
theorem s_law31 {θ : Th} {ad : Nat → Nat} {cs : Nat × Nat} {b n : Nat} {xs : Nat → Int32} {i : Int32} {σ : St} (X : Cx θ g_strs code 7 "QuasigroveLaw" 2048 84000) (hS9 : Sx θ b n xs) (htr : θ.2.1.stackTraces = false) (hi1 : inb (i + 1) n = true) {k b9 : Int32} {σ1 σ2 : St} (h1 : fw_wins σ (xs (ix (i + 1))) = some (k, σ1)) (h2 : f_R_wins σ1 (xs (ix (i + 1))) = some (b9, σ2)) (h3 : σ2 82 0 = k) (h4 : k = 0 → σ2 103 0 = b9) (hR : Rm θ (cs.1 + 1) (cs.2 + 6)) (kk : G θ (cs.1 + 1, cs.2 + 6) (g_SH, ad) σ2 2285 [some (.ref b), some (.ref (ad 0)), some (.ref (ad 82)), some (.ref (ad 103)), some (.int i)] []) : G θ cs (g_SH, ad) σ 2229 [some (.ref b), some (.ref (ad 0)), some (.ref (ad 82)), some (.ref (ad 103)), some (.int i), none, none] [] := by
  have hc : Rc θ (cs.1 + 1, cs.2 + 6) := Rm_rc hR
  refine G_aload_n (pc := 2229) 1 X (dg dt_law31 0 rfl) rfl rfl ?_
  refine G_aload_n (pc := 2230) 0 X (dg dt_law31 1 rfl) rfl rfl ?_
  refine G_iload (pc := 2231) X (dg dt_law31 2 rfl) rfl ?_
  refine G_iconst (pc := 2233) 1 X (dg dt_law31 3 rfl) (by decide) ?_
  refine G_iadd (pc := 2234) X (dg dt_law31 4 rfl) ?_
  refine G_sld (pc := 2235) X hS9 (dg dt_law31 5 rfl) hi1 ?_
  refine G_aload_n (pc := 2236) 3 X (dg dt_law31 6 rfl) rfl rfl ?_
  refine G_callSW (pc := 2237) (S := []) (n := 3) [.ref (ad 0), .int (xs (ix (i + 1))), .ref (ad 103)] X hS9.nx (dg dt_law31 7 rfl) w_1038 w_71 ⟨by decide +kernel, by decide +kernel, by decide +kernel⟩ w_1037 w_1036 (s_L_wins htr ad σ _ h1) rfl ⟨Nat.le_of_ble_eq_true rfl, Nat.le_of_ble_eq_true rfl⟩ (Nat.le_of_ble_eq_true rfl) hR ?_
  refine G_istore (pc := 2240) X (dg dt_law31 8 rfl) (Nat.le_of_ble_eq_true rfl) rfl ?_
  refine G_aload_n (pc := 2242) 2 X (dg dt_law31 9 rfl) rfl rfl ?_
  refine G_aload_n (pc := 2243) 0 X (dg dt_law31 10 rfl) rfl rfl ?_
  refine G_iload (pc := 2244) X (dg dt_law31 11 rfl) rfl ?_
  refine G_iconst (pc := 2246) 1 X (dg dt_law31 12 rfl) (by decide) ?_
  refine G_iadd (pc := 2247) X (dg dt_law31 13 rfl) ?_
  refine G_sld (pc := 2248) X hS9 (dg dt_law31 14 rfl) hi1 ?_
  refine G_callV (pc := 2249) (S := []) [.int (xs (ix (i + 1)))] nosub X (dg dt_law31 15 rfl) cb_R_wins cv_R_wins w_1444 (s_R_wins _ ad σ1 _ h2) rfl ⟨Nat.le_of_ble_eq_true rfl, Nat.le_of_ble_eq_true rfl⟩ sh_82 rfl (Nat.le_of_ble_eq_true rfl) hc ?_
  refine G_istore (pc := 2252) X (dg dt_law31 16 rfl) (Nat.le_of_ble_eq_true rfl) rfl ?_
  refine G_aload_n (pc := 2254) 2 X (dg dt_law31 17 rfl) rfl rfl ?_
  refine G_callV (pc := 2255) (S := []) [] nosub X (dg dt_law31 18 rfl) cb_R_thrown cv_R_thrown w_1151 (s_R_thrown _ ad σ2 (rv := σ2 82 0) rfl) rfl ⟨Nat.le_of_ble_eq_true rfl, Nat.le_of_ble_eq_true rfl⟩ sh_82 rfl (Nat.le_of_ble_eq_true rfl) hc ?_
  refine G_iload (pc := 2258) X (dg dt_law31 19 rfl) rfl ?_
  refine G_icmp_eq (pc := 2260) (a := 1) (b := 0) (r := 1) 2265 X (dg dt_law31 20 rfl) (by decide) (by rw [if_pos h3]) (fun _ => ?_) (fun h => absurd h (by decide))
  refine G_iload (pc := 2265) X (dg dt_law31 23 rfl) rfl ?_
  by_cases hk0 : k = 0
  · refine G_if_ne (pc := 2267) (a := 0) (b := 1) (r := 1) 2282 X (dg dt_law31 24 rfl) (by decide) (by rw [if_pos hk0]) (fun h => absurd h (by decide)) (fun _ => ?_)
    refine G_aload_n (pc := 2270) 3 X (dg dt_law31 25 rfl) rfl rfl ?_
    refine G_iconst (pc := 2271) 0 X (dg dt_law31 26 rfl) (by decide) ?_
    refine G_lald (pc := 2272) X (dg dt_law31 27 rfl) sh_103 (by decide) ?_
    refine G_iload (pc := 2273) X (dg dt_law31 28 rfl) rfl ?_
    refine G_i2l (pc := 2275) X (dg dt_law31 29 rfl) ?_
    refine G_lcmp (pc := 2276) X (dg dt_law31 30 rfl) ?_
    refine G_if_eq (pc := 2277) (a := 1) (b := 0) (r := 1) 2282 X (dg dt_law31 31 rfl) (by decide) (if_pos (lg_same (by rw [show σ2 103 (ix 0) = b9 from h4 hk0]))) (fun _ => ?_) (fun h => absurd h (by decide))
    refine G_goto (pc := 2282) 2285 X (dg dt_law31 34 rfl) (by decide) ?_
    exact G_wk kk ⟨rfl, ⟨rfl, ⟨rfl, ⟨rfl, ⟨rfl, trivial⟩⟩⟩⟩⟩
  · refine G_if_ne (pc := 2267) (a := 1) (b := 0) (r := 1) 2282 X (dg dt_law31 24 rfl) (by decide) (by rw [if_neg hk0]) (fun _ => ?_) (fun h => absurd h (by decide))
    refine G_goto (pc := 2282) 2285 X (dg dt_law31 34 rfl) (by decide) ?_
    exact G_wk kk ⟨rfl, ⟨rfl, ⟨rfl, ⟨rfl, ⟨rfl, trivial⟩⟩⟩⟩⟩
