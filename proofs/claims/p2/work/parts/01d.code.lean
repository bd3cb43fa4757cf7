def kL_cell : pTab := [[(0, .iload_n 1, 1), (1, .aload_n 0, 1), (2, .arraylength, 1), (3, .if_icmp .ge 9, 3), (6, .aload_n 0, 1), (7, .iload_n 1, 1), (8, .iaload, 1), (9, .goto 4, 3), (12, .iconst 0, 1), (13, .ireturn, 1)]]
set_option maxRecDepth 100000 in
theorem kL_cell_ok : pTabOk cL_cell kL_cell = true := by decide +kernel
def kL_law_p0 : pTab := [[(0, .new 7, 3), (3, .dup, 1), (4, .aload_n 0, 1), (5, .iconst 0, 1), (6, .invokestatic 9, 3), (9, .aload_n 0, 1), (10, .iconst 1, 1), (11, .invokestatic 9, 3), (14, .invokespecial 15, 3)], [(17, .astore_n 1, 1), (18, .new 18, 3), (21, .dup, 1), (22, .aload_n 0, 1), (23, .iconst 0, 1), (24, .invokestatic 9, 3), (27, .aload_n 0, 1), (28, .iconst 1, 1), (29, .invokestatic 9, 3)], [(32, .invokespecial 20, 3), (35, .astore_n 2, 1), (36, .iconst 2, 1), (37, .istore_n 3, 1), (38, .iload_n 3, 1), (39, .aload_n 0, 1), (40, .arraylength, 1), (41, .bipush 6, 2), (43, .isub, 1), (44, .if_icmp .gt 1378, 3), (47, .aload_n 0, 1)], [(48, .iload_n 3, 1), (49, .iaload, 1), (50, .bipush 63, 2), (52, .iand, 1), (53, .tableswitch 1363 0 37 #[167, 200, 223, 298, 321, 364, 427, 470, 513, 536, 599, 622, 635, 658, 681, 714, 757, 790, 823, 856, 879, 892, 925, 948, 971, 984, 1007, 1020, 1043, 1076, 1099, 1132, 1165, 1198, 1251, 1314, 1327, 1340], 167)]]
set_option maxRecDepth 100000 in
theorem kL_law_p0_ok : pTabOk cL_law kL_law_p0 = true := by decide +kernel
def kL_law_p1 : pTab := [[], [], [], []]
set_option maxRecDepth 100000 in
theorem kL_law_p1_ok : pTabOk cL_law kL_law_p1 = true := by decide +kernel
def kL_law_p2 : pTab := [[], [], [], []]
set_option maxRecDepth 100000 in
theorem kL_law_p2_ok : pTabOk cL_law kL_law_p2 = true := by decide +kernel
def kL_law_p3 : pTab := [[], [(220, .aload_n 1, 1), (221, .aload_n 0, 1), (222, .iload_n 3, 1), (223, .iconst 1, 1)], [(224, .iadd, 1), (225, .iaload, 1), (226, .aload_n 0, 1), (227, .iload_n 3, 1), (228, .iconst 2, 1), (229, .iadd, 1), (230, .iaload, 1), (231, .invokevirtual 21, 3), (234, .aload_n 2, 1), (235, .aload_n 0, 1), (236, .iload_n 3, 1), (237, .iconst 1, 1), (238, .iadd, 1), (239, .iaload, 1)], [(240, .aload_n 0, 1), (241, .iload_n 3, 1), (242, .iconst 2, 1), (243, .iadd, 1), (244, .iaload, 1), (245, .invokevirtual 25, 3), (248, .if_icmp .eq 1168, 3), (251, .iconst 0, 1), (252, .ireturn, 1), (253, .aload_n 1, 1), (254, .aload_n 0, 1), (255, .iload_n 3, 1)]]
set_option maxRecDepth 100000 in
theorem kL_law_p3_ok : pTabOk cL_law kL_law_p3 = true := by decide +kernel
def kL_law_p4 : pTab := [[(256, .iconst 1, 1), (257, .iadd, 1), (258, .iaload, 1), (259, .invokevirtual 26, 3), (262, .pop, 1), (263, .aload_n 2, 1), (264, .aload_n 0, 1), (265, .iload_n 3, 1), (266, .iconst 1, 1), (267, .iadd, 1), (268, .iaload, 1), (269, .invokevirtual 30, 3)], [(272, .pop, 1), (273, .goto 1143, 3), (276, .aload_n 1, 1), (277, .aload_n 0, 1), (278, .iload_n 3, 1), (279, .iconst 1, 1), (280, .iadd, 1), (281, .iaload, 1), (282, .aload_n 0, 1), (283, .iload_n 3, 1), (284, .iconst 2, 1), (285, .iadd, 1), (286, .iaload, 1), (287, .ifCond .eq 7, 3)], [(290, .iconst 1, 1), (291, .goto 4, 3), (294, .iconst 0, 1), (295, .aload_n 0, 1), (296, .iload_n 3, 1), (297, .iconst 3, 1), (298, .iadd, 1), (299, .iaload, 1), (300, .ifCond .eq 7, 3), (303, .iconst 1, 1)], [(304, .goto 4, 3), (307, .iconst 0, 1), (308, .invokevirtual 31, 3), (311, .pop, 1), (312, .aload_n 2, 1), (313, .aload_n 0, 1), (314, .iload_n 3, 1), (315, .iconst 1, 1), (316, .iadd, 1), (317, .iaload, 1), (318, .aload_n 0, 1), (319, .iload_n 3, 1)]]
set_option maxRecDepth 100000 in
theorem kL_law_p4_ok : pTabOk cL_law kL_law_p4 = true := by decide +kernel
def kL_law_p5 : pTab := [[(320, .iconst 2, 1), (321, .iadd, 1), (322, .iaload, 1), (323, .ifCond .eq 7, 3), (326, .iconst 1, 1), (327, .goto 4, 3), (330, .iconst 0, 1), (331, .aload_n 0, 1), (332, .iload_n 3, 1), (333, .iconst 3, 1), (334, .iadd, 1), (335, .iaload, 1)], [(336, .ifCond .eq 7, 3), (339, .iconst 1, 1), (340, .goto 4, 3), (343, .iconst 0, 1), (344, .invokevirtual 35, 3), (347, .pop, 1), (348, .goto 1068, 3), (351, .aload_n 1, 1)], [(352, .aload_n 0, 1), (353, .iload_n 3, 1), (354, .iconst 1, 1), (355, .iadd, 1), (356, .iaload, 1), (357, .invokevirtual 36, 3), (360, .pop, 1), (361, .aload_n 2, 1), (362, .aload_n 0, 1), (363, .iload_n 3, 1), (364, .iconst 1, 1), (365, .iadd, 1), (366, .iaload, 1), (367, .invokevirtual 40, 3)], [(370, .pop, 1), (371, .goto 1045, 3), (374, .aload_n 1, 1), (375, .aload_n 0, 1), (376, .iload_n 3, 1), (377, .iconst 1, 1), (378, .iadd, 1), (379, .iaload, 1), (380, .aload_n 0, 1), (381, .iload_n 3, 1), (382, .iconst 2, 1), (383, .iadd, 1)]]
set_option maxRecDepth 100000 in
theorem kL_law_p5_ok : pTabOk cL_law kL_law_p5 = true := by decide +kernel
def kL_law_p6 : pTab := [[(384, .iaload, 1), (385, .aload_n 0, 1), (386, .iload_n 3, 1), (387, .iconst 3, 1), (388, .iadd, 1), (389, .iaload, 1), (390, .invokevirtual 41, 3), (393, .pop, 1), (394, .aload_n 2, 1), (395, .aload_n 0, 1), (396, .iload_n 3, 1), (397, .iconst 1, 1), (398, .iadd, 1), (399, .iaload, 1)], [(400, .aload_n 0, 1), (401, .iload_n 3, 1), (402, .iconst 2, 1), (403, .iadd, 1), (404, .iaload, 1), (405, .aload_n 0, 1), (406, .iload_n 3, 1), (407, .iconst 3, 1), (408, .iadd, 1), (409, .iaload, 1), (410, .invokevirtual 45, 3), (413, .pop, 1), (414, .goto 1002, 3)], [(417, .aload_n 1, 1), (418, .aload_n 0, 1), (419, .iload_n 3, 1), (420, .iconst 1, 1), (421, .iadd, 1), (422, .iaload, 1), (423, .aload_n 0, 1), (424, .iload_n 3, 1), (425, .iconst 2, 1), (426, .iadd, 1), (427, .iaload, 1), (428, .aload_n 0, 1), (429, .iload_n 3, 1), (430, .iconst 3, 1), (431, .iadd, 1)], [(432, .iaload, 1), (433, .aload_n 0, 1), (434, .iload_n 3, 1), (435, .iconst 4, 1), (436, .iadd, 1), (437, .iaload, 1), (438, .aload_n 0, 1), (439, .iload_n 3, 1), (440, .iconst 5, 1), (441, .iadd, 1), (442, .iaload, 1), (443, .invokevirtual 46, 3), (446, .pop, 1), (447, .aload_n 2, 1)]]
set_option maxRecDepth 100000 in
theorem kL_law_p6_ok : pTabOk cL_law kL_law_p6 = true := by decide +kernel
def kL_law_p7 : pTab := [[(448, .aload_n 0, 1), (449, .iload_n 3, 1), (450, .iconst 1, 1), (451, .iadd, 1), (452, .iaload, 1), (453, .aload_n 0, 1), (454, .iload_n 3, 1), (455, .iconst 2, 1), (456, .iadd, 1), (457, .iaload, 1), (458, .aload_n 0, 1), (459, .iload_n 3, 1), (460, .iconst 3, 1), (461, .iadd, 1), (462, .iaload, 1), (463, .aload_n 0, 1)], [(464, .iload_n 3, 1), (465, .iconst 4, 1), (466, .iadd, 1), (467, .iaload, 1), (468, .aload_n 0, 1), (469, .iload_n 3, 1), (470, .iconst 5, 1), (471, .iadd, 1), (472, .iaload, 1), (473, .invokevirtual 50, 3), (476, .pop, 1), (477, .goto 939, 3)], [(480, .aload_n 1, 1), (481, .aload_n 0, 1), (482, .iload_n 3, 1), (483, .iconst 1, 1), (484, .iadd, 1), (485, .iaload, 1), (486, .aload_n 0, 1), (487, .iload_n 3, 1), (488, .iconst 2, 1), (489, .iadd, 1), (490, .iaload, 1), (491, .aload_n 0, 1), (492, .iload_n 3, 1), (493, .iconst 3, 1), (494, .iadd, 1), (495, .iaload, 1)], [(496, .invokevirtual 51, 3), (499, .pop, 1), (500, .aload_n 2, 1), (501, .aload_n 0, 1), (502, .iload_n 3, 1), (503, .iconst 1, 1), (504, .iadd, 1), (505, .iaload, 1), (506, .aload_n 0, 1), (507, .iload_n 3, 1), (508, .iconst 2, 1), (509, .iadd, 1), (510, .iaload, 1), (511, .aload_n 0, 1)]]
set_option maxRecDepth 100000 in
theorem kL_law_p7_ok : pTabOk cL_law kL_law_p7 = true := by decide +kernel
def kL_law_p8 : pTab := [[(512, .iload_n 3, 1), (513, .iconst 3, 1), (514, .iadd, 1), (515, .iaload, 1), (516, .invokevirtual 54, 3), (519, .pop, 1), (520, .goto 896, 3), (523, .aload_n 1, 1), (524, .aload_n 0, 1), (525, .iload_n 3, 1), (526, .iconst 1, 1), (527, .iadd, 1)], [(528, .iaload, 1), (529, .aload_n 0, 1), (530, .iload_n 3, 1), (531, .iconst 2, 1), (532, .iadd, 1), (533, .iaload, 1), (534, .aload_n 0, 1), (535, .iload_n 3, 1), (536, .iconst 3, 1), (537, .iadd, 1), (538, .iaload, 1), (539, .invokevirtual 55, 3), (542, .pop, 1), (543, .aload_n 2, 1)], [(544, .aload_n 0, 1), (545, .iload_n 3, 1), (546, .iconst 1, 1), (547, .iadd, 1), (548, .iaload, 1), (549, .aload_n 0, 1), (550, .iload_n 3, 1), (551, .iconst 2, 1), (552, .iadd, 1), (553, .iaload, 1), (554, .aload_n 0, 1), (555, .iload_n 3, 1), (556, .iconst 3, 1), (557, .iadd, 1), (558, .iaload, 1), (559, .invokevirtual 58, 3)], [(562, .pop, 1), (563, .goto 853, 3), (566, .aload_n 1, 1), (567, .aload_n 0, 1), (568, .iload_n 3, 1), (569, .iconst 1, 1), (570, .iadd, 1), (571, .iaload, 1), (572, .invokevirtual 59, 3), (575, .pop, 1)]]
set_option maxRecDepth 100000 in
theorem kL_law_p8_ok : pTabOk cL_law kL_law_p8 = true := by decide +kernel
def kL_law_p9 : pTab := [[(576, .aload_n 2, 1), (577, .aload_n 0, 1), (578, .iload_n 3, 1), (579, .iconst 1, 1), (580, .iadd, 1), (581, .iaload, 1), (582, .invokevirtual 62, 3), (585, .pop, 1), (586, .goto 830, 3), (589, .aload_n 1, 1), (590, .aload_n 0, 1), (591, .iload_n 3, 1)], [(592, .iconst 1, 1), (593, .iadd, 1), (594, .iaload, 1), (595, .aload_n 0, 1), (596, .iload_n 3, 1), (597, .iconst 2, 1), (598, .iadd, 1), (599, .iaload, 1), (600, .aload_n 0, 1), (601, .iload_n 3, 1), (602, .iconst 3, 1), (603, .iadd, 1), (604, .iaload, 1), (605, .aload_n 0, 1), (606, .iload_n 3, 1), (607, .iconst 4, 1)], [(608, .iadd, 1), (609, .iaload, 1), (610, .aload_n 0, 1), (611, .iload_n 3, 1), (612, .iconst 5, 1), (613, .iadd, 1), (614, .iaload, 1), (615, .invokevirtual 63, 3), (618, .pop, 1), (619, .aload_n 2, 1), (620, .aload_n 0, 1), (621, .iload_n 3, 1), (622, .iconst 1, 1), (623, .iadd, 1)], [(624, .iaload, 1), (625, .aload_n 0, 1), (626, .iload_n 3, 1), (627, .iconst 2, 1), (628, .iadd, 1), (629, .iaload, 1), (630, .aload_n 0, 1), (631, .iload_n 3, 1), (632, .iconst 3, 1), (633, .iadd, 1), (634, .iaload, 1), (635, .aload_n 0, 1), (636, .iload_n 3, 1), (637, .iconst 4, 1), (638, .iadd, 1), (639, .iaload, 1)]]
set_option maxRecDepth 100000 in
theorem kL_law_p9_ok : pTabOk cL_law kL_law_p9 = true := by decide +kernel
def kL_law_p10 : pTab := [[(640, .aload_n 0, 1), (641, .iload_n 3, 1), (642, .iconst 5, 1), (643, .iadd, 1), (644, .iaload, 1), (645, .invokevirtual 67, 3), (648, .pop, 1), (649, .goto 767, 3), (652, .aload_n 1, 1), (653, .aload_n 0, 1), (654, .iload_n 3, 1), (655, .iconst 1, 1)], [(656, .iadd, 1), (657, .iaload, 1), (658, .invokevirtual 68, 3), (661, .pop, 1), (662, .aload_n 2, 1), (663, .aload_n 0, 1), (664, .iload_n 3, 1), (665, .iconst 1, 1), (666, .iadd, 1), (667, .iaload, 1), (668, .invokevirtual 71, 3), (671, .pop, 1)], [(672, .goto 744, 3), (675, .aload_n 1, 1), (676, .invokevirtual 72, 3), (679, .pop, 1), (680, .aload_n 2, 1), (681, .invokevirtual 76, 3), (684, .pop, 1), (685, .goto 731, 3)], [(688, .aload_n 1, 1), (689, .aload_n 0, 1), (690, .iload_n 3, 1), (691, .iconst 1, 1), (692, .iadd, 1), (693, .iaload, 1), (694, .invokevirtual 77, 3), (697, .pop, 1), (698, .aload_n 2, 1), (699, .aload_n 0, 1), (700, .iload_n 3, 1), (701, .iconst 1, 1), (702, .iadd, 1), (703, .iaload, 1)]]
set_option maxRecDepth 100000 in
theorem kL_law_p10_ok : pTabOk cL_law kL_law_p10 = true := by decide +kernel
def kL_law_p11 : pTab := [[(704, .invokevirtual 80, 3), (707, .pop, 1), (708, .goto 708, 3), (711, .aload_n 1, 1), (712, .aload_n 0, 1), (713, .iload_n 3, 1), (714, .iconst 1, 1), (715, .iadd, 1), (716, .iaload, 1), (717, .invokevirtual 81, 3)], [(720, .pop, 1), (721, .aload_n 2, 1), (722, .aload_n 0, 1), (723, .iload_n 3, 1), (724, .iconst 1, 1), (725, .iadd, 1), (726, .iaload, 1), (727, .invokevirtual 84, 3), (730, .pop, 1), (731, .goto 685, 3), (734, .aload_n 1, 1), (735, .aload_n 0, 1)], [(736, .iload_n 3, 1), (737, .iconst 1, 1), (738, .iadd, 1), (739, .iaload, 1), (740, .aload_n 0, 1), (741, .iload_n 3, 1), (742, .iconst 2, 1), (743, .iadd, 1), (744, .iaload, 1), (745, .invokevirtual 85, 3), (748, .pop, 1), (749, .aload_n 2, 1), (750, .aload_n 0, 1), (751, .iload_n 3, 1)], [(752, .iconst 1, 1), (753, .iadd, 1), (754, .iaload, 1), (755, .aload_n 0, 1), (756, .iload_n 3, 1), (757, .iconst 2, 1), (758, .iadd, 1), (759, .iaload, 1), (760, .invokevirtual 88, 3), (763, .pop, 1), (764, .goto 652, 3), (767, .aload_n 1, 1)]]
set_option maxRecDepth 100000 in
theorem kL_law_p11_ok : pTabOk cL_law kL_law_p11 = true := by decide +kernel
def kL_law_p12 : pTab := [[(768, .aload_n 0, 1), (769, .iload_n 3, 1), (770, .iconst 1, 1), (771, .iadd, 1), (772, .iaload, 1), (773, .aload_n 0, 1), (774, .iload_n 3, 1), (775, .iconst 2, 1), (776, .iadd, 1), (777, .iaload, 1), (778, .aload_n 0, 1), (779, .iload_n 3, 1), (780, .iconst 3, 1), (781, .iadd, 1), (782, .iaload, 1), (783, .invokevirtual 89, 3)], [(786, .pop, 1), (787, .aload_n 2, 1), (788, .aload_n 0, 1), (789, .iload_n 3, 1), (790, .iconst 1, 1), (791, .iadd, 1), (792, .iaload, 1), (793, .aload_n 0, 1), (794, .iload_n 3, 1), (795, .iconst 2, 1), (796, .iadd, 1), (797, .iaload, 1), (798, .aload_n 0, 1), (799, .iload_n 3, 1)], [(800, .iconst 3, 1), (801, .iadd, 1), (802, .iaload, 1), (803, .invokevirtual 93, 3), (806, .pop, 1), (807, .goto 609, 3), (810, .aload_n 1, 1), (811, .aload_n 0, 1), (812, .iload_n 3, 1), (813, .iconst 1, 1), (814, .iadd, 1), (815, .iaload, 1)], [(816, .aload_n 0, 1), (817, .iload_n 3, 1), (818, .iconst 2, 1), (819, .iadd, 1), (820, .iaload, 1), (821, .invokevirtual 94, 3), (824, .pop, 1), (825, .aload_n 2, 1), (826, .aload_n 0, 1), (827, .iload_n 3, 1), (828, .iconst 1, 1), (829, .iadd, 1), (830, .iaload, 1), (831, .aload_n 0, 1)]]
set_option maxRecDepth 100000 in
theorem kL_law_p12_ok : pTabOk cL_law kL_law_p12 = true := by decide +kernel
def kL_law_p13 : pTab := [[(832, .iload_n 3, 1), (833, .iconst 2, 1), (834, .iadd, 1), (835, .iaload, 1), (836, .invokevirtual 98, 3), (839, .pop, 1), (840, .goto 576, 3), (843, .aload_n 1, 1), (844, .aload_n 0, 1), (845, .iload_n 3, 1), (846, .iconst 1, 1), (847, .iadd, 1)], [(848, .iaload, 1), (849, .aload_n 0, 1), (850, .iload_n 3, 1), (851, .iconst 2, 1), (852, .iadd, 1), (853, .iaload, 1), (854, .invokevirtual 99, 3), (857, .pop, 1), (858, .aload_n 2, 1), (859, .aload_n 0, 1), (860, .iload_n 3, 1), (861, .iconst 1, 1), (862, .iadd, 1), (863, .iaload, 1)], [(864, .aload_n 0, 1), (865, .iload_n 3, 1), (866, .iconst 2, 1), (867, .iadd, 1), (868, .iaload, 1), (869, .invokevirtual 102, 3), (872, .pop, 1), (873, .goto 543, 3), (876, .aload_n 1, 1), (877, .aload_n 0, 1), (878, .iload_n 3, 1), (879, .iconst 1, 1)], [(880, .iadd, 1), (881, .iaload, 1), (882, .aload_n 0, 1), (883, .iload_n 3, 1), (884, .iconst 2, 1), (885, .iadd, 1), (886, .iaload, 1), (887, .invokevirtual 103, 3), (890, .pop, 1), (891, .aload_n 2, 1), (892, .aload_n 0, 1), (893, .iload_n 3, 1), (894, .iconst 1, 1), (895, .iadd, 1)]]
set_option maxRecDepth 100000 in
theorem kL_law_p13_ok : pTabOk cL_law kL_law_p13 = true := by decide +kernel
def kL_law_p14 : pTab := [[(896, .iaload, 1), (897, .aload_n 0, 1), (898, .iload_n 3, 1), (899, .iconst 2, 1), (900, .iadd, 1), (901, .iaload, 1), (902, .invokevirtual 106, 3), (905, .pop, 1), (906, .goto 510, 3), (909, .aload_n 1, 1), (910, .aload_n 0, 1), (911, .iload_n 3, 1)], [(912, .iconst 1, 1), (913, .iadd, 1), (914, .iaload, 1), (915, .invokevirtual 107, 3), (918, .pop, 1), (919, .aload_n 2, 1), (920, .aload_n 0, 1), (921, .iload_n 3, 1), (922, .iconst 1, 1), (923, .iadd, 1), (924, .iaload, 1), (925, .invokevirtual 110, 3)], [(928, .pop, 1), (929, .goto 487, 3), (932, .aload_n 1, 1), (933, .invokevirtual 111, 3), (936, .pop, 1), (937, .aload_n 2, 1), (938, .invokevirtual 114, 3), (941, .pop, 1), (942, .goto 474, 3)], [(945, .aload_n 1, 1), (946, .aload_n 0, 1), (947, .iload_n 3, 1), (948, .iconst 1, 1), (949, .iadd, 1), (950, .iaload, 1), (951, .aload_n 0, 1), (952, .iload_n 3, 1), (953, .iconst 2, 1), (954, .iadd, 1), (955, .iaload, 1), (956, .invokevirtual 115, 3), (959, .pop, 1)]]
set_option maxRecDepth 100000 in
theorem kL_law_p14_ok : pTabOk cL_law kL_law_p14 = true := by decide +kernel
def kL_law_p15 : pTab := [[(960, .aload_n 2, 1), (961, .aload_n 0, 1), (962, .iload_n 3, 1), (963, .iconst 1, 1), (964, .iadd, 1), (965, .iaload, 1), (966, .aload_n 0, 1), (967, .iload_n 3, 1), (968, .iconst 2, 1), (969, .iadd, 1), (970, .iaload, 1), (971, .invokevirtual 118, 3), (974, .pop, 1), (975, .goto 441, 3)], [(978, .aload_n 1, 1), (979, .aload_n 0, 1), (980, .iload_n 3, 1), (981, .iconst 1, 1), (982, .iadd, 1), (983, .iaload, 1), (984, .invokevirtual 119, 3), (987, .pop, 1), (988, .aload_n 2, 1), (989, .aload_n 0, 1), (990, .iload_n 3, 1), (991, .iconst 1, 1)], [(992, .iadd, 1), (993, .iaload, 1), (994, .invokevirtual 122, 3), (997, .pop, 1), (998, .goto 418, 3), (1001, .aload_n 1, 1), (1002, .aload_n 0, 1), (1003, .iload_n 3, 1), (1004, .iconst 1, 1), (1005, .iadd, 1), (1006, .iaload, 1), (1007, .invokevirtual 123, 3)], [(1010, .pop, 1), (1011, .aload_n 2, 1), (1012, .aload_n 0, 1), (1013, .iload_n 3, 1), (1014, .iconst 1, 1), (1015, .iadd, 1), (1016, .iaload, 1), (1017, .invokevirtual 126, 3), (1020, .pop, 1), (1021, .goto 395, 3)]]
set_option maxRecDepth 100000 in
theorem kL_law_p15_ok : pTabOk cL_law kL_law_p15 = true := by decide +kernel
def kL_law_p16 : pTab := [[(1024, .aload_n 1, 1), (1025, .invokevirtual 127, 3), (1028, .pop, 1), (1029, .aload_n 2, 1), (1030, .invokevirtual 130, 3), (1033, .pop, 1), (1034, .goto 382, 3), (1037, .aload_n 1, 1), (1038, .aload_n 0, 1), (1039, .iload_n 3, 1)], [(1040, .iconst 1, 1), (1041, .iadd, 1), (1042, .iaload, 1), (1043, .invokevirtual 131, 3), (1046, .pop, 1), (1047, .aload_n 2, 1), (1048, .aload_n 0, 1), (1049, .iload_n 3, 1), (1050, .iconst 1, 1), (1051, .iadd, 1), (1052, .iaload, 1), (1053, .invokevirtual 134, 3)], [(1056, .pop, 1), (1057, .goto 359, 3), (1060, .aload_n 1, 1), (1061, .invokevirtual 135, 3), (1064, .pop, 1), (1065, .aload_n 2, 1), (1066, .invokevirtual 138, 3), (1069, .pop, 1), (1070, .goto 346, 3)], [(1073, .aload_n 1, 1), (1074, .aload_n 0, 1), (1075, .iload_n 3, 1), (1076, .iconst 1, 1), (1077, .iadd, 1), (1078, .iaload, 1), (1079, .invokevirtual 139, 3), (1082, .pop, 1), (1083, .aload_n 2, 1), (1084, .aload_n 0, 1), (1085, .iload_n 3, 1), (1086, .iconst 1, 1), (1087, .iadd, 1)]]
set_option maxRecDepth 100000 in
theorem kL_law_p16_ok : pTabOk cL_law kL_law_p16 = true := by decide +kernel
def kL_law_p17 : pTab := [[(1088, .iaload, 1), (1089, .invokevirtual 142, 3), (1092, .pop, 1), (1093, .goto 323, 3), (1096, .aload_n 1, 1), (1097, .aload_n 0, 1), (1098, .iload_n 3, 1), (1099, .iconst 1, 1), (1100, .iadd, 1), (1101, .iaload, 1), (1102, .aload_n 0, 1), (1103, .iload_n 3, 1)], [(1104, .iconst 2, 1), (1105, .iadd, 1), (1106, .iaload, 1), (1107, .invokevirtual 143, 3), (1110, .pop, 1), (1111, .aload_n 2, 1), (1112, .aload_n 0, 1), (1113, .iload_n 3, 1), (1114, .iconst 1, 1), (1115, .iadd, 1), (1116, .iaload, 1), (1117, .aload_n 0, 1), (1118, .iload_n 3, 1), (1119, .iconst 2, 1)], [(1120, .iadd, 1), (1121, .iaload, 1), (1122, .invokevirtual 146, 3), (1125, .pop, 1), (1126, .goto 290, 3), (1129, .aload_n 1, 1), (1130, .aload_n 0, 1), (1131, .iload_n 3, 1), (1132, .iconst 1, 1), (1133, .iadd, 1), (1134, .iaload, 1), (1135, .invokevirtual 147, 3)], [(1138, .pop, 1), (1139, .aload_n 2, 1), (1140, .aload_n 0, 1), (1141, .iload_n 3, 1), (1142, .iconst 1, 1), (1143, .iadd, 1), (1144, .iaload, 1), (1145, .invokevirtual 150, 3), (1148, .pop, 1), (1149, .goto 267, 3)]]
set_option maxRecDepth 100000 in
theorem kL_law_p17_ok : pTabOk cL_law kL_law_p17 = true := by decide +kernel
def kL_law_p18 : pTab := [[(1152, .aload_n 1, 1), (1153, .aload_n 0, 1), (1154, .iload_n 3, 1), (1155, .iconst 1, 1), (1156, .iadd, 1), (1157, .iaload, 1), (1158, .aload_n 0, 1), (1159, .iload_n 3, 1), (1160, .iconst 2, 1), (1161, .iadd, 1), (1162, .iaload, 1), (1163, .invokevirtual 151, 3), (1166, .pop, 1), (1167, .aload_n 2, 1)], [(1168, .aload_n 0, 1), (1169, .iload_n 3, 1), (1170, .iconst 1, 1), (1171, .iadd, 1), (1172, .iaload, 1), (1173, .aload_n 0, 1), (1174, .iload_n 3, 1), (1175, .iconst 2, 1), (1176, .iadd, 1), (1177, .iaload, 1), (1178, .invokevirtual 154, 3), (1181, .pop, 1), (1182, .goto 234, 3)], [(1185, .aload_n 1, 1), (1186, .aload_n 0, 1), (1187, .iload_n 3, 1), (1188, .iconst 1, 1), (1189, .iadd, 1), (1190, .iaload, 1), (1191, .aload_n 0, 1), (1192, .iload_n 3, 1), (1193, .iconst 2, 1), (1194, .iadd, 1), (1195, .iaload, 1), (1196, .invokevirtual 155, 3), (1199, .pop, 1)], [(1200, .aload_n 2, 1), (1201, .aload_n 0, 1), (1202, .iload_n 3, 1), (1203, .iconst 1, 1), (1204, .iadd, 1), (1205, .iaload, 1), (1206, .aload_n 0, 1), (1207, .iload_n 3, 1), (1208, .iconst 2, 1), (1209, .iadd, 1), (1210, .iaload, 1), (1211, .invokevirtual 158, 3), (1214, .pop, 1), (1215, .goto 201, 3)]]
set_option maxRecDepth 100000 in
theorem kL_law_p18_ok : pTabOk cL_law kL_law_p18 = true := by decide +kernel
def kL_law_p19 : pTab := [[(1218, .aload_n 1, 1), (1219, .aload_n 0, 1), (1220, .iload_n 3, 1), (1221, .iconst 1, 1), (1222, .iadd, 1), (1223, .iaload, 1), (1224, .aload_n 0, 1), (1225, .iload_n 3, 1), (1226, .iconst 2, 1), (1227, .iadd, 1), (1228, .iaload, 1), (1229, .invokevirtual 159, 3)], [(1232, .pop, 1), (1233, .aload_n 2, 1), (1234, .aload_n 0, 1), (1235, .iload_n 3, 1), (1236, .iconst 1, 1), (1237, .iadd, 1), (1238, .iaload, 1), (1239, .aload_n 0, 1), (1240, .iload_n 3, 1), (1241, .iconst 2, 1), (1242, .iadd, 1), (1243, .iaload, 1), (1244, .invokevirtual 162, 3), (1247, .pop, 1)], [(1248, .goto 168, 3), (1251, .aload_n 1, 1), (1252, .aload_n 0, 1), (1253, .iload_n 3, 1), (1254, .iconst 1, 1), (1255, .iadd, 1), (1256, .iaload, 1), (1257, .aload_n 0, 1), (1258, .iload_n 3, 1), (1259, .iconst 2, 1), (1260, .iadd, 1), (1261, .iaload, 1), (1262, .aload_n 0, 1), (1263, .iload_n 3, 1)], [(1264, .iconst 3, 1), (1265, .iadd, 1), (1266, .iaload, 1), (1267, .aload_n 0, 1), (1268, .iload_n 3, 1), (1269, .iconst 4, 1), (1270, .iadd, 1), (1271, .iaload, 1), (1272, .invokevirtual 163, 3), (1275, .pop, 1), (1276, .aload_n 2, 1), (1277, .aload_n 0, 1), (1278, .iload_n 3, 1), (1279, .iconst 1, 1)]]
set_option maxRecDepth 100000 in
theorem kL_law_p19_ok : pTabOk cL_law kL_law_p19 = true := by decide +kernel
def kL_law_p20 : pTab := [[(1280, .iadd, 1), (1281, .iaload, 1), (1282, .aload_n 0, 1), (1283, .iload_n 3, 1), (1284, .iconst 2, 1), (1285, .iadd, 1), (1286, .iaload, 1), (1287, .aload_n 0, 1), (1288, .iload_n 3, 1), (1289, .iconst 3, 1), (1290, .iadd, 1), (1291, .iaload, 1), (1292, .aload_n 0, 1), (1293, .iload_n 3, 1), (1294, .iconst 4, 1), (1295, .iadd, 1)], [(1296, .iaload, 1), (1297, .invokevirtual 167, 3), (1300, .pop, 1), (1301, .goto 115, 3), (1304, .aload_n 1, 1), (1305, .aload_n 0, 1), (1306, .iload_n 3, 1), (1307, .iconst 1, 1), (1308, .iadd, 1), (1309, .iaload, 1), (1310, .aload_n 0, 1), (1311, .iload_n 3, 1)], [(1312, .iconst 2, 1), (1313, .iadd, 1), (1314, .iaload, 1), (1315, .aload_n 0, 1), (1316, .iload_n 3, 1), (1317, .iconst 3, 1), (1318, .iadd, 1), (1319, .iaload, 1), (1320, .aload_n 0, 1), (1321, .iload_n 3, 1), (1322, .iconst 4, 1), (1323, .iadd, 1), (1324, .iaload, 1), (1325, .aload_n 0, 1), (1326, .iload_n 3, 1), (1327, .iconst 5, 1)], [(1328, .iadd, 1), (1329, .iaload, 1), (1330, .invokevirtual 168, 3), (1333, .pop, 1), (1334, .aload_n 2, 1), (1335, .aload_n 0, 1), (1336, .iload_n 3, 1), (1337, .iconst 1, 1), (1338, .iadd, 1), (1339, .iaload, 1), (1340, .aload_n 0, 1), (1341, .iload_n 3, 1), (1342, .iconst 2, 1), (1343, .iadd, 1)]]
set_option maxRecDepth 100000 in
theorem kL_law_p20_ok : pTabOk cL_law kL_law_p20 = true := by decide +kernel
def kL_law_p21 : pTab := [[(1344, .iaload, 1), (1345, .aload_n 0, 1), (1346, .iload_n 3, 1), (1347, .iconst 3, 1), (1348, .iadd, 1), (1349, .iaload, 1), (1350, .aload_n 0, 1), (1351, .iload_n 3, 1), (1352, .iconst 4, 1), (1353, .iadd, 1), (1354, .iaload, 1), (1355, .aload_n 0, 1), (1356, .iload_n 3, 1), (1357, .iconst 5, 1), (1358, .iadd, 1), (1359, .iaload, 1)], [(1360, .invokevirtual 171, 3), (1363, .pop, 1), (1364, .goto 52, 3), (1367, .aload_n 1, 1), (1368, .invokevirtual 172, 3), (1371, .pop, 1), (1372, .aload_n 2, 1), (1373, .invokevirtual 175, 3)], [(1376, .pop, 1), (1377, .goto 39, 3), (1380, .aload_n 1, 1), (1381, .invokevirtual 176, 3), (1384, .pop, 1), (1385, .aload_n 2, 1), (1386, .invokevirtual 179, 3), (1389, .pop, 1), (1390, .goto 26, 3)], [(1393, .aload_n 1, 1), (1394, .aload_n 0, 1), (1395, .iload_n 3, 1), (1396, .iconst 1, 1), (1397, .iadd, 1), (1398, .iaload, 1), (1399, .invokevirtual 180, 3), (1402, .pop, 1), (1403, .aload_n 2, 1), (1404, .aload_n 0, 1), (1405, .iload_n 3, 1), (1406, .iconst 1, 1), (1407, .iadd, 1)]]
set_option maxRecDepth 100000 in
theorem kL_law_p21_ok : pTabOk cL_law kL_law_p21 = true := by decide +kernel
def kL_law_p22 : pTab := [[(1408, .iaload, 1), (1409, .invokevirtual 183, 3), (1412, .pop, 1), (1413, .goto 3, 3), (1416, .iinc 3 6, 3), (1419, .goto (-1381), 3), (1422, .iconst 1, 1), (1423, .ireturn, 1)]]
set_option maxRecDepth 100000 in
theorem kL_law_p22_ok : pTabOk cL_law kL_law_p22 = true := by decide +kernel
def kL_law : pTab := kL_law_p0 ++ (kL_law_p1 ++ (kL_law_p2 ++ (kL_law_p3 ++ (kL_law_p4 ++ (kL_law_p5 ++ (kL_law_p6 ++ (kL_law_p7 ++ (kL_law_p8 ++ (kL_law_p9 ++ (kL_law_p10 ++ (kL_law_p11 ++ (kL_law_p12 ++ (kL_law_p13 ++ (kL_law_p14 ++ (kL_law_p15 ++ (kL_law_p16 ++ (kL_law_p17 ++ (kL_law_p18 ++ (kL_law_p19 ++ (kL_law_p20 ++ (kL_law_p21 ++ (kL_law_p22))))))))))))))))))))))
theorem kL_law_ok : pTabOk cL_law kL_law = true := pTabOk_app kL_law_p0_ok (pTabOk_app kL_law_p1_ok (pTabOk_app kL_law_p2_ok (pTabOk_app kL_law_p3_ok (pTabOk_app kL_law_p4_ok (pTabOk_app kL_law_p5_ok (pTabOk_app kL_law_p6_ok (pTabOk_app kL_law_p7_ok (pTabOk_app kL_law_p8_ok (pTabOk_app kL_law_p9_ok (pTabOk_app kL_law_p10_ok (pTabOk_app kL_law_p11_ok (pTabOk_app kL_law_p12_ok (pTabOk_app kL_law_p13_ok (pTabOk_app kL_law_p14_ok (pTabOk_app kL_law_p15_ok (pTabOk_app kL_law_p16_ok (pTabOk_app kL_law_p17_ok (pTabOk_app kL_law_p18_ok (pTabOk_app kL_law_p19_ok (pTabOk_app kL_law_p20_ok (pTabOk_app kL_law_p21_ok (kL_law_p22_ok))))))))))))))))))))))
def pCodeT : List pTab := [kX0_init, kX0_price, kX0_landing, kX0_isPush, kX0_banksBehind, kX0_priceFor, kX0_obey, kX0_settle, kX0_sail, kX0_chosen, kX1_init, kX1_face, kX1_isOpen, kX1_isNipping, kX1_isFirm, kX1_toll, kX1_drive, kX1_wants, kX1_anySo, kX1_value, kX1_named, kX1_joined, kX2_init, kX2_add, kX2_go, kX2_seenIn, kX2_thousandths, kX2_weight, kX2_take, kX3_init, kX3_tens, kX3_weigh, kX3_chanceBy, kX3_bestFrom, kX3_leaves, kX3_knownAhead, kX3_tenthsOf, kX3_getsOut, kX4_init, kX4_foresee, kX4_foreseeAll, kX4_behind, kX4_begin, kX4_follow, kX4_askTolls, kX4_tollOf, kX5_init, kX5_take, kX5_reads, kX5_next, kX5_faulty, kX5_readsClause, kX5_readsOrder, kX5_readsEither, kX5_readsAsk, kX5_readsSum, kX5_readsOne, kX5_splitTape, kX5_splitWord, kX5_isWord, kX5_splitNumber, kX5_splitSign, kX5_plainSign, kX5_isLetter, kX5_isDigit, kX6_init, kX6_has, kX6_off, kX6_beside, kX6_carried, kX6_afloat, kX6_drawn, kX6_take, kX7_init, kX7_put, kX7_take, kX8_init, kX8_clear, kX8_add, kX8_close, kX8_firstOf, kX9_init, kX9_fewestWatches, kX9_coalLeft, kX9_leastCoal, kX9_seekOut, kX9_clearSpent, kX9_seekFrom, kX9_orderOfBest, kX9_lowestBest, kX9_place, kX9_askNeeds, kX9_leastNeed, kX9_needBy, kX9_followTold, kX9_goesOn, kX9_toldCell, kX9_lastTurn, kX9_watchesAfoot, kX9_lastLeave, kX9_askAfoot, kX9_afootBehind, kX9_reachAfoot, kX9_nipsIn, kX9_calmest, kX9_openLeads, kX9_spread, kX9_pushesTo, kX10_init, kX10_take, kX11_init, kX11_ice, kX11_iceAt, kX11_mark, kX11_edge, kX11_drift, kX11_chances, kX11_ship, kX11_costs, kX11_wind, kX11_feed, kX11_end, kX11_text, kX11_fault, kX11_by, kX11_can, kX11_watch, kX11_of, kX11_ahead, kX11_many, kX11_soonest, kX11_least, kX11_order, kX11_told, kX11_home, kX11_last, kX11_walk, kX11_leave, kX11_winter, kX11_surest, kX11_leads, kX11_prior, kX11_look, kX11_think, kX11_run, kX11_runs, kX11_image, kX11_back, kX11_about, kX11_shipOf, kX11_isText, kX11_heedLaw, kX11_isWind, kX11_isOrder, kX11_within, kX11_held, kX12_init, kX12_copyRow, kX12_isIn, kX12_isCell, kX12_isWind, kX12_besideBy, kX12_pushed, kX12_ice, kX12_iceAt, kX12_mark, kX12_edge, kX12_drift, kX12_chances, kX12_isShip, kX12_ofShip, kX12_ship, kX12_costs, kX12_wind, kX12_four, kX12_feed, kX12_end, kX12_byteAt, kX12_isLetter, kX12_isDigit, kX12_nextToken, kX12_w3, kX12_w5, kX12_w4, kX12_w6, kX12_isWord, kX12_emit, kX12_push, kX12_whole, kX12_settle, kX12_nameOf, kX12_isBarred, kX12_beginOne, kX12_hasParen, kX12_goesOn, kX12_behindOne, kX12_summed, kX12_compareOf, kX12_asks, kX12_either, kX12_sortOf, kX12_goesBy, kX12_clause, kX12_readText, kX12_text, kX12_fault, kX12_by, kX12_clip, kX12_two, kX12_isAsked, kX12_work, kX12_sortAt, kX12_clauses, kX12_iceOf, kX12_nameCell, kX12_isAny, kX12_sumOf, kX12_pushCost, kX12_nips, kX12_walks, kX12_driven, kX12_drifted, kX12_go, kX12_layNow, kX12_isOrder, kX12_orderCost, kX12_firesBehind, kX12_isFree, kX12_costOf, kX12_can, kX12_does, kX12_floatShip, kX12_watch, kX12_of, kX12_ahead, kX12_many, kX12_windBefore, kX12_look, kX12_costAhead, kX12_cellAhead, kX12_stateAt, kX12_outBy, kX12_bestOut, kX12_findOut, kX12_shipCell, kX12_shipCoal, kX12_shipBanked, kX12_soonest, kX12_least, kX12_order, kX12_follow, kX12_told, kX12_home, kX12_canHome, kX12_last, kX12_walkOn, kX12_walkFrom, kX12_walk, kX12_leave, kX12_winterAt, kX12_winter, kX12_chanceOf, kX12_behind, kX12_isWayOut, kX12_hopeOne, kX12_hopeTwo, kX12_hope, kX12_hopeBehind, kX12_known, kX12_surest, kX12_leads, kX12_prior, kX12_look_, kX12_weigh, kX12_think, kX12_isText, kX12_canRun, kX12_orderBy, kX12_drawWind, kX12_runOne, kX12_runAll, kX12_run, kX12_runs, kX12_image, kX12_back, kX12_about, kL_cell]
def pCode (m : Nat) (pc : Nat) : Option (Instr × Nat) := pLook (pCodeT.getD m []) pc
theorem pCode_all : ∀ q ∈ (List.range 287), pTabOk (pMe q).2.2.1 (pCodeT.getD q []) = true := by
  intro q hq
  have hq := List.mem_range.mp hq
  match q, hq with
  | 0, _ => exact kX0_init_ok
  | 1, _ => exact kX0_price_ok
  | 2, _ => exact kX0_landing_ok
  | 3, _ => exact kX0_isPush_ok
  | 4, _ => exact kX0_banksBehind_ok
  | 5, _ => exact kX0_priceFor_ok
  | 6, _ => exact kX0_obey_ok
  | 7, _ => exact kX0_settle_ok
  | 8, _ => exact kX0_sail_ok
  | 9, _ => exact kX0_chosen_ok
  | 10, _ => exact kX1_init_ok
  | 11, _ => exact kX1_face_ok
  | 12, _ => exact kX1_isOpen_ok
  | 13, _ => exact kX1_isNipping_ok
  | 14, _ => exact kX1_isFirm_ok
  | 15, _ => exact kX1_toll_ok
  | 16, _ => exact kX1_drive_ok
  | 17, _ => exact kX1_wants_ok
  | 18, _ => exact kX1_anySo_ok
  | 19, _ => exact kX1_value_ok
  | 20, _ => exact kX1_named_ok
  | 21, _ => exact kX1_joined_ok
  | 22, _ => exact kX2_init_ok
  | 23, _ => exact kX2_add_ok
  | 24, _ => exact kX2_go_ok
  | 25, _ => exact kX2_seenIn_ok
  | 26, _ => exact kX2_thousandths_ok
  | 27, _ => exact kX2_weight_ok
  | 28, _ => exact kX2_take_ok
  | 29, _ => exact kX3_init_ok
  | 30, _ => exact kX3_tens_ok
  | 31, _ => exact kX3_weigh_ok
  | 32, _ => exact kX3_chanceBy_ok
  | 33, _ => exact kX3_bestFrom_ok
  | 34, _ => exact kX3_leaves_ok
  | 35, _ => exact kX3_knownAhead_ok
  | 36, _ => exact kX3_tenthsOf_ok
  | 37, _ => exact kX3_getsOut_ok
  | 38, _ => exact kX4_init_ok
  | 39, _ => exact kX4_foresee_ok
  | 40, _ => exact kX4_foreseeAll_ok
  | 41, _ => exact kX4_behind_ok
  | 42, _ => exact kX4_begin_ok
  | 43, _ => exact kX4_follow_ok
  | 44, _ => exact kX4_askTolls_ok
  | 45, _ => exact kX4_tollOf_ok
  | 46, _ => exact kX5_init_ok
  | 47, _ => exact kX5_take_ok
  | 48, _ => exact kX5_reads_ok
  | 49, _ => exact kX5_next_ok
  | 50, _ => exact kX5_faulty_ok
  | 51, _ => exact kX5_readsClause_ok
  | 52, _ => exact kX5_readsOrder_ok
  | 53, _ => exact kX5_readsEither_ok
  | 54, _ => exact kX5_readsAsk_ok
  | 55, _ => exact kX5_readsSum_ok
  | 56, _ => exact kX5_readsOne_ok
  | 57, _ => exact kX5_splitTape_ok
  | 58, _ => exact kX5_splitWord_ok
  | 59, _ => exact kX5_isWord_ok
  | 60, _ => exact kX5_splitNumber_ok
  | 61, _ => exact kX5_splitSign_ok
  | 62, _ => exact kX5_plainSign_ok
  | 63, _ => exact kX5_isLetter_ok
  | 64, _ => exact kX5_isDigit_ok
  | 65, _ => exact kX6_init_ok
  | 66, _ => exact kX6_has_ok
  | 67, _ => exact kX6_off_ok
  | 68, _ => exact kX6_beside_ok
  | 69, _ => exact kX6_carried_ok
  | 70, _ => exact kX6_afloat_ok
  | 71, _ => exact kX6_drawn_ok
  | 72, _ => exact kX6_take_ok
  | 73, _ => exact kX7_init_ok
  | 74, _ => exact kX7_put_ok
  | 75, _ => exact kX7_take_ok
  | 76, _ => exact kX8_init_ok
  | 77, _ => exact kX8_clear_ok
  | 78, _ => exact kX8_add_ok
  | 79, _ => exact kX8_close_ok
  | 80, _ => exact kX8_firstOf_ok
  | 81, _ => exact kX9_init_ok
  | 82, _ => exact kX9_fewestWatches_ok
  | 83, _ => exact kX9_coalLeft_ok
  | 84, _ => exact kX9_leastCoal_ok
  | 85, _ => exact kX9_seekOut_ok
  | 86, _ => exact kX9_clearSpent_ok
  | 87, _ => exact kX9_seekFrom_ok
  | 88, _ => exact kX9_orderOfBest_ok
  | 89, _ => exact kX9_lowestBest_ok
  | 90, _ => exact kX9_place_ok
  | 91, _ => exact kX9_askNeeds_ok
  | 92, _ => exact kX9_leastNeed_ok
  | 93, _ => exact kX9_needBy_ok
  | 94, _ => exact kX9_followTold_ok
  | 95, _ => exact kX9_goesOn_ok
  | 96, _ => exact kX9_toldCell_ok
  | 97, _ => exact kX9_lastTurn_ok
  | 98, _ => exact kX9_watchesAfoot_ok
  | 99, _ => exact kX9_lastLeave_ok
  | 100, _ => exact kX9_askAfoot_ok
  | 101, _ => exact kX9_afootBehind_ok
  | 102, _ => exact kX9_reachAfoot_ok
  | 103, _ => exact kX9_nipsIn_ok
  | 104, _ => exact kX9_calmest_ok
  | 105, _ => exact kX9_openLeads_ok
  | 106, _ => exact kX9_spread_ok
  | 107, _ => exact kX9_pushesTo_ok
  | 108, _ => exact kX10_init_ok
  | 109, _ => exact kX10_take_ok
  | 110, _ => exact kX11_init_ok
  | 111, _ => exact kX11_ice_ok
  | 112, _ => exact kX11_iceAt_ok
  | 113, _ => exact kX11_mark_ok
  | 114, _ => exact kX11_edge_ok
  | 115, _ => exact kX11_drift_ok
  | 116, _ => exact kX11_chances_ok
  | 117, _ => exact kX11_ship_ok
  | 118, _ => exact kX11_costs_ok
  | 119, _ => exact kX11_wind_ok
  | 120, _ => exact kX11_feed_ok
  | 121, _ => exact kX11_end_ok
  | 122, _ => exact kX11_text_ok
  | 123, _ => exact kX11_fault_ok
  | 124, _ => exact kX11_by_ok
  | 125, _ => exact kX11_can_ok
  | 126, _ => exact kX11_watch_ok
  | 127, _ => exact kX11_of_ok
  | 128, _ => exact kX11_ahead_ok
  | 129, _ => exact kX11_many_ok
  | 130, _ => exact kX11_soonest_ok
  | 131, _ => exact kX11_least_ok
  | 132, _ => exact kX11_order_ok
  | 133, _ => exact kX11_told_ok
  | 134, _ => exact kX11_home_ok
  | 135, _ => exact kX11_last_ok
  | 136, _ => exact kX11_walk_ok
  | 137, _ => exact kX11_leave_ok
  | 138, _ => exact kX11_winter_ok
  | 139, _ => exact kX11_surest_ok
  | 140, _ => exact kX11_leads_ok
  | 141, _ => exact kX11_prior_ok
  | 142, _ => exact kX11_look_ok
  | 143, _ => exact kX11_think_ok
  | 144, _ => exact kX11_run_ok
  | 145, _ => exact kX11_runs_ok
  | 146, _ => exact kX11_image_ok
  | 147, _ => exact kX11_back_ok
  | 148, _ => exact kX11_about_ok
  | 149, _ => exact kX11_shipOf_ok
  | 150, _ => exact kX11_isText_ok
  | 151, _ => exact kX11_heedLaw_ok
  | 152, _ => exact kX11_isWind_ok
  | 153, _ => exact kX11_isOrder_ok
  | 154, _ => exact kX11_within_ok
  | 155, _ => exact kX11_held_ok
  | 156, _ => exact kX12_init_ok
  | 157, _ => exact kX12_copyRow_ok
  | 158, _ => exact kX12_isIn_ok
  | 159, _ => exact kX12_isCell_ok
  | 160, _ => exact kX12_isWind_ok
  | 161, _ => exact kX12_besideBy_ok
  | 162, _ => exact kX12_pushed_ok
  | 163, _ => exact kX12_ice_ok
  | 164, _ => exact kX12_iceAt_ok
  | 165, _ => exact kX12_mark_ok
  | 166, _ => exact kX12_edge_ok
  | 167, _ => exact kX12_drift_ok
  | 168, _ => exact kX12_chances_ok
  | 169, _ => exact kX12_isShip_ok
  | 170, _ => exact kX12_ofShip_ok
  | 171, _ => exact kX12_ship_ok
  | 172, _ => exact kX12_costs_ok
  | 173, _ => exact kX12_wind_ok
  | 174, _ => exact kX12_four_ok
  | 175, _ => exact kX12_feed_ok
  | 176, _ => exact kX12_end_ok
  | 177, _ => exact kX12_byteAt_ok
  | 178, _ => exact kX12_isLetter_ok
  | 179, _ => exact kX12_isDigit_ok
  | 180, _ => exact kX12_nextToken_ok
  | 181, _ => exact kX12_w3_ok
  | 182, _ => exact kX12_w5_ok
  | 183, _ => exact kX12_w4_ok
  | 184, _ => exact kX12_w6_ok
  | 185, _ => exact kX12_isWord_ok
  | 186, _ => exact kX12_emit_ok
  | 187, _ => exact kX12_push_ok
  | 188, _ => exact kX12_whole_ok
  | 189, _ => exact kX12_settle_ok
  | 190, _ => exact kX12_nameOf_ok
  | 191, _ => exact kX12_isBarred_ok
  | 192, _ => exact kX12_beginOne_ok
  | 193, _ => exact kX12_hasParen_ok
  | 194, _ => exact kX12_goesOn_ok
  | 195, _ => exact kX12_behindOne_ok
  | 196, _ => exact kX12_summed_ok
  | 197, _ => exact kX12_compareOf_ok
  | 198, _ => exact kX12_asks_ok
  | 199, _ => exact kX12_either_ok
  | 200, _ => exact kX12_sortOf_ok
  | 201, _ => exact kX12_goesBy_ok
  | 202, _ => exact kX12_clause_ok
  | 203, _ => exact kX12_readText_ok
  | 204, _ => exact kX12_text_ok
  | 205, _ => exact kX12_fault_ok
  | 206, _ => exact kX12_by_ok
  | 207, _ => exact kX12_clip_ok
  | 208, _ => exact kX12_two_ok
  | 209, _ => exact kX12_isAsked_ok
  | 210, _ => exact kX12_work_ok
  | 211, _ => exact kX12_sortAt_ok
  | 212, _ => exact kX12_clauses_ok
  | 213, _ => exact kX12_iceOf_ok
  | 214, _ => exact kX12_nameCell_ok
  | 215, _ => exact kX12_isAny_ok
  | 216, _ => exact kX12_sumOf_ok
  | 217, _ => exact kX12_pushCost_ok
  | 218, _ => exact kX12_nips_ok
  | 219, _ => exact kX12_walks_ok
  | 220, _ => exact kX12_driven_ok
  | 221, _ => exact kX12_drifted_ok
  | 222, _ => exact kX12_go_ok
  | 223, _ => exact kX12_layNow_ok
  | 224, _ => exact kX12_isOrder_ok
  | 225, _ => exact kX12_orderCost_ok
  | 226, _ => exact kX12_firesBehind_ok
  | 227, _ => exact kX12_isFree_ok
  | 228, _ => exact kX12_costOf_ok
  | 229, _ => exact kX12_can_ok
  | 230, _ => exact kX12_does_ok
  | 231, _ => exact kX12_floatShip_ok
  | 232, _ => exact kX12_watch_ok
  | 233, _ => exact kX12_of_ok
  | 234, _ => exact kX12_ahead_ok
  | 235, _ => exact kX12_many_ok
  | 236, _ => exact kX12_windBefore_ok
  | 237, _ => exact kX12_look_ok
  | 238, _ => exact kX12_costAhead_ok
  | 239, _ => exact kX12_cellAhead_ok
  | 240, _ => exact kX12_stateAt_ok
  | 241, _ => exact kX12_outBy_ok
  | 242, _ => exact kX12_bestOut_ok
  | 243, _ => exact kX12_findOut_ok
  | 244, _ => exact kX12_shipCell_ok
  | 245, _ => exact kX12_shipCoal_ok
  | 246, _ => exact kX12_shipBanked_ok
  | 247, _ => exact kX12_soonest_ok
  | 248, _ => exact kX12_least_ok
  | 249, _ => exact kX12_order_ok
  | 250, _ => exact kX12_follow_ok
  | 251, _ => exact kX12_told_ok
  | 252, _ => exact kX12_home_ok
  | 253, _ => exact kX12_canHome_ok
  | 254, _ => exact kX12_last_ok
  | 255, _ => exact kX12_walkOn_ok
  | 256, _ => exact kX12_walkFrom_ok
  | 257, _ => exact kX12_walk_ok
  | 258, _ => exact kX12_leave_ok
  | 259, _ => exact kX12_winterAt_ok
  | 260, _ => exact kX12_winter_ok
  | 261, _ => exact kX12_chanceOf_ok
  | 262, _ => exact kX12_behind_ok
  | 263, _ => exact kX12_isWayOut_ok
  | 264, _ => exact kX12_hopeOne_ok
  | 265, _ => exact kX12_hopeTwo_ok
  | 266, _ => exact kX12_hope_ok
  | 267, _ => exact kX12_hopeBehind_ok
  | 268, _ => exact kX12_known_ok
  | 269, _ => exact kX12_surest_ok
  | 270, _ => exact kX12_leads_ok
  | 271, _ => exact kX12_prior_ok
  | 272, _ => exact kX12_look__ok
  | 273, _ => exact kX12_weigh_ok
  | 274, _ => exact kX12_think_ok
  | 275, _ => exact kX12_isText_ok
  | 276, _ => exact kX12_canRun_ok
  | 277, _ => exact kX12_orderBy_ok
  | 278, _ => exact kX12_drawWind_ok
  | 279, _ => exact kX12_runOne_ok
  | 280, _ => exact kX12_runAll_ok
  | 281, _ => exact kX12_run_ok
  | 282, _ => exact kX12_runs_ok
  | 283, _ => exact kX12_image_ok
  | 284, _ => exact kX12_back_ok
  | 285, _ => exact kX12_about_ok
  | 286, _ => exact kL_cell_ok
  | q + 287, h => exact absurd h (by omega)
theorem pCode_ok {m pc : Nat} {i : Instr} {len : Nat} (hm : m < 287) (h : pCode m pc = some (i, len)) : decode (pMe m).2.2.1 pc = .ok (i, len) := pLook_ok (pCode_all m (List.mem_range.mpr hm)) h
