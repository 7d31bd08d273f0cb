/-! The law: its listing, and the calls that don't throw -/
def lw_code0 : pCode := [(0, .new 8, 3), (3, .dup, 1), (4, .invokespecial 22, 3), (7, .astore_n 1, 1), (8, .new 23, 3), (11, .dup, 1), (12, .invokespecial 25, 3), (15, .astore_n 2, 1), (16, .iconst 1, 1), (17, .newarray .long, 2), (19, .astore_n 3, 1), (20, .iconst 0, 1), (21, .istore 4, 2), (23, .iload 4, 2), (25, .aload_n 0, 1), (26, .arraylength, 1), (27, .iconst 5, 1), (28, .isub, 1), (29, .if_icmp .gt (1464), 3), (32, .aload_n 0, 1), (33, .iload 4, 2), (35, .iaload, 1), (36, .bipush (63), 2), (38, .iand, 1), (39, .tableswitch (1448) (0) (37) #[165, 190, 215, 228, 241, 254, 322, 390, 415, 452, 513, 562, 611, 648, 697, 746, 759, 772, 809, 846, 883, 920, 957, 994, 1031, 1056, 1093, 1118, 1143, 1156, 1169, 1206, 1243, 1280, 1317, 1342, 1367, 1392], 165), (204, .aload_n 1, 1), (205, .aload_n 0, 1), (206, .iload 4, 2), (208, .iconst 1, 1), (209, .iadd, 1), (210, .iaload, 1), (211, .invokevirtual 26, 3), (214, .aload_n 2, 1), (215, .aload_n 0, 1), (216, .iload 4, 2), (218, .iconst 1, 1), (219, .iadd, 1), (220, .iaload, 1), (221, .invokevirtual 29, 3), (224, .if_icmp .eq (1263), 3)]
set_option maxRecDepth 20000 in
theorem lw_code0_ok : px_code code lw_code0 = true := by decide +kernel
def lw_code1 : pCode := [(227, .iconst 0, 1), (228, .ireturn, 1), (229, .aload_n 1, 1), (230, .aload_n 0, 1), (231, .iload 4, 2), (233, .iconst 1, 1), (234, .iadd, 1), (235, .iaload, 1), (236, .invokevirtual 30, 3), (239, .aload_n 2, 1), (240, .aload_n 0, 1), (241, .iload 4, 2), (243, .iconst 1, 1), (244, .iadd, 1), (245, .iaload, 1), (246, .invokevirtual 34, 3), (249, .if_icmp .eq (1238), 3), (252, .iconst 0, 1), (253, .ireturn, 1), (254, .aload_n 1, 1), (255, .invokevirtual 35, 3), (258, .aload_n 2, 1), (259, .invokevirtual 39, 3), (262, .if_icmp .eq (1225), 3), (265, .iconst 0, 1), (266, .ireturn, 1), (267, .aload_n 1, 1), (268, .invokevirtual 40, 3), (271, .aload_n 2, 1), (272, .invokevirtual 43, 3), (275, .if_icmp .eq (1212), 3), (278, .iconst 0, 1), (279, .ireturn, 1), (280, .aload_n 1, 1), (281, .invokevirtual 44, 3), (284, .aload_n 2, 1), (285, .invokevirtual 47, 3), (288, .if_icmp .eq (1199), 3), (291, .iconst 0, 1), (292, .ireturn, 1)]
set_option maxRecDepth 20000 in
theorem lw_code1_ok : px_code code lw_code1 = true := by decide +kernel
def lw_code2 : pCode := [(293, .aload_n 1, 1), (294, .aload_n 0, 1), (295, .iload 4, 2), (297, .iconst 1, 1), (298, .iadd, 1), (299, .iaload, 1), (300, .aload_n 0, 1), (301, .iload 4, 2), (303, .iconst 2, 1), (304, .iadd, 1), (305, .iaload, 1), (306, .aload_n 3, 1), (307, .invokestatic 48, 3), (310, .istore 5, 2), (312, .aload_n 2, 1), (313, .aload_n 0, 1), (314, .iload 4, 2), (316, .iconst 1, 1), (317, .iadd, 1), (318, .iaload, 1), (319, .aload_n 0, 1), (320, .iload 4, 2), (322, .iconst 2, 1), (323, .iadd, 1), (324, .iaload, 1), (325, .invokevirtual 53, 3), (328, .istore 6, 2), (330, .aload_n 2, 1), (331, .invokevirtual 54, 3), (334, .iload 5, 2), (336, .if_icmp .eq (5), 3), (339, .iconst 0, 1), (340, .ireturn, 1), (341, .iload 5, 2), (343, .ifCond .ne (15), 3), (346, .aload_n 3, 1), (347, .iconst 0, 1), (348, .laload, 1), (349, .iload 6, 2), (351, .i2l, 1)]
set_option maxRecDepth 20000 in
theorem lw_code2_ok : px_code code lw_code2 = true := by decide +kernel
def lw_code3 : pCode := [(352, .lcmp, 1), (353, .ifCond .eq (5), 3), (356, .iconst 0, 1), (357, .ireturn, 1), (358, .goto (1129), 3), (361, .aload_n 1, 1), (362, .aload_n 0, 1), (363, .iload 4, 2), (365, .iconst 1, 1), (366, .iadd, 1), (367, .iaload, 1), (368, .aload_n 0, 1), (369, .iload 4, 2), (371, .iconst 2, 1), (372, .iadd, 1), (373, .iaload, 1), (374, .aload_n 3, 1), (375, .invokestatic 57, 3), (378, .istore 5, 2), (380, .aload_n 2, 1), (381, .aload_n 0, 1), (382, .iload 4, 2), (384, .iconst 1, 1), (385, .iadd, 1), (386, .iaload, 1), (387, .aload_n 0, 1), (388, .iload 4, 2), (390, .iconst 2, 1), (391, .iadd, 1), (392, .iaload, 1), (393, .invokevirtual 59, 3), (396, .istore 6, 2), (398, .aload_n 2, 1), (399, .invokevirtual 54, 3), (402, .iload 5, 2), (404, .if_icmp .eq (5), 3), (407, .iconst 0, 1), (408, .ireturn, 1), (409, .iload 5, 2), (411, .ifCond .ne (15), 3)]
set_option maxRecDepth 20000 in
theorem lw_code3_ok : px_code code lw_code3 = true := by decide +kernel
def lw_code4 : pCode := [(414, .aload_n 3, 1), (415, .iconst 0, 1), (416, .laload, 1), (417, .iload 6, 2), (419, .i2l, 1), (420, .lcmp, 1), (421, .ifCond .eq (5), 3), (424, .iconst 0, 1), (425, .ireturn, 1), (426, .goto (1061), 3), (429, .aload_n 1, 1), (430, .aload_n 0, 1), (431, .iload 4, 2), (433, .iconst 1, 1), (434, .iadd, 1), (435, .iaload, 1), (436, .invokevirtual 60, 3), (439, .aload_n 2, 1), (440, .aload_n 0, 1), (441, .iload 4, 2), (443, .iconst 1, 1), (444, .iadd, 1), (445, .iaload, 1), (446, .invokevirtual 63, 3), (449, .if_icmp .eq (1038), 3), (452, .iconst 0, 1), (453, .ireturn, 1), (454, .aload_n 1, 1), (455, .aload_n 0, 1), (456, .iload 4, 2), (458, .iconst 1, 1), (459, .iadd, 1), (460, .iaload, 1), (461, .aload_n 0, 1), (462, .iload 4, 2), (464, .iconst 2, 1), (465, .iadd, 1), (466, .iaload, 1), (467, .invokevirtual 64, 3), (470, .aload_n 2, 1)]
set_option maxRecDepth 20000 in
theorem lw_code4_ok : px_code code lw_code4 = true := by decide +kernel
def lw_code5 : pCode := [(471, .aload_n 0, 1), (472, .iload 4, 2), (474, .iconst 1, 1), (475, .iadd, 1), (476, .iaload, 1), (477, .aload_n 0, 1), (478, .iload 4, 2), (480, .iconst 2, 1), (481, .iadd, 1), (482, .iaload, 1), (483, .invokevirtual 67, 3), (486, .if_icmp .eq (1001), 3), (489, .iconst 0, 1), (490, .ireturn, 1), (491, .aload_n 1, 1), (492, .aload_n 0, 1), (493, .iload 4, 2), (495, .iconst 1, 1), (496, .iadd, 1), (497, .iaload, 1), (498, .aload_n 0, 1), (499, .iload 4, 2), (501, .iconst 2, 1), (502, .iadd, 1), (503, .iaload, 1), (504, .aload_n 0, 1), (505, .iload 4, 2), (507, .iconst 3, 1), (508, .iadd, 1), (509, .iaload, 1), (510, .aload_n 0, 1), (511, .iload 4, 2), (513, .iconst 4, 1), (514, .iadd, 1), (515, .iaload, 1), (516, .invokevirtual 68, 3), (519, .aload_n 2, 1), (520, .aload_n 0, 1), (521, .iload 4, 2), (523, .iconst 1, 1)]
set_option maxRecDepth 20000 in
theorem lw_code5_ok : px_code code lw_code5 = true := by decide +kernel
def lw_code6 : pCode := [(524, .iadd, 1), (525, .iaload, 1), (526, .aload_n 0, 1), (527, .iload 4, 2), (529, .iconst 2, 1), (530, .iadd, 1), (531, .iaload, 1), (532, .aload_n 0, 1), (533, .iload 4, 2), (535, .iconst 3, 1), (536, .iadd, 1), (537, .iaload, 1), (538, .aload_n 0, 1), (539, .iload 4, 2), (541, .iconst 4, 1), (542, .iadd, 1), (543, .iaload, 1), (544, .invokevirtual 72, 3), (547, .if_icmp .eq (940), 3), (550, .iconst 0, 1), (551, .ireturn, 1), (552, .aload_n 1, 1), (553, .aload_n 0, 1), (554, .iload 4, 2), (556, .iconst 1, 1), (557, .iadd, 1), (558, .iaload, 1), (559, .aload_n 0, 1), (560, .iload 4, 2), (562, .iconst 2, 1), (563, .iadd, 1), (564, .iaload, 1), (565, .aload_n 0, 1), (566, .iload 4, 2), (568, .iconst 3, 1), (569, .iadd, 1), (570, .iaload, 1), (571, .invokevirtual 73, 3), (574, .aload_n 2, 1), (575, .aload_n 0, 1)]
set_option maxRecDepth 20000 in
theorem lw_code6_ok : px_code code lw_code6 = true := by decide +kernel
def lw_code7 : pCode := [(576, .iload 4, 2), (578, .iconst 1, 1), (579, .iadd, 1), (580, .iaload, 1), (581, .aload_n 0, 1), (582, .iload 4, 2), (584, .iconst 2, 1), (585, .iadd, 1), (586, .iaload, 1), (587, .aload_n 0, 1), (588, .iload 4, 2), (590, .iconst 3, 1), (591, .iadd, 1), (592, .iaload, 1), (593, .invokevirtual 77, 3), (596, .if_icmp .eq (891), 3), (599, .iconst 0, 1), (600, .ireturn, 1), (601, .aload_n 1, 1), (602, .aload_n 0, 1), (603, .iload 4, 2), (605, .iconst 1, 1), (606, .iadd, 1), (607, .iaload, 1), (608, .aload_n 0, 1), (609, .iload 4, 2), (611, .iconst 2, 1), (612, .iadd, 1), (613, .iaload, 1), (614, .aload_n 0, 1), (615, .iload 4, 2), (617, .iconst 3, 1), (618, .iadd, 1), (619, .iaload, 1), (620, .invokevirtual 78, 3), (623, .aload_n 2, 1), (624, .aload_n 0, 1), (625, .iload 4, 2), (627, .iconst 1, 1), (628, .iadd, 1)]
set_option maxRecDepth 20000 in
theorem lw_code7_ok : px_code code lw_code7 = true := by decide +kernel
def lw_code8 : pCode := [(629, .iaload, 1), (630, .aload_n 0, 1), (631, .iload 4, 2), (633, .iconst 2, 1), (634, .iadd, 1), (635, .iaload, 1), (636, .aload_n 0, 1), (637, .iload 4, 2), (639, .iconst 3, 1), (640, .iadd, 1), (641, .iaload, 1), (642, .invokevirtual 81, 3), (645, .if_icmp .eq (842), 3), (648, .iconst 0, 1), (649, .ireturn, 1), (650, .aload_n 1, 1), (651, .aload_n 0, 1), (652, .iload 4, 2), (654, .iconst 1, 1), (655, .iadd, 1), (656, .iaload, 1), (657, .aload_n 0, 1), (658, .iload 4, 2), (660, .iconst 2, 1), (661, .iadd, 1), (662, .iaload, 1), (663, .invokevirtual 82, 3), (666, .aload_n 2, 1), (667, .aload_n 0, 1), (668, .iload 4, 2), (670, .iconst 1, 1), (671, .iadd, 1), (672, .iaload, 1), (673, .aload_n 0, 1), (674, .iload 4, 2), (676, .iconst 2, 1), (677, .iadd, 1), (678, .iaload, 1), (679, .invokevirtual 85, 3), (682, .if_icmp .eq (805), 3)]
set_option maxRecDepth 20000 in
theorem lw_code8_ok : px_code code lw_code8 = true := by decide +kernel
def lw_code9 : pCode := [(685, .iconst 0, 1), (686, .ireturn, 1), (687, .aload_n 1, 1), (688, .aload_n 0, 1), (689, .iload 4, 2), (691, .iconst 1, 1), (692, .iadd, 1), (693, .iaload, 1), (694, .aload_n 0, 1), (695, .iload 4, 2), (697, .iconst 2, 1), (698, .iadd, 1), (699, .iaload, 1), (700, .aload_n 0, 1), (701, .iload 4, 2), (703, .iconst 3, 1), (704, .iadd, 1), (705, .iaload, 1), (706, .invokevirtual 86, 3), (709, .aload_n 2, 1), (710, .aload_n 0, 1), (711, .iload 4, 2), (713, .iconst 1, 1), (714, .iadd, 1), (715, .iaload, 1), (716, .aload_n 0, 1), (717, .iload 4, 2), (719, .iconst 2, 1), (720, .iadd, 1), (721, .iaload, 1), (722, .aload_n 0, 1), (723, .iload 4, 2), (725, .iconst 3, 1), (726, .iadd, 1), (727, .iaload, 1), (728, .invokevirtual 89, 3), (731, .if_icmp .eq (756), 3), (734, .iconst 0, 1), (735, .ireturn, 1), (736, .aload_n 1, 1)]
set_option maxRecDepth 20000 in
theorem lw_code9_ok : px_code code lw_code9 = true := by decide +kernel
def lw_code10 : pCode := [(737, .aload_n 0, 1), (738, .iload 4, 2), (740, .iconst 1, 1), (741, .iadd, 1), (742, .iaload, 1), (743, .aload_n 0, 1), (744, .iload 4, 2), (746, .iconst 2, 1), (747, .iadd, 1), (748, .iaload, 1), (749, .aload_n 0, 1), (750, .iload 4, 2), (752, .iconst 3, 1), (753, .iadd, 1), (754, .iaload, 1), (755, .invokevirtual 90, 3), (758, .aload_n 2, 1), (759, .aload_n 0, 1), (760, .iload 4, 2), (762, .iconst 1, 1), (763, .iadd, 1), (764, .iaload, 1), (765, .aload_n 0, 1), (766, .iload 4, 2), (768, .iconst 2, 1), (769, .iadd, 1), (770, .iaload, 1), (771, .aload_n 0, 1), (772, .iload 4, 2), (774, .iconst 3, 1), (775, .iadd, 1), (776, .iaload, 1), (777, .invokevirtual 93, 3), (780, .if_icmp .eq (707), 3), (783, .iconst 0, 1), (784, .ireturn, 1), (785, .aload_n 1, 1), (786, .invokevirtual 94, 3), (789, .aload_n 2, 1), (790, .invokevirtual 97, 3)]
set_option maxRecDepth 20000 in
theorem lw_code10_ok : px_code code lw_code10 = true := by decide +kernel
def lw_code11 : pCode := [(793, .if_icmp .eq (694), 3), (796, .iconst 0, 1), (797, .ireturn, 1), (798, .aload_n 1, 1), (799, .invokevirtual 98, 3), (802, .aload_n 2, 1), (803, .invokevirtual 101, 3), (806, .if_icmp .eq (681), 3), (809, .iconst 0, 1), (810, .ireturn, 1), (811, .aload_n 1, 1), (812, .aload_n 0, 1), (813, .iload 4, 2), (815, .iconst 1, 1), (816, .iadd, 1), (817, .iaload, 1), (818, .aload_n 0, 1), (819, .iload 4, 2), (821, .iconst 2, 1), (822, .iadd, 1), (823, .iaload, 1), (824, .invokevirtual 102, 3), (827, .aload_n 2, 1), (828, .aload_n 0, 1), (829, .iload 4, 2), (831, .iconst 1, 1), (832, .iadd, 1), (833, .iaload, 1), (834, .aload_n 0, 1), (835, .iload 4, 2), (837, .iconst 2, 1), (838, .iadd, 1), (839, .iaload, 1), (840, .invokevirtual 105, 3), (843, .if_icmp .eq (644), 3), (846, .iconst 0, 1), (847, .ireturn, 1), (848, .aload_n 1, 1), (849, .aload_n 0, 1), (850, .iload 4, 2)]
set_option maxRecDepth 20000 in
theorem lw_code11_ok : px_code code lw_code11 = true := by decide +kernel
def lw_code12 : pCode := [(852, .iconst 1, 1), (853, .iadd, 1), (854, .iaload, 1), (855, .aload_n 0, 1), (856, .iload 4, 2), (858, .iconst 2, 1), (859, .iadd, 1), (860, .iaload, 1), (861, .invokevirtual 106, 3), (864, .aload_n 2, 1), (865, .aload_n 0, 1), (866, .iload 4, 2), (868, .iconst 1, 1), (869, .iadd, 1), (870, .iaload, 1), (871, .aload_n 0, 1), (872, .iload 4, 2), (874, .iconst 2, 1), (875, .iadd, 1), (876, .iaload, 1), (877, .invokevirtual 109, 3), (880, .if_icmp .eq (607), 3), (883, .iconst 0, 1), (884, .ireturn, 1), (885, .aload_n 1, 1), (886, .aload_n 0, 1), (887, .iload 4, 2), (889, .iconst 1, 1), (890, .iadd, 1), (891, .iaload, 1), (892, .aload_n 0, 1), (893, .iload 4, 2), (895, .iconst 2, 1), (896, .iadd, 1), (897, .iaload, 1), (898, .invokevirtual 110, 3), (901, .aload_n 2, 1), (902, .aload_n 0, 1), (903, .iload 4, 2), (905, .iconst 1, 1)]
set_option maxRecDepth 20000 in
theorem lw_code12_ok : px_code code lw_code12 = true := by decide +kernel
def lw_code13 : pCode := [(906, .iadd, 1), (907, .iaload, 1), (908, .aload_n 0, 1), (909, .iload 4, 2), (911, .iconst 2, 1), (912, .iadd, 1), (913, .iaload, 1), (914, .invokevirtual 113, 3), (917, .if_icmp .eq (570), 3), (920, .iconst 0, 1), (921, .ireturn, 1), (922, .aload_n 1, 1), (923, .aload_n 0, 1), (924, .iload 4, 2), (926, .iconst 1, 1), (927, .iadd, 1), (928, .iaload, 1), (929, .aload_n 0, 1), (930, .iload 4, 2), (932, .iconst 2, 1), (933, .iadd, 1), (934, .iaload, 1), (935, .invokevirtual 114, 3), (938, .aload_n 2, 1), (939, .aload_n 0, 1), (940, .iload 4, 2), (942, .iconst 1, 1), (943, .iadd, 1), (944, .iaload, 1), (945, .aload_n 0, 1), (946, .iload 4, 2), (948, .iconst 2, 1), (949, .iadd, 1), (950, .iaload, 1), (951, .invokevirtual 117, 3), (954, .if_icmp .eq (533), 3), (957, .iconst 0, 1), (958, .ireturn, 1), (959, .aload_n 1, 1), (960, .aload_n 0, 1)]
set_option maxRecDepth 20000 in
theorem lw_code13_ok : px_code code lw_code13 = true := by decide +kernel
def lw_code14 : pCode := [(961, .iload 4, 2), (963, .iconst 1, 1), (964, .iadd, 1), (965, .iaload, 1), (966, .aload_n 0, 1), (967, .iload 4, 2), (969, .iconst 2, 1), (970, .iadd, 1), (971, .iaload, 1), (972, .invokevirtual 118, 3), (975, .aload_n 2, 1), (976, .aload_n 0, 1), (977, .iload 4, 2), (979, .iconst 1, 1), (980, .iadd, 1), (981, .iaload, 1), (982, .aload_n 0, 1), (983, .iload 4, 2), (985, .iconst 2, 1), (986, .iadd, 1), (987, .iaload, 1), (988, .invokevirtual 121, 3), (991, .if_icmp .eq (496), 3), (994, .iconst 0, 1), (995, .ireturn, 1), (996, .aload_n 1, 1), (997, .aload_n 0, 1), (998, .iload 4, 2), (1000, .iconst 1, 1), (1001, .iadd, 1), (1002, .iaload, 1), (1003, .aload_n 0, 1), (1004, .iload 4, 2), (1006, .iconst 2, 1), (1007, .iadd, 1), (1008, .iaload, 1), (1009, .invokevirtual 122, 3), (1012, .aload_n 2, 1), (1013, .aload_n 0, 1), (1014, .iload 4, 2)]
set_option maxRecDepth 20000 in
theorem lw_code14_ok : px_code code lw_code14 = true := by decide +kernel
def lw_code15 : pCode := [(1016, .iconst 1, 1), (1017, .iadd, 1), (1018, .iaload, 1), (1019, .aload_n 0, 1), (1020, .iload 4, 2), (1022, .iconst 2, 1), (1023, .iadd, 1), (1024, .iaload, 1), (1025, .invokevirtual 125, 3), (1028, .if_icmp .eq (459), 3), (1031, .iconst 0, 1), (1032, .ireturn, 1), (1033, .aload_n 1, 1), (1034, .aload_n 0, 1), (1035, .iload 4, 2), (1037, .iconst 1, 1), (1038, .iadd, 1), (1039, .iaload, 1), (1040, .aload_n 0, 1), (1041, .iload 4, 2), (1043, .iconst 2, 1), (1044, .iadd, 1), (1045, .iaload, 1), (1046, .invokevirtual 126, 3), (1049, .aload_n 2, 1), (1050, .aload_n 0, 1), (1051, .iload 4, 2), (1053, .iconst 1, 1), (1054, .iadd, 1), (1055, .iaload, 1), (1056, .aload_n 0, 1), (1057, .iload 4, 2), (1059, .iconst 2, 1), (1060, .iadd, 1), (1061, .iaload, 1), (1062, .invokevirtual 129, 3), (1065, .if_icmp .eq (422), 3), (1068, .iconst 0, 1), (1069, .ireturn, 1), (1070, .aload_n 1, 1)]
set_option maxRecDepth 20000 in
theorem lw_code15_ok : px_code code lw_code15 = true := by decide +kernel
def lw_code16 : pCode := [(1071, .aload_n 0, 1), (1072, .iload 4, 2), (1074, .iconst 1, 1), (1075, .iadd, 1), (1076, .iaload, 1), (1077, .invokevirtual 130, 3), (1080, .aload_n 2, 1), (1081, .aload_n 0, 1), (1082, .iload 4, 2), (1084, .iconst 1, 1), (1085, .iadd, 1), (1086, .iaload, 1), (1087, .invokevirtual 133, 3), (1090, .if_icmp .eq (397), 3), (1093, .iconst 0, 1), (1094, .ireturn, 1), (1095, .aload_n 1, 1), (1096, .aload_n 0, 1), (1097, .iload 4, 2), (1099, .iconst 1, 1), (1100, .iadd, 1), (1101, .iaload, 1), (1102, .aload_n 0, 1), (1103, .iload 4, 2), (1105, .iconst 2, 1), (1106, .iadd, 1), (1107, .iaload, 1), (1108, .invokevirtual 134, 3), (1111, .aload_n 2, 1), (1112, .aload_n 0, 1), (1113, .iload 4, 2), (1115, .iconst 1, 1), (1116, .iadd, 1), (1117, .iaload, 1), (1118, .aload_n 0, 1), (1119, .iload 4, 2), (1121, .iconst 2, 1), (1122, .iadd, 1), (1123, .iaload, 1), (1124, .invokevirtual 137, 3)]
set_option maxRecDepth 20000 in
theorem lw_code16_ok : px_code code lw_code16 = true := by decide +kernel
def lw_code17 : pCode := [(1127, .if_icmp .eq (360), 3), (1130, .iconst 0, 1), (1131, .ireturn, 1), (1132, .aload_n 1, 1), (1133, .aload_n 0, 1), (1134, .iload 4, 2), (1136, .iconst 1, 1), (1137, .iadd, 1), (1138, .iaload, 1), (1139, .invokevirtual 138, 3), (1142, .aload_n 2, 1), (1143, .aload_n 0, 1), (1144, .iload 4, 2), (1146, .iconst 1, 1), (1147, .iadd, 1), (1148, .iaload, 1), (1149, .invokevirtual 141, 3), (1152, .if_icmp .eq (335), 3), (1155, .iconst 0, 1), (1156, .ireturn, 1), (1157, .aload_n 1, 1), (1158, .aload_n 0, 1), (1159, .iload 4, 2), (1161, .iconst 1, 1), (1162, .iadd, 1), (1163, .iaload, 1), (1164, .invokevirtual 142, 3), (1167, .aload_n 2, 1), (1168, .aload_n 0, 1), (1169, .iload 4, 2), (1171, .iconst 1, 1), (1172, .iadd, 1), (1173, .iaload, 1), (1174, .invokevirtual 145, 3), (1177, .if_icmp .eq (310), 3), (1180, .iconst 0, 1), (1181, .ireturn, 1), (1182, .aload_n 1, 1), (1183, .invokevirtual 146, 3), (1186, .aload_n 2, 1)]
set_option maxRecDepth 20000 in
theorem lw_code17_ok : px_code code lw_code17 = true := by decide +kernel
def lw_code18 : pCode := [(1187, .invokevirtual 149, 3), (1190, .if_icmp .eq (297), 3), (1193, .iconst 0, 1), (1194, .ireturn, 1), (1195, .aload_n 1, 1), (1196, .invokevirtual 150, 3), (1199, .aload_n 2, 1), (1200, .invokevirtual 153, 3), (1203, .if_icmp .eq (284), 3), (1206, .iconst 0, 1), (1207, .ireturn, 1), (1208, .aload_n 1, 1), (1209, .aload_n 0, 1), (1210, .iload 4, 2), (1212, .iconst 1, 1), (1213, .iadd, 1), (1214, .iaload, 1), (1215, .aload_n 0, 1), (1216, .iload 4, 2), (1218, .iconst 2, 1), (1219, .iadd, 1), (1220, .iaload, 1), (1221, .invokevirtual 154, 3), (1224, .aload_n 2, 1), (1225, .aload_n 0, 1), (1226, .iload 4, 2), (1228, .iconst 1, 1), (1229, .iadd, 1), (1230, .iaload, 1), (1231, .aload_n 0, 1), (1232, .iload 4, 2), (1234, .iconst 2, 1), (1235, .iadd, 1), (1236, .iaload, 1), (1237, .invokevirtual 157, 3), (1240, .if_icmp .eq (247), 3), (1243, .iconst 0, 1), (1244, .ireturn, 1), (1245, .aload_n 1, 1), (1246, .aload_n 0, 1)]
set_option maxRecDepth 20000 in
theorem lw_code18_ok : px_code code lw_code18 = true := by decide +kernel
def lw_code19 : pCode := [(1247, .iload 4, 2), (1249, .iconst 1, 1), (1250, .iadd, 1), (1251, .iaload, 1), (1252, .aload_n 0, 1), (1253, .iload 4, 2), (1255, .iconst 2, 1), (1256, .iadd, 1), (1257, .iaload, 1), (1258, .invokevirtual 158, 3), (1261, .aload_n 2, 1), (1262, .aload_n 0, 1), (1263, .iload 4, 2), (1265, .iconst 1, 1), (1266, .iadd, 1), (1267, .iaload, 1), (1268, .aload_n 0, 1), (1269, .iload 4, 2), (1271, .iconst 2, 1), (1272, .iadd, 1), (1273, .iaload, 1), (1274, .invokevirtual 161, 3), (1277, .if_icmp .eq (210), 3), (1280, .iconst 0, 1), (1281, .ireturn, 1), (1282, .aload_n 1, 1), (1283, .aload_n 0, 1), (1284, .iload 4, 2), (1286, .iconst 1, 1), (1287, .iadd, 1), (1288, .iaload, 1), (1289, .aload_n 0, 1), (1290, .iload 4, 2), (1292, .iconst 2, 1), (1293, .iadd, 1), (1294, .iaload, 1), (1295, .invokevirtual 162, 3), (1298, .aload_n 2, 1), (1299, .aload_n 0, 1), (1300, .iload 4, 2)]
set_option maxRecDepth 20000 in
theorem lw_code19_ok : px_code code lw_code19 = true := by decide +kernel
def lw_code20 : pCode := [(1302, .iconst 1, 1), (1303, .iadd, 1), (1304, .iaload, 1), (1305, .aload_n 0, 1), (1306, .iload 4, 2), (1308, .iconst 2, 1), (1309, .iadd, 1), (1310, .iaload, 1), (1311, .invokevirtual 165, 3), (1314, .if_icmp .eq (173), 3), (1317, .iconst 0, 1), (1318, .ireturn, 1), (1319, .aload_n 1, 1), (1320, .aload_n 0, 1), (1321, .iload 4, 2), (1323, .iconst 1, 1), (1324, .iadd, 1), (1325, .iaload, 1), (1326, .aload_n 0, 1), (1327, .iload 4, 2), (1329, .iconst 2, 1), (1330, .iadd, 1), (1331, .iaload, 1), (1332, .invokevirtual 166, 3), (1335, .aload_n 2, 1), (1336, .aload_n 0, 1), (1337, .iload 4, 2), (1339, .iconst 1, 1), (1340, .iadd, 1), (1341, .iaload, 1), (1342, .aload_n 0, 1), (1343, .iload 4, 2), (1345, .iconst 2, 1), (1346, .iadd, 1), (1347, .iaload, 1), (1348, .invokevirtual 169, 3), (1351, .if_icmp .eq (136), 3), (1354, .iconst 0, 1), (1355, .ireturn, 1), (1356, .aload_n 1, 1)]
set_option maxRecDepth 20000 in
theorem lw_code20_ok : px_code code lw_code20 = true := by decide +kernel
def lw_code21 : pCode := [(1357, .aload_n 0, 1), (1358, .iload 4, 2), (1360, .iconst 1, 1), (1361, .iadd, 1), (1362, .iaload, 1), (1363, .invokevirtual 170, 3), (1366, .aload_n 2, 1), (1367, .aload_n 0, 1), (1368, .iload 4, 2), (1370, .iconst 1, 1), (1371, .iadd, 1), (1372, .iaload, 1), (1373, .invokevirtual 173, 3), (1376, .if_icmp .eq (111), 3), (1379, .iconst 0, 1), (1380, .ireturn, 1), (1381, .aload_n 1, 1), (1382, .aload_n 0, 1), (1383, .iload 4, 2), (1385, .iconst 1, 1), (1386, .iadd, 1), (1387, .iaload, 1), (1388, .invokevirtual 174, 3), (1391, .aload_n 2, 1), (1392, .aload_n 0, 1), (1393, .iload 4, 2), (1395, .iconst 1, 1), (1396, .iadd, 1), (1397, .iaload, 1), (1398, .invokevirtual 177, 3), (1401, .if_icmp .eq (86), 3), (1404, .iconst 0, 1), (1405, .ireturn, 1), (1406, .aload_n 1, 1), (1407, .aload_n 0, 1), (1408, .iload 4, 2), (1410, .iconst 1, 1), (1411, .iadd, 1), (1412, .iaload, 1), (1413, .invokevirtual 178, 3)]
set_option maxRecDepth 20000 in
theorem lw_code21_ok : px_code code lw_code21 = true := by decide +kernel
def lw_code22 : pCode := [(1416, .aload_n 2, 1), (1417, .aload_n 0, 1), (1418, .iload 4, 2), (1420, .iconst 1, 1), (1421, .iadd, 1), (1422, .iaload, 1), (1423, .invokevirtual 181, 3), (1426, .if_icmp .eq (61), 3), (1429, .iconst 0, 1), (1430, .ireturn, 1), (1431, .aload_n 1, 1), (1432, .aload_n 0, 1), (1433, .iload 4, 2), (1435, .iconst 1, 1), (1436, .iadd, 1), (1437, .iaload, 1), (1438, .aload_n 3, 1), (1439, .invokestatic 182, 3), (1442, .istore 5, 2), (1444, .aload_n 2, 1), (1445, .aload_n 0, 1), (1446, .iload 4, 2), (1448, .iconst 1, 1), (1449, .iadd, 1), (1450, .iaload, 1), (1451, .invokevirtual 185, 3), (1454, .istore 6, 2), (1456, .aload_n 2, 1), (1457, .invokevirtual 54, 3), (1460, .iload 5, 2), (1462, .if_icmp .eq (5), 3), (1465, .iconst 0, 1), (1466, .ireturn, 1), (1467, .iload 5, 2), (1469, .ifCond .ne (15), 3), (1472, .aload_n 3, 1), (1473, .iconst 0, 1), (1474, .laload, 1), (1475, .iload 6, 2), (1477, .i2l, 1)]
set_option maxRecDepth 20000 in
theorem lw_code22_ok : px_code code lw_code22 = true := by decide +kernel
def lw_code23 : pCode := [(1478, .lcmp, 1), (1479, .ifCond .eq (5), 3), (1482, .iconst 0, 1), (1483, .ireturn, 1), (1484, .goto (3), 3), (1487, .iinc 4 (5), 3), (1490, .goto (-1467), 3), (1493, .iconst 1, 1), (1494, .ireturn, 1)]
set_option maxRecDepth 20000 in
theorem lw_code23_ok : px_code code lw_code23 = true := by decide +kernel
def lw_code : pCode := lw_code0 ++ (lw_code1 ++ (lw_code2 ++ (lw_code3 ++ (lw_code4 ++ (lw_code5 ++ (lw_code6 ++ (lw_code7 ++ (lw_code8 ++ (lw_code9 ++ (lw_code10 ++ (lw_code11 ++ (lw_code12 ++ (lw_code13 ++ (lw_code14 ++ (lw_code15 ++ (lw_code16 ++ (lw_code17 ++ (lw_code18 ++ (lw_code19 ++ (lw_code20 ++ (lw_code21 ++ (lw_code22 ++ (lw_code23)))))))))))))))))))))))
theorem lw_code_app {b : ByteArray} {x y : pCode} (hx : px_code b x = true) (hy : px_code b y = true) : px_code b (x ++ y) = true := by
  unfold px_code at *
  rw [List.all_append, hx, hy]
  rfl
theorem lw_code_ok : px_code code lw_code = true := lw_code_app lw_code0_ok (lw_code_app lw_code1_ok (lw_code_app lw_code2_ok (lw_code_app lw_code3_ok (lw_code_app lw_code4_ok (lw_code_app lw_code5_ok (lw_code_app lw_code6_ok (lw_code_app lw_code7_ok (lw_code_app lw_code8_ok (lw_code_app lw_code9_ok (lw_code_app lw_code10_ok (lw_code_app lw_code11_ok (lw_code_app lw_code12_ok (lw_code_app lw_code13_ok (lw_code_app lw_code14_ok (lw_code_app lw_code15_ok (lw_code_app lw_code16_ok (lw_code_app lw_code17_ok (lw_code_app lw_code18_ok (lw_code_app lw_code19_ok (lw_code_app lw_code20_ok (lw_code_app lw_code21_ok (lw_code_app lw_code22_ok (lw_code23_ok)))))))))))))))))))))))
theorem lw_d {pc : Nat} {i : Instr} {n : Nat} (h : px_find lw_code pc = some (i, n)) : decode code pc = .ok (i, n) := of_decide_eq_true (List.all_eq_true.mp lw_code_ok (pc, i, n) (px_find_mem h))
/-- the row for what person(), thing(), row() answered -/
def lw_out (s : State) (ad : Nat → Nat) (qo : Nat) (H : Heap) : Prop := (∀ a, a < px_N → ad a ≠ qo) ∧ s.heap.size ≤ qo ∧ qo < H.size ∧ ∃ (cL : ClassId) (fo : Nat → Int64), H[qo]? = some (vp_cell cL (1, .inr (.inl fo))) ∧ ArrOfT s cL .long ∧ va_RA s cL .long
def lw_Fix (p : Program) (s : State) (m : MethodId) (meth : Method) (c : Code) (b L : Nat) (xs : Nat → Int32) (D : va_G) (D3 : Nat → ClassId) (ad : Nat → Nat) : Prop :=
  lw_At p s m meth c b L xs ∧ va_K D px_cl (px_tys D3) s ∧ px_inj ad ∧ ∀ a, a < px_N → s.heap.size ≤ ad a
def lw_G (p : Program) (l : Launch) (e0 : Env) (s : State) (m : MethodId) (below : List Frame) (meth : Method) (c : Code) (b : Nat) (D : va_G) (D3 : Nat → ClassId) (ad : Nat → Nat) (qo : Nat) (lsA : Array Slot) (cells slots : Nat) (pc : Nat) (st : List Value) (h : pH) : Prop :=
  ∀ (H : Heap) (locs : List Loc), va_P D px_cl (px_ws D3 ad h) H → lw_out s ad qo H → va_S (fun q : Nat => s.heap.size ≤ q) s.heap H locs → W p l e0 room_1 s m #[Value.ref b] below meth c H locs cells slots (lw_Z below #[Value.ref b] s) (F0 m pc lsA st)
theorem lw_out.kept {s : State} {ad : Nat → Nat} {qo : Nat} {H H1 : Heap} (h : lw_out s ad qo H) (hk : ∀ z : Nat, z < H.size → ¬ px_A ad H.size z → H1[z]? = H[z]?) (hz : H.size ≤ H1.size) : lw_out s ad qo H1 := by
  obtain ⟨h1, h2, h3, cL, fo, h4, h5⟩ := h
  refine ⟨h1, h2, Nat.lt_of_lt_of_le h3 hz, cL, fo, ?_, h5⟩
  rw [hk qo h3 (fun q => ?_)]
  · exact h4
  · rcases q with ⟨a, ha, hq⟩ | q
    · exact h1 a ha hq.symm
    · omega
section LWG
variable {p : Program} {l : Launch} {e0 : Env} {s : State} {m : MethodId} {below : List Frame} {meth : Method} {c : Code} {b L : Nat} {xs : Nat → Int32} {D : va_G} {D3 : Nat → ClassId} {ad : Nat → Nat} {qo : Nat} {lsA : Array Slot} {cells slots : Nat}
theorem lw_g_call {d id idx np ci pc a0 : Nat} {y : MethodName} {bb : ByteArray} {nLc : Nat} {ty : FieldType} {h : pH} {q : Int32 × pH} {as : List pV} {r : List Value} (hF : lw_Fix p s m meth c b L xs D D3 ad) (hsz : lsA.size = 7) (hce : cells ≤ room_1.cells ∧ slots ≤ room_1.slots) (hd9 : d ≤ 1000)
    (hid : px_nth px_mt id = some (y, bb, nLc, some ty, false, np, ci)) (hl : Jvm.Cond.methodLink R_law idx y ∈ px_TB) (hC : px_Con d id (.inr (.inl a0) :: as) h q)
    (hd : px_find lw_code pc = some (.invokevirtual idx, 3)) (hn : as.length = np) (ht : px_tag a0 = ci + 10) (hlow : (r.map fun v => v.category).sum ≤ 8)
    (kk : lw_G p l e0 s m below meth c b D D3 ad qo lsA cells slots (pc + 3) (.int q.1 :: r) q.2) : lw_G p l e0 s m below meth c b D D3 ad qo lsA cells slots pc (as.reverse.map (pv ad) ++ .ref (ad a0) :: r) h := by
  intro H locs hP hO hS
  obtain ⟨⟨hx, hb, hr, hml, hown, hts, hX, hbl, hlocks, hgv⟩, hK, hi, had⟩ := hF
  exact lw_callV (A := fun q : Nat => s.heap.size ≤ q) hx hb hml hown (lw_TB hts) hK (lw_TN hts) hi ⟨by show d + 1 ≤ 2048; omega, by show 40 * (d + 1) ≤ 84000; omega⟩ hce hid hl hC hP hS (fun _ h => h) had hsz (lw_d hd) hn ht hlow (fun H1 locs1 hP1 hk hz hS1 => kk H1 locs1 hP1 (hO.kept hk hz) hS1)
/-- script[i + j] is put on the stack -/
theorem lw_arg {pc i j : Nat} {st : List Value} {h : pH} (hF : lw_Fix p s m meth c b L xs D D3 ad) (hl : lv_has lsA 7 [(0, .ref b), (1, .ref (ad 0)), (2, .ref (ad 51)), (3, .ref qo), (4, .int (nI i))]) (hL : L ≤ 2560) (hi : i + 5 ≤ L) (hj : j < 5)
    (h0 : px_find lw_code pc = some (.aload_n 0, 1)) (h1 : px_find lw_code (pc + 1) = some (.iload 4, 2)) (h2 : px_find lw_code (pc + 3) = some (.iconst (j : Int), 1)) (h3 : px_find lw_code (pc + 4) = some (.iadd, 1)) (h4 : px_find lw_code (pc + 5) = some (.iaload, 1))
    (kk : lw_G p l e0 s m below meth c b D D3 ad qo lsA cells slots (pc + 6) (.int (xs (i + j)) :: st) h) : lw_G p l e0 s m below meth c b D D3 ad qo lsA cells slots pc st h := by
  intro H locs hP hO hS
  obtain ⟨⟨hx, hb, hr, hml, hown, hts, hX, hbl, hlocks, hgv⟩, hK, hii, had⟩ := hF
  have hbA : ¬ (fun q : Nat => s.heap.size ≤ q) b := Nat.not_le.mpr hbl
  refine lv_aload_n hx hb (lw_d h0) rfl (lv_at hl 0 rfl) ?_
  refine lv_iload hx hb (lw_d h1) (lv_at hl 4 rfl) ?_
  refine lv_iconst (v := nI j) hx hb (lw_d h2) (by match j, hj with
    | 0, _ => rfl
    | 1, _ => rfl
    | 2, _ => rfl
    | 3, _ => rfl
    | 4, _ => rfl) ?_
  refine lv_iadd hx hb (lw_d h3) ?_
  rw [nI_add]
  refine va_sld hx hb hX hbl hbA hS (vp_in_nI (by omega) (by omega)) (lw_d h4) ?_
  rw [nI_clamp (by omega)]
  exact kk H locs hP hO hS
/-- the answers are the same -/
theorem lw_same {pc : Nat} {x y : Int32} {off : Int} {h : pH} (hF : lw_Fix p s m meth c b L xs D D3 ad) (hxy : x = y) (hd : px_find lw_code pc = some (.if_icmp .eq off, 3)) (ht : (pc : Int) + off = (1487 : Nat)) (kk : lw_G p l e0 s m below meth c b D D3 ad qo lsA cells slots 1487 [] h) : lw_G p l e0 s m below meth c b D D3 ad qo lsA cells slots pc [.int y, .int x] h := by
  intro H locs hP hO hS
  obtain ⟨⟨hx, hb, hr, hml, hown, hts, hX, hbl, hlocks, hgv⟩, hK, hii, had⟩ := hF
  exact lv_icmp_eq hx hb (lw_d hd) ht (fun _ => kk H locs hP hO hS) (fun hne => absurd hxy hne)
theorem lw_a1 {pc i : Nat} {st : List Value} {h : pH} (hF : lw_Fix p s m meth c b L xs D D3 ad) (hl : lv_has lsA 7 [(0, .ref b), (1, .ref (ad 0)), (2, .ref (ad 51)), (3, .ref qo), (4, .int (nI i))]) (h0 : px_find lw_code pc = some (.aload_n 1, 1)) (kk : lw_G p l e0 s m below meth c b D D3 ad qo lsA cells slots (pc + 1) (.ref (ad 0) :: st) h) : lw_G p l e0 s m below meth c b D D3 ad qo lsA cells slots pc st h := by
  intro H locs hP hO hS
  obtain ⟨⟨hx, hb, hr, hml, hown, hts, hX, hbl, hlocks, hgv⟩, hK, hii, had⟩ := hF
  exact lv_aload_n hx hb (lw_d h0) rfl (lv_at hl 1 rfl) (kk H locs hP hO hS)
theorem lw_a2 {pc i : Nat} {st : List Value} {h : pH} (hF : lw_Fix p s m meth c b L xs D D3 ad) (hl : lv_has lsA 7 [(0, .ref b), (1, .ref (ad 0)), (2, .ref (ad 51)), (3, .ref qo), (4, .int (nI i))]) (h0 : px_find lw_code pc = some (.aload_n 2, 1)) (kk : lw_G p l e0 s m below meth c b D D3 ad qo lsA cells slots (pc + 1) (.ref (ad 51) :: st) h) : lw_G p l e0 s m below meth c b D D3 ad qo lsA cells slots pc st h := by
  intro H locs hP hO hS
  obtain ⟨⟨hx, hb, hr, hml, hown, hts, hX, hbl, hlocks, hgv⟩, hK, hii, had⟩ := hF
  exact lv_aload_n hx hb (lw_d h0) rfl (lv_at hl 2 rfl) (kk H locs hP hO hS)
set_option maxRecDepth 20000 in
theorem lw_case0 {i : Nat} {h h1 h2 : pH} {r : Int32} (hF : lw_Fix p s m meth c b L xs D D3 ad) (hl : lv_has lsA 7 [(0, .ref b), (1, .ref (ad 0)), (2, .ref (ad 51)), (3, .ref qo), (4, .int (nI i))]) (hL : L ≤ 2560) (hi : i + 5 ≤ L) (hce : cells ≤ room_1.cells ∧ slots ≤ room_1.slots)
    (e1 : wu_sign (xs (i + 1)) h = some (r, h1)) (e2 : mo_sign (xs (i + 1)) h1 = some (r, h2)) (kk : lw_G p l e0 s m below meth c b D D3 ad qo lsA cells slots 1487 [] h2) : lw_G p l e0 s m below meth c b D D3 ad qo lsA cells slots 204 [] h := by
  refine lw_a1 hF hl rfl ?_
  refine lw_arg (j := 1) hF hl hL hi (by decide) rfl rfl rfl rfl rfl ?_
  refine lw_g_call (as := [.inl (xs (i + 1))]) (a0 := 0) hF hl.1 hce (by decide) (id := 120) (hid := rfl) (hl := px_TB_of (List.mem_of_getElem? (i := 621) rfl) rfl) (hC := wu_sign_ok (d := 0) e1) rfl rfl rfl (Nat.le_of_ble_eq_true rfl) ?_
  refine lw_a2 hF hl rfl ?_
  refine lw_arg (j := 1) hF hl hL hi (by decide) rfl rfl rfl rfl rfl ?_
  refine lw_g_call (as := [.inl (xs (i + 1))]) (a0 := 51) hF hl.1 hce (by decide) (id := 185) (hid := rfl) (hl := px_TB_of (List.mem_of_getElem? (i := 1702) rfl) rfl) (hC := mo_sign_ok (d := 0) e2) rfl rfl rfl (Nat.le_of_ble_eq_true rfl) ?_
  exact lw_same hF rfl rfl rfl kk
set_option maxRecDepth 20000 in
theorem lw_case1 {i : Nat} {h h1 h2 : pH} {r : Int32} (hF : lw_Fix p s m meth c b L xs D D3 ad) (hl : lv_has lsA 7 [(0, .ref b), (1, .ref (ad 0)), (2, .ref (ad 51)), (3, .ref qo), (4, .int (nI i))]) (hL : L ≤ 2560) (hi : i + 5 ≤ L) (hce : cells ≤ room_1.cells ∧ slots ≤ room_1.slots)
    (e1 : wu_end (xs (i + 1)) h = some (r, h1)) (e2 : mo_end (xs (i + 1)) h1 = some (r, h2)) (kk : lw_G p l e0 s m below meth c b D D3 ad qo lsA cells slots 1487 [] h2) : lw_G p l e0 s m below meth c b D D3 ad qo lsA cells slots 229 [] h := by
  refine lw_a1 hF hl rfl ?_
  refine lw_arg (j := 1) hF hl hL hi (by decide) rfl rfl rfl rfl rfl ?_
  refine lw_g_call (as := [.inl (xs (i + 1))]) (a0 := 0) hF hl.1 hce (by decide) (id := 121) (hid := rfl) (hl := px_TB_of (List.mem_of_getElem? (i := 629) rfl) rfl) (hC := wu_end_ok (d := 0) e1) rfl rfl rfl (Nat.le_of_ble_eq_true rfl) ?_
  refine lw_a2 hF hl rfl ?_
  refine lw_arg (j := 1) hF hl hL hi (by decide) rfl rfl rfl rfl rfl ?_
  refine lw_g_call (as := [.inl (xs (i + 1))]) (a0 := 51) hF hl.1 hce (by decide) (id := 186) (hid := rfl) (hl := px_TB_of (List.mem_of_getElem? (i := 1706) rfl) rfl) (hC := mo_end_ok (d := 0) e2) rfl rfl rfl (Nat.le_of_ble_eq_true rfl) ?_
  exact lw_same hF rfl rfl rfl kk
set_option maxRecDepth 20000 in
theorem lw_case2 {i : Nat} {h h1 h2 : pH} {r : Int32} (hF : lw_Fix p s m meth c b L xs D D3 ad) (hl : lv_has lsA 7 [(0, .ref b), (1, .ref (ad 0)), (2, .ref (ad 51)), (3, .ref qo), (4, .int (nI i))]) (hL : L ≤ 2560) (hi : i + 5 ≤ L) (hce : cells ≤ room_1.cells ∧ slots ≤ room_1.slots)
    (e1 : wu_river  h = some (r, h1)) (e2 : mo_river  h1 = some (r, h2)) (kk : lw_G p l e0 s m below meth c b D D3 ad qo lsA cells slots 1487 [] h2) : lw_G p l e0 s m below meth c b D D3 ad qo lsA cells slots 254 [] h := by
  refine lw_a1 hF hl rfl ?_
  refine lw_g_call (as := []) (a0 := 0) hF hl.1 hce (by decide) (id := 122) (hid := rfl) (hl := px_TB_of (List.mem_of_getElem? (i := 637) rfl) rfl) (hC := wu_river_ok (d := 0) e1) rfl rfl rfl (Nat.le_of_ble_eq_true rfl) ?_
  refine lw_a2 hF hl rfl ?_
  refine lw_g_call (as := []) (a0 := 51) hF hl.1 hce (by decide) (id := 197) (hid := rfl) (hl := px_TB_of (List.mem_of_getElem? (i := 1713) rfl) rfl) (hC := mo_river_ok (d := 0) e2) rfl rfl rfl (Nat.le_of_ble_eq_true rfl) ?_
  exact lw_same hF rfl rfl rfl kk
set_option maxRecDepth 20000 in
theorem lw_case3 {i : Nat} {h h1 h2 : pH} {r : Int32} (hF : lw_Fix p s m meth c b L xs D D3 ad) (hl : lv_has lsA 7 [(0, .ref b), (1, .ref (ad 0)), (2, .ref (ad 51)), (3, .ref qo), (4, .int (nI i))]) (hL : L ≤ 2560) (hi : i + 5 ≤ L) (hce : cells ≤ room_1.cells ∧ slots ≤ room_1.slots)
    (e1 : wu_house  h = some (r, h1)) (e2 : mo_house  h1 = some (r, h2)) (kk : lw_G p l e0 s m below meth c b D D3 ad qo lsA cells slots 1487 [] h2) : lw_G p l e0 s m below meth c b D D3 ad qo lsA cells slots 267 [] h := by
  refine lw_a1 hF hl rfl ?_
  refine lw_g_call (as := []) (a0 := 0) hF hl.1 hce (by decide) (id := 123) (hid := rfl) (hl := px_TB_of (List.mem_of_getElem? (i := 706) rfl) rfl) (hC := wu_house_ok (d := 0) e1) rfl rfl rfl (Nat.le_of_ble_eq_true rfl) ?_
  refine lw_a2 hF hl rfl ?_
  refine lw_g_call (as := []) (a0 := 51) hF hl.1 hce (by decide) (id := 199) (hid := rfl) (hl := px_TB_of (List.mem_of_getElem? (i := 1745) rfl) rfl) (hC := mo_house_ok (d := 0) e2) rfl rfl rfl (Nat.le_of_ble_eq_true rfl) ?_
  exact lw_same hF rfl rfl rfl kk
set_option maxRecDepth 20000 in
theorem lw_case4 {i : Nat} {h h1 h2 : pH} {r : Int32} (hF : lw_Fix p s m meth c b L xs D D3 ad) (hl : lv_has lsA 7 [(0, .ref b), (1, .ref (ad 0)), (2, .ref (ad 51)), (3, .ref qo), (4, .int (nI i))]) (hL : L ≤ 2560) (hi : i + 5 ≤ L) (hce : cells ≤ room_1.cells ∧ slots ≤ room_1.slots)
    (e1 : wu_rule  h = some (r, h1)) (e2 : mo_rule  h1 = some (r, h2)) (kk : lw_G p l e0 s m below meth c b D D3 ad qo lsA cells slots 1487 [] h2) : lw_G p l e0 s m below meth c b D D3 ad qo lsA cells slots 280 [] h := by
  refine lw_a1 hF hl rfl ?_
  refine lw_g_call (as := []) (a0 := 0) hF hl.1 hce (by decide) (id := 124) (hid := rfl) (hl := px_TB_of (List.mem_of_getElem? (i := 747) rfl) rfl) (hC := wu_rule_ok (d := 0) e1) rfl rfl rfl (Nat.le_of_ble_eq_true rfl) ?_
  refine lw_a2 hF hl rfl ?_
  refine lw_g_call (as := []) (a0 := 51) hF hl.1 hce (by decide) (id := 205) (hid := rfl) (hl := px_TB_of (List.mem_of_getElem? (i := 1765) rfl) rfl) (hC := mo_rule_ok (d := 0) e2) rfl rfl rfl (Nat.le_of_ble_eq_true rfl) ?_
  exact lw_same hF rfl rfl rfl kk
set_option maxRecDepth 20000 in
theorem lw_case7 {i : Nat} {h h1 h2 : pH} {r : Int32} (hF : lw_Fix p s m meth c b L xs D D3 ad) (hl : lv_has lsA 7 [(0, .ref b), (1, .ref (ad 0)), (2, .ref (ad 51)), (3, .ref qo), (4, .int (nI i))]) (hL : L ≤ 2560) (hi : i + 5 ≤ L) (hce : cells ≤ room_1.cells ∧ slots ≤ room_1.slots)
    (e1 : wu_islet (xs (i + 1)) h = some (r, h1)) (e2 : mo_islet (xs (i + 1)) h1 = some (r, h2)) (kk : lw_G p l e0 s m below meth c b D D3 ad qo lsA cells slots 1487 [] h2) : lw_G p l e0 s m below meth c b D D3 ad qo lsA cells slots 429 [] h := by
  refine lw_a1 hF hl rfl ?_
  refine lw_arg (j := 1) hF hl hL hi (by decide) rfl rfl rfl rfl rfl ?_
  refine lw_g_call (as := [.inl (xs (i + 1))]) (a0 := 0) hF hl.1 hce (by decide) (id := 127) (hid := rfl) (hl := px_TB_of (List.mem_of_getElem? (i := 811) rfl) rfl) (hC := wu_islet_ok (d := 0) e1) rfl rfl rfl (Nat.le_of_ble_eq_true rfl) ?_
  refine lw_a2 hF hl rfl ?_
  refine lw_arg (j := 1) hF hl hL hi (by decide) rfl rfl rfl rfl rfl ?_
  refine lw_g_call (as := [.inl (xs (i + 1))]) (a0 := 51) hF hl.1 hce (by decide) (id := 215) (hid := rfl) (hl := px_TB_of (List.mem_of_getElem? (i := 1830) rfl) rfl) (hC := mo_islet_ok (d := 0) e2) rfl rfl rfl (Nat.le_of_ble_eq_true rfl) ?_
  exact lw_same hF rfl rfl rfl kk
set_option maxRecDepth 20000 in
theorem lw_case8 {i : Nat} {h h1 h2 : pH} {r : Int32} (hF : lw_Fix p s m meth c b L xs D D3 ad) (hl : lv_has lsA 7 [(0, .ref b), (1, .ref (ad 0)), (2, .ref (ad 51)), (3, .ref qo), (4, .int (nI i))]) (hL : L ≤ 2560) (hi : i + 5 ≤ L) (hce : cells ≤ room_1.cells ∧ slots ≤ room_1.slots)
    (e1 : wu_hold (xs (i + 1)) (xs (i + 2)) h = some (r, h1)) (e2 : mo_hold (xs (i + 1)) (xs (i + 2)) h1 = some (r, h2)) (kk : lw_G p l e0 s m below meth c b D D3 ad qo lsA cells slots 1487 [] h2) : lw_G p l e0 s m below meth c b D D3 ad qo lsA cells slots 454 [] h := by
  refine lw_a1 hF hl rfl ?_
  refine lw_arg (j := 1) hF hl hL hi (by decide) rfl rfl rfl rfl rfl ?_
  refine lw_arg (j := 2) hF hl hL hi (by decide) rfl rfl rfl rfl rfl ?_
  refine lw_g_call (as := [.inl (xs (i + 1)), .inl (xs (i + 2))]) (a0 := 0) hF hl.1 hce (by decide) (id := 128) (hid := rfl) (hl := px_TB_of (List.mem_of_getElem? (i := 820) rfl) rfl) (hC := wu_hold_ok (d := 0) e1) rfl rfl rfl (Nat.le_of_ble_eq_true rfl) ?_
  refine lw_a2 hF hl rfl ?_
  refine lw_arg (j := 1) hF hl hL hi (by decide) rfl rfl rfl rfl rfl ?_
  refine lw_arg (j := 2) hF hl hL hi (by decide) rfl rfl rfl rfl rfl ?_
  refine lw_g_call (as := [.inl (xs (i + 1)), .inl (xs (i + 2))]) (a0 := 51) hF hl.1 hce (by decide) (id := 216) (hid := rfl) (hl := px_TB_of (List.mem_of_getElem? (i := 1834) rfl) rfl) (hC := mo_hold_ok (d := 0) e2) rfl rfl rfl (Nat.le_of_ble_eq_true rfl) ?_
  exact lw_same hF rfl rfl rfl kk
set_option maxRecDepth 20000 in
theorem lw_case9 {i : Nat} {h h1 h2 : pH} {r : Int32} (hF : lw_Fix p s m meth c b L xs D D3 ad) (hl : lv_has lsA 7 [(0, .ref b), (1, .ref (ad 0)), (2, .ref (ad 51)), (3, .ref qo), (4, .int (nI i))]) (hL : L ≤ 2560) (hi : i + 5 ≤ L) (hce : cells ≤ room_1.cells ∧ slots ≤ room_1.slots)
    (e1 : wu_sheet (xs (i + 1)) (xs (i + 2)) (xs (i + 3)) (xs (i + 4)) h = some (r, h1)) (e2 : mo_sheet (xs (i + 1)) (xs (i + 2)) (xs (i + 3)) (xs (i + 4)) h1 = some (r, h2)) (kk : lw_G p l e0 s m below meth c b D D3 ad qo lsA cells slots 1487 [] h2) : lw_G p l e0 s m below meth c b D D3 ad qo lsA cells slots 491 [] h := by
  refine lw_a1 hF hl rfl ?_
  refine lw_arg (j := 1) hF hl hL hi (by decide) rfl rfl rfl rfl rfl ?_
  refine lw_arg (j := 2) hF hl hL hi (by decide) rfl rfl rfl rfl rfl ?_
  refine lw_arg (j := 3) hF hl hL hi (by decide) rfl rfl rfl rfl rfl ?_
  refine lw_arg (j := 4) hF hl hL hi (by decide) rfl rfl rfl rfl rfl ?_
  refine lw_g_call (as := [.inl (xs (i + 1)), .inl (xs (i + 2)), .inl (xs (i + 3)), .inl (xs (i + 4))]) (a0 := 0) hF hl.1 hce (by decide) (id := 129) (hid := rfl) (hl := px_TB_of (List.mem_of_getElem? (i := 829) rfl) rfl) (hC := wu_sheet_ok (d := 0) e1) rfl rfl rfl (Nat.le_of_ble_eq_true rfl) ?_
  refine lw_a2 hF hl rfl ?_
  refine lw_arg (j := 1) hF hl hL hi (by decide) rfl rfl rfl rfl rfl ?_
  refine lw_arg (j := 2) hF hl hL hi (by decide) rfl rfl rfl rfl rfl ?_
  refine lw_arg (j := 3) hF hl hL hi (by decide) rfl rfl rfl rfl rfl ?_
  refine lw_arg (j := 4) hF hl hL hi (by decide) rfl rfl rfl rfl rfl ?_
  refine lw_g_call (as := [.inl (xs (i + 1)), .inl (xs (i + 2)), .inl (xs (i + 3)), .inl (xs (i + 4))]) (a0 := 51) hF hl.1 hce (by decide) (id := 217) (hid := rfl) (hl := px_TB_of (List.mem_of_getElem? (i := 1838) rfl) rfl) (hC := mo_sheet_ok (d := 0) e2) rfl rfl rfl (Nat.le_of_ble_eq_true rfl) ?_
  exact lw_same hF rfl rfl rfl kk
set_option maxRecDepth 20000 in
theorem lw_case10 {i : Nat} {h h1 h2 : pH} {r : Int32} (hF : lw_Fix p s m meth c b L xs D D3 ad) (hl : lv_has lsA 7 [(0, .ref b), (1, .ref (ad 0)), (2, .ref (ad 51)), (3, .ref qo), (4, .int (nI i))]) (hL : L ≤ 2560) (hi : i + 5 ≤ L) (hce : cells ≤ room_1.cells ∧ slots ≤ room_1.slots)
    (e1 : wu_cross (xs (i + 1)) (xs (i + 2)) (xs (i + 3)) h = some (r, h1)) (e2 : mo_cross (xs (i + 1)) (xs (i + 2)) (xs (i + 3)) h1 = some (r, h2)) (kk : lw_G p l e0 s m below meth c b D D3 ad qo lsA cells slots 1487 [] h2) : lw_G p l e0 s m below meth c b D D3 ad qo lsA cells slots 552 [] h := by
  refine lw_a1 hF hl rfl ?_
  refine lw_arg (j := 1) hF hl hL hi (by decide) rfl rfl rfl rfl rfl ?_
  refine lw_arg (j := 2) hF hl hL hi (by decide) rfl rfl rfl rfl rfl ?_
  refine lw_arg (j := 3) hF hl hL hi (by decide) rfl rfl rfl rfl rfl ?_
  refine lw_g_call (as := [.inl (xs (i + 1)), .inl (xs (i + 2)), .inl (xs (i + 3))]) (a0 := 0) hF hl.1 hce (by decide) (id := 130) (hid := rfl) (hl := px_TB_of (List.mem_of_getElem? (i := 838) rfl) rfl) (hC := wu_cross_ok (d := 0) e1) rfl rfl rfl (Nat.le_of_ble_eq_true rfl) ?_
  refine lw_a2 hF hl rfl ?_
  refine lw_arg (j := 1) hF hl hL hi (by decide) rfl rfl rfl rfl rfl ?_
  refine lw_arg (j := 2) hF hl hL hi (by decide) rfl rfl rfl rfl rfl ?_
  refine lw_arg (j := 3) hF hl hL hi (by decide) rfl rfl rfl rfl rfl ?_
  refine lw_g_call (as := [.inl (xs (i + 1)), .inl (xs (i + 2)), .inl (xs (i + 3))]) (a0 := 51) hF hl.1 hce (by decide) (id := 229) (hid := rfl) (hl := px_TB_of (List.mem_of_getElem? (i := 1844) rfl) rfl) (hC := mo_cross_ok (d := 0) e2) rfl rfl rfl (Nat.le_of_ble_eq_true rfl) ?_
  exact lw_same hF rfl rfl rfl kk
set_option maxRecDepth 20000 in
theorem lw_case11 {i : Nat} {h h1 h2 : pH} {r : Int32} (hF : lw_Fix p s m meth c b L xs D D3 ad) (hl : lv_has lsA 7 [(0, .ref b), (1, .ref (ad 0)), (2, .ref (ad 51)), (3, .ref qo), (4, .int (nI i))]) (hL : L ≤ 2560) (hi : i + 5 ≤ L) (hce : cells ≤ room_1.cells ∧ slots ≤ room_1.slots)
    (e1 : wu_look (xs (i + 1)) (xs (i + 2)) (xs (i + 3)) h = some (r, h1)) (e2 : mo_look (xs (i + 1)) (xs (i + 2)) (xs (i + 3)) h1 = some (r, h2)) (kk : lw_G p l e0 s m below meth c b D D3 ad qo lsA cells slots 1487 [] h2) : lw_G p l e0 s m below meth c b D D3 ad qo lsA cells slots 601 [] h := by
  refine lw_a1 hF hl rfl ?_
  refine lw_arg (j := 1) hF hl hL hi (by decide) rfl rfl rfl rfl rfl ?_
  refine lw_arg (j := 2) hF hl hL hi (by decide) rfl rfl rfl rfl rfl ?_
  refine lw_arg (j := 3) hF hl hL hi (by decide) rfl rfl rfl rfl rfl ?_
  refine lw_g_call (as := [.inl (xs (i + 1)), .inl (xs (i + 2)), .inl (xs (i + 3))]) (a0 := 0) hF hl.1 hce (by decide) (id := 131) (hid := rfl) (hl := px_TB_of (List.mem_of_getElem? (i := 986) rfl) rfl) (hC := wu_look_ok (d := 0) e1) rfl rfl rfl (Nat.le_of_ble_eq_true rfl) ?_
  refine lw_a2 hF hl rfl ?_
  refine lw_arg (j := 1) hF hl hL hi (by decide) rfl rfl rfl rfl rfl ?_
  refine lw_arg (j := 2) hF hl hL hi (by decide) rfl rfl rfl rfl rfl ?_
  refine lw_arg (j := 3) hF hl hL hi (by decide) rfl rfl rfl rfl rfl ?_
  refine lw_g_call (as := [.inl (xs (i + 1)), .inl (xs (i + 2)), .inl (xs (i + 3))]) (a0 := 51) hF hl.1 hce (by decide) (id := 230) (hid := rfl) (hl := px_TB_of (List.mem_of_getElem? (i := 1915) rfl) rfl) (hC := mo_look_ok (d := 0) e2) rfl rfl rfl (Nat.le_of_ble_eq_true rfl) ?_
  exact lw_same hF rfl rfl rfl kk
set_option maxRecDepth 20000 in
theorem lw_case12 {i : Nat} {h h1 h2 : pH} {r : Int32} (hF : lw_Fix p s m meth c b L xs D D3 ad) (hl : lv_has lsA 7 [(0, .ref b), (1, .ref (ad 0)), (2, .ref (ad 51)), (3, .ref qo), (4, .int (nI i))]) (hL : L ≤ 2560) (hi : i + 5 ≤ L) (hce : cells ≤ room_1.cells ∧ slots ≤ room_1.slots)
    (e1 : wu_say (xs (i + 1)) (xs (i + 2)) h = some (r, h1)) (e2 : mo_say (xs (i + 1)) (xs (i + 2)) h1 = some (r, h2)) (kk : lw_G p l e0 s m below meth c b D D3 ad qo lsA cells slots 1487 [] h2) : lw_G p l e0 s m below meth c b D D3 ad qo lsA cells slots 650 [] h := by
  refine lw_a1 hF hl rfl ?_
  refine lw_arg (j := 1) hF hl hL hi (by decide) rfl rfl rfl rfl rfl ?_
  refine lw_arg (j := 2) hF hl hL hi (by decide) rfl rfl rfl rfl rfl ?_
  refine lw_g_call (as := [.inl (xs (i + 1)), .inl (xs (i + 2))]) (a0 := 0) hF hl.1 hce (by decide) (id := 132) (hid := rfl) (hl := px_TB_of (List.mem_of_getElem? (i := 990) rfl) rfl) (hC := wu_say_ok (d := 0) e1) rfl rfl rfl (Nat.le_of_ble_eq_true rfl) ?_
  refine lw_a2 hF hl rfl ?_
  refine lw_arg (j := 1) hF hl hL hi (by decide) rfl rfl rfl rfl rfl ?_
  refine lw_arg (j := 2) hF hl hL hi (by decide) rfl rfl rfl rfl rfl ?_
  refine lw_g_call (as := [.inl (xs (i + 1)), .inl (xs (i + 2))]) (a0 := 51) hF hl.1 hce (by decide) (id := 233) (hid := rfl) (hl := px_TB_of (List.mem_of_getElem? (i := 1919) rfl) rfl) (hC := mo_say_ok (d := 0) e2) rfl rfl rfl (Nat.le_of_ble_eq_true rfl) ?_
  exact lw_same hF rfl rfl rfl kk
set_option maxRecDepth 20000 in
theorem lw_case13 {i : Nat} {h h1 h2 : pH} {r : Int32} (hF : lw_Fix p s m meth c b L xs D D3 ad) (hl : lv_has lsA 7 [(0, .ref b), (1, .ref (ad 0)), (2, .ref (ad 51)), (3, .ref qo), (4, .int (nI i))]) (hL : L ≤ 2560) (hi : i + 5 ≤ L) (hce : cells ≤ room_1.cells ∧ slots ≤ room_1.slots)
    (e1 : wu_whisper (xs (i + 1)) (xs (i + 2)) (xs (i + 3)) h = some (r, h1)) (e2 : mo_whisper (xs (i + 1)) (xs (i + 2)) (xs (i + 3)) h1 = some (r, h2)) (kk : lw_G p l e0 s m below meth c b D D3 ad qo lsA cells slots 1487 [] h2) : lw_G p l e0 s m below meth c b D D3 ad qo lsA cells slots 687 [] h := by
  refine lw_a1 hF hl rfl ?_
  refine lw_arg (j := 1) hF hl hL hi (by decide) rfl rfl rfl rfl rfl ?_
  refine lw_arg (j := 2) hF hl hL hi (by decide) rfl rfl rfl rfl rfl ?_
  refine lw_arg (j := 3) hF hl hL hi (by decide) rfl rfl rfl rfl rfl ?_
  refine lw_g_call (as := [.inl (xs (i + 1)), .inl (xs (i + 2)), .inl (xs (i + 3))]) (a0 := 0) hF hl.1 hce (by decide) (id := 133) (hid := rfl) (hl := px_TB_of (List.mem_of_getElem? (i := 1017) rfl) rfl) (hC := wu_whisper_ok (d := 0) e1) rfl rfl rfl (Nat.le_of_ble_eq_true rfl) ?_
  refine lw_a2 hF hl rfl ?_
  refine lw_arg (j := 1) hF hl hL hi (by decide) rfl rfl rfl rfl rfl ?_
  refine lw_arg (j := 2) hF hl hL hi (by decide) rfl rfl rfl rfl rfl ?_
  refine lw_arg (j := 3) hF hl hL hi (by decide) rfl rfl rfl rfl rfl ?_
  refine lw_g_call (as := [.inl (xs (i + 1)), .inl (xs (i + 2)), .inl (xs (i + 3))]) (a0 := 51) hF hl.1 hce (by decide) (id := 236) (hid := rfl) (hl := px_TB_of (List.mem_of_getElem? (i := 1935) rfl) rfl) (hC := mo_whisper_ok (d := 0) e2) rfl rfl rfl (Nat.le_of_ble_eq_true rfl) ?_
  exact lw_same hF rfl rfl rfl kk
set_option maxRecDepth 20000 in
theorem lw_case14 {i : Nat} {h h1 h2 : pH} {r : Int32} (hF : lw_Fix p s m meth c b L xs D D3 ad) (hl : lv_has lsA 7 [(0, .ref b), (1, .ref (ad 0)), (2, .ref (ad 51)), (3, .ref qo), (4, .int (nI i))]) (hL : L ≤ 2560) (hi : i + 5 ≤ L) (hce : cells ≤ room_1.cells ∧ slots ≤ room_1.slots)
    (e1 : wu_sell (xs (i + 1)) (xs (i + 2)) (xs (i + 3)) h = some (r, h1)) (e2 : mo_sell (xs (i + 1)) (xs (i + 2)) (xs (i + 3)) h1 = some (r, h2)) (kk : lw_G p l e0 s m below meth c b D D3 ad qo lsA cells slots 1487 [] h2) : lw_G p l e0 s m below meth c b D D3 ad qo lsA cells slots 736 [] h := by
  refine lw_a1 hF hl rfl ?_
  refine lw_arg (j := 1) hF hl hL hi (by decide) rfl rfl rfl rfl rfl ?_
  refine lw_arg (j := 2) hF hl hL hi (by decide) rfl rfl rfl rfl rfl ?_
  refine lw_arg (j := 3) hF hl hL hi (by decide) rfl rfl rfl rfl rfl ?_
  refine lw_g_call (as := [.inl (xs (i + 1)), .inl (xs (i + 2)), .inl (xs (i + 3))]) (a0 := 0) hF hl.1 hce (by decide) (id := 134) (hid := rfl) (hl := px_TB_of (List.mem_of_getElem? (i := 1026) rfl) rfl) (hC := wu_sell_ok (d := 0) e1) rfl rfl rfl (Nat.le_of_ble_eq_true rfl) ?_
  refine lw_a2 hF hl rfl ?_
  refine lw_arg (j := 1) hF hl hL hi (by decide) rfl rfl rfl rfl rfl ?_
  refine lw_arg (j := 2) hF hl hL hi (by decide) rfl rfl rfl rfl rfl ?_
  refine lw_arg (j := 3) hF hl hL hi (by decide) rfl rfl rfl rfl rfl ?_
  refine lw_g_call (as := [.inl (xs (i + 1)), .inl (xs (i + 2)), .inl (xs (i + 3))]) (a0 := 51) hF hl.1 hce (by decide) (id := 240) (hid := rfl) (hl := px_TB_of (List.mem_of_getElem? (i := 1947) rfl) rfl) (hC := mo_sell_ok (d := 0) e2) rfl rfl rfl (Nat.le_of_ble_eq_true rfl) ?_
  exact lw_same hF rfl rfl rfl kk
set_option maxRecDepth 20000 in
theorem lw_case15 {i : Nat} {h h1 h2 : pH} {r : Int32} (hF : lw_Fix p s m meth c b L xs D D3 ad) (hl : lv_has lsA 7 [(0, .ref b), (1, .ref (ad 0)), (2, .ref (ad 51)), (3, .ref qo), (4, .int (nI i))]) (hL : L ≤ 2560) (hi : i + 5 ≤ L) (hce : cells ≤ room_1.cells ∧ slots ≤ room_1.slots)
    (e1 : wu_day  h = some (r, h1)) (e2 : mo_day  h1 = some (r, h2)) (kk : lw_G p l e0 s m below meth c b D D3 ad qo lsA cells slots 1487 [] h2) : lw_G p l e0 s m below meth c b D D3 ad qo lsA cells slots 785 [] h := by
  refine lw_a1 hF hl rfl ?_
  refine lw_g_call (as := []) (a0 := 0) hF hl.1 hce (by decide) (id := 135) (hid := rfl) (hl := px_TB_of (List.mem_of_getElem? (i := 1046) rfl) rfl) (hC := wu_day_ok (d := 0) e1) rfl rfl rfl (Nat.le_of_ble_eq_true rfl) ?_
  refine lw_a2 hF hl rfl ?_
  refine lw_g_call (as := []) (a0 := 51) hF hl.1 hce (by decide) (id := 241) (hid := rfl) (hl := px_TB_of (List.mem_of_getElem? (i := 1963) rfl) rfl) (hC := mo_day_ok (d := 0) e2) rfl rfl rfl (Nat.le_of_ble_eq_true rfl) ?_
  exact lw_same hF rfl rfl rfl kk
set_option maxRecDepth 20000 in
theorem lw_case16 {i : Nat} {h h1 h2 : pH} {r : Int32} (hF : lw_Fix p s m meth c b L xs D D3 ad) (hl : lv_has lsA 7 [(0, .ref b), (1, .ref (ad 0)), (2, .ref (ad 51)), (3, .ref qo), (4, .int (nI i))]) (hL : L ≤ 2560) (hi : i + 5 ≤ L) (hce : cells ≤ room_1.cells ∧ slots ≤ room_1.slots)
    (e1 : wu_undo  h = some (r, h1)) (e2 : mo_undo  h1 = some (r, h2)) (kk : lw_G p l e0 s m below meth c b D D3 ad qo lsA cells slots 1487 [] h2) : lw_G p l e0 s m below meth c b D D3 ad qo lsA cells slots 798 [] h := by
  refine lw_a1 hF hl rfl ?_
  refine lw_g_call (as := []) (a0 := 0) hF hl.1 hce (by decide) (id := 136) (hid := rfl) (hl := px_TB_of (List.mem_of_getElem? (i := 1093) rfl) rfl) (hC := wu_undo_ok (d := 0) e1) rfl rfl rfl (Nat.le_of_ble_eq_true rfl) ?_
  refine lw_a2 hF hl rfl ?_
  refine lw_g_call (as := []) (a0 := 51) hF hl.1 hce (by decide) (id := 245) (hid := rfl) (hl := px_TB_of (List.mem_of_getElem? (i := 1979) rfl) rfl) (hC := mo_undo_ok (d := 0) e2) rfl rfl rfl (Nat.le_of_ble_eq_true rfl) ?_
  exact lw_same hF rfl rfl rfl kk
set_option maxRecDepth 20000 in
theorem lw_case17 {i : Nat} {h h1 h2 : pH} {r : Int32} (hF : lw_Fix p s m meth c b L xs D D3 ad) (hl : lv_has lsA 7 [(0, .ref b), (1, .ref (ad 0)), (2, .ref (ad 51)), (3, .ref qo), (4, .int (nI i))]) (hL : L ≤ 2560) (hi : i + 5 ≤ L) (hce : cells ≤ room_1.cells ∧ slots ≤ room_1.slots)
    (e1 : wu_far (xs (i + 1)) (xs (i + 2)) h = some (r, h1)) (e2 : mo_far (xs (i + 1)) (xs (i + 2)) h1 = some (r, h2)) (kk : lw_G p l e0 s m below meth c b D D3 ad qo lsA cells slots 1487 [] h2) : lw_G p l e0 s m below meth c b D D3 ad qo lsA cells slots 811 [] h := by
  refine lw_a1 hF hl rfl ?_
  refine lw_arg (j := 1) hF hl hL hi (by decide) rfl rfl rfl rfl rfl ?_
  refine lw_arg (j := 2) hF hl hL hi (by decide) rfl rfl rfl rfl rfl ?_
  refine lw_g_call (as := [.inl (xs (i + 1)), .inl (xs (i + 2))]) (a0 := 0) hF hl.1 hce (by decide) (id := 137) (hid := rfl) (hl := px_TB_of (List.mem_of_getElem? (i := 1105) rfl) rfl) (hC := wu_far_ok (d := 0) e1) rfl rfl rfl (Nat.le_of_ble_eq_true rfl) ?_
  refine lw_a2 hF hl rfl ?_
  refine lw_arg (j := 1) hF hl hL hi (by decide) rfl rfl rfl rfl rfl ?_
  refine lw_arg (j := 2) hF hl hL hi (by decide) rfl rfl rfl rfl rfl ?_
  refine lw_g_call (as := [.inl (xs (i + 1)), .inl (xs (i + 2))]) (a0 := 51) hF hl.1 hce (by decide) (id := 246) (hid := rfl) (hl := px_TB_of (List.mem_of_getElem? (i := 1983) rfl) rfl) (hC := mo_far_ok (d := 0) e2) rfl rfl rfl (Nat.le_of_ble_eq_true rfl) ?_
  exact lw_same hF rfl rfl rfl kk
set_option maxRecDepth 20000 in
theorem lw_case18 {i : Nat} {h h1 h2 : pH} {r : Int32} (hF : lw_Fix p s m meth c b L xs D D3 ad) (hl : lv_has lsA 7 [(0, .ref b), (1, .ref (ad 0)), (2, .ref (ad 51)), (3, .ref qo), (4, .int (nI i))]) (hL : L ≤ 2560) (hi : i + 5 ≤ L) (hce : cells ≤ room_1.cells ∧ slots ≤ room_1.slots)
    (e1 : wu_keeps (xs (i + 1)) (xs (i + 2)) h = some (r, h1)) (e2 : mo_keeps (xs (i + 1)) (xs (i + 2)) h1 = some (r, h2)) (kk : lw_G p l e0 s m below meth c b D D3 ad qo lsA cells slots 1487 [] h2) : lw_G p l e0 s m below meth c b D D3 ad qo lsA cells slots 848 [] h := by
  refine lw_a1 hF hl rfl ?_
  refine lw_arg (j := 1) hF hl hL hi (by decide) rfl rfl rfl rfl rfl ?_
  refine lw_arg (j := 2) hF hl hL hi (by decide) rfl rfl rfl rfl rfl ?_
  refine lw_g_call (as := [.inl (xs (i + 1)), .inl (xs (i + 2))]) (a0 := 0) hF hl.1 hce (by decide) (id := 138) (hid := rfl) (hl := px_TB_of (List.mem_of_getElem? (i := 1109) rfl) rfl) (hC := wu_keeps_ok (d := 0) e1) rfl rfl rfl (Nat.le_of_ble_eq_true rfl) ?_
  refine lw_a2 hF hl rfl ?_
  refine lw_arg (j := 1) hF hl hL hi (by decide) rfl rfl rfl rfl rfl ?_
  refine lw_arg (j := 2) hF hl hL hi (by decide) rfl rfl rfl rfl rfl ?_
  refine lw_g_call (as := [.inl (xs (i + 1)), .inl (xs (i + 2))]) (a0 := 51) hF hl.1 hce (by decide) (id := 247) (hid := rfl) (hl := px_TB_of (List.mem_of_getElem? (i := 1987) rfl) rfl) (hC := mo_keeps_ok (d := 0) e2) rfl rfl rfl (Nat.le_of_ble_eq_true rfl) ?_
  exact lw_same hF rfl rfl rfl kk
set_option maxRecDepth 20000 in
theorem lw_case19 {i : Nat} {h h1 h2 : pH} {r : Int32} (hF : lw_Fix p s m meth c b L xs D D3 ad) (hl : lv_has lsA 7 [(0, .ref b), (1, .ref (ad 0)), (2, .ref (ad 51)), (3, .ref qo), (4, .int (nI i))]) (hL : L ≤ 2560) (hi : i + 5 ≤ L) (hce : cells ≤ room_1.cells ∧ slots ≤ room_1.slots)
    (e1 : wu_fewest (xs (i + 1)) (xs (i + 2)) h = some (r, h1)) (e2 : mo_fewest (xs (i + 1)) (xs (i + 2)) h1 = some (r, h2)) (kk : lw_G p l e0 s m below meth c b D D3 ad qo lsA cells slots 1487 [] h2) : lw_G p l e0 s m below meth c b D D3 ad qo lsA cells slots 885 [] h := by
  refine lw_a1 hF hl rfl ?_
  refine lw_arg (j := 1) hF hl hL hi (by decide) rfl rfl rfl rfl rfl ?_
  refine lw_arg (j := 2) hF hl hL hi (by decide) rfl rfl rfl rfl rfl ?_
  refine lw_g_call (as := [.inl (xs (i + 1)), .inl (xs (i + 2))]) (a0 := 0) hF hl.1 hce (by decide) (id := 139) (hid := rfl) (hl := px_TB_of (List.mem_of_getElem? (i := 1116) rfl) rfl) (hC := wu_fewest_ok (d := 0) e1) rfl rfl rfl (Nat.le_of_ble_eq_true rfl) ?_
  refine lw_a2 hF hl rfl ?_
  refine lw_arg (j := 1) hF hl hL hi (by decide) rfl rfl rfl rfl rfl ?_
  refine lw_arg (j := 2) hF hl hL hi (by decide) rfl rfl rfl rfl rfl ?_
  refine lw_g_call (as := [.inl (xs (i + 1)), .inl (xs (i + 2))]) (a0 := 51) hF hl.1 hce (by decide) (id := 255) (hid := rfl) (hl := px_TB_of (List.mem_of_getElem? (i := 1991) rfl) rfl) (hC := mo_fewest_ok (d := 0) e2) rfl rfl rfl (Nat.le_of_ble_eq_true rfl) ?_
  exact lw_same hF rfl rfl rfl kk
set_option maxRecDepth 20000 in
theorem lw_case20 {i : Nat} {h h1 h2 : pH} {r : Int32} (hF : lw_Fix p s m meth c b L xs D D3 ad) (hl : lv_has lsA 7 [(0, .ref b), (1, .ref (ad 0)), (2, .ref (ad 51)), (3, .ref qo), (4, .int (nI i))]) (hL : L ≤ 2560) (hi : i + 5 ≤ L) (hce : cells ≤ room_1.cells ∧ slots ≤ room_1.slots)
    (e1 : wu_rows (xs (i + 1)) (xs (i + 2)) h = some (r, h1)) (e2 : mo_rows (xs (i + 1)) (xs (i + 2)) h1 = some (r, h2)) (kk : lw_G p l e0 s m below meth c b D D3 ad qo lsA cells slots 1487 [] h2) : lw_G p l e0 s m below meth c b D D3 ad qo lsA cells slots 922 [] h := by
  refine lw_a1 hF hl rfl ?_
  refine lw_arg (j := 1) hF hl hL hi (by decide) rfl rfl rfl rfl rfl ?_
  refine lw_arg (j := 2) hF hl hL hi (by decide) rfl rfl rfl rfl rfl ?_
  refine lw_g_call (as := [.inl (xs (i + 1)), .inl (xs (i + 2))]) (a0 := 0) hF hl.1 hce (by decide) (id := 140) (hid := rfl) (hl := px_TB_of (List.mem_of_getElem? (i := 1186) rfl) rfl) (hC := wu_rows_ok (d := 0) e1) rfl rfl rfl (Nat.le_of_ble_eq_true rfl) ?_
  refine lw_a2 hF hl rfl ?_
  refine lw_arg (j := 1) hF hl hL hi (by decide) rfl rfl rfl rfl rfl ?_
  refine lw_arg (j := 2) hF hl hL hi (by decide) rfl rfl rfl rfl rfl ?_
  refine lw_g_call (as := [.inl (xs (i + 1)), .inl (xs (i + 2))]) (a0 := 51) hF hl.1 hce (by decide) (id := 256) (hid := rfl) (hl := px_TB_of (List.mem_of_getElem? (i := 2027) rfl) rfl) (hC := mo_rows_ok (d := 0) e2) rfl rfl rfl (Nat.le_of_ble_eq_true rfl) ?_
  exact lw_same hF rfl rfl rfl kk
set_option maxRecDepth 20000 in
theorem lw_case21 {i : Nat} {h h1 h2 : pH} {r : Int32} (hF : lw_Fix p s m meth c b L xs D D3 ad) (hl : lv_has lsA 7 [(0, .ref b), (1, .ref (ad 0)), (2, .ref (ad 51)), (3, .ref qo), (4, .int (nI i))]) (hL : L ≤ 2560) (hi : i + 5 ≤ L) (hce : cells ≤ room_1.cells ∧ slots ≤ room_1.slots)
    (e1 : wu_back (xs (i + 1)) (xs (i + 2)) h = some (r, h1)) (e2 : mo_back (xs (i + 1)) (xs (i + 2)) h1 = some (r, h2)) (kk : lw_G p l e0 s m below meth c b D D3 ad qo lsA cells slots 1487 [] h2) : lw_G p l e0 s m below meth c b D D3 ad qo lsA cells slots 959 [] h := by
  refine lw_a1 hF hl rfl ?_
  refine lw_arg (j := 1) hF hl hL hi (by decide) rfl rfl rfl rfl rfl ?_
  refine lw_arg (j := 2) hF hl hL hi (by decide) rfl rfl rfl rfl rfl ?_
  refine lw_g_call (as := [.inl (xs (i + 1)), .inl (xs (i + 2))]) (a0 := 0) hF hl.1 hce (by decide) (id := 141) (hid := rfl) (hl := px_TB_of (List.mem_of_getElem? (i := 1197) rfl) rfl) (hC := wu_back_ok (d := 0) e1) rfl rfl rfl (Nat.le_of_ble_eq_true rfl) ?_
  refine lw_a2 hF hl rfl ?_
  refine lw_arg (j := 1) hF hl hL hi (by decide) rfl rfl rfl rfl rfl ?_
  refine lw_arg (j := 2) hF hl hL hi (by decide) rfl rfl rfl rfl rfl ?_
  refine lw_g_call (as := [.inl (xs (i + 1)), .inl (xs (i + 2))]) (a0 := 51) hF hl.1 hce (by decide) (id := 259) (hid := rfl) (hl := px_TB_of (List.mem_of_getElem? (i := 2031) rfl) rfl) (hC := mo_back_ok (d := 0) e2) rfl rfl rfl (Nat.le_of_ble_eq_true rfl) ?_
  exact lw_same hF rfl rfl rfl kk
set_option maxRecDepth 20000 in
theorem lw_case22 {i : Nat} {h h1 h2 : pH} {r : Int32} (hF : lw_Fix p s m meth c b L xs D D3 ad) (hl : lv_has lsA 7 [(0, .ref b), (1, .ref (ad 0)), (2, .ref (ad 51)), (3, .ref qo), (4, .int (nI i))]) (hL : L ≤ 2560) (hi : i + 5 ≤ L) (hce : cells ≤ room_1.cells ∧ slots ≤ room_1.slots)
    (e1 : wu_exact (xs (i + 1)) (xs (i + 2)) h = some (r, h1)) (e2 : mo_exact (xs (i + 1)) (xs (i + 2)) h1 = some (r, h2)) (kk : lw_G p l e0 s m below meth c b D D3 ad qo lsA cells slots 1487 [] h2) : lw_G p l e0 s m below meth c b D D3 ad qo lsA cells slots 996 [] h := by
  refine lw_a1 hF hl rfl ?_
  refine lw_arg (j := 1) hF hl hL hi (by decide) rfl rfl rfl rfl rfl ?_
  refine lw_arg (j := 2) hF hl hL hi (by decide) rfl rfl rfl rfl rfl ?_
  refine lw_g_call (as := [.inl (xs (i + 1)), .inl (xs (i + 2))]) (a0 := 0) hF hl.1 hce (by decide) (id := 142) (hid := rfl) (hl := px_TB_of (List.mem_of_getElem? (i := 1216) rfl) rfl) (hC := wu_exact_ok (d := 0) e1) rfl rfl rfl (Nat.le_of_ble_eq_true rfl) ?_
  refine lw_a2 hF hl rfl ?_
  refine lw_arg (j := 1) hF hl hL hi (by decide) rfl rfl rfl rfl rfl ?_
  refine lw_arg (j := 2) hF hl hL hi (by decide) rfl rfl rfl rfl rfl ?_
  refine lw_g_call (as := [.inl (xs (i + 1)), .inl (xs (i + 2))]) (a0 := 51) hF hl.1 hce (by decide) (id := 260) (hid := rfl) (hl := px_TB_of (List.mem_of_getElem? (i := 2043) rfl) rfl) (hC := mo_exact_ok (d := 0) e2) rfl rfl rfl (Nat.le_of_ble_eq_true rfl) ?_
  exact lw_same hF rfl rfl rfl kk
set_option maxRecDepth 20000 in
theorem lw_case23 {i : Nat} {h h1 h2 : pH} {r : Int32} (hF : lw_Fix p s m meth c b L xs D D3 ad) (hl : lv_has lsA 7 [(0, .ref b), (1, .ref (ad 0)), (2, .ref (ad 51)), (3, .ref qo), (4, .int (nI i))]) (hL : L ≤ 2560) (hi : i + 5 ≤ L) (hce : cells ≤ room_1.cells ∧ slots ≤ room_1.slots)
    (e1 : wu_chance (xs (i + 1)) (xs (i + 2)) h = some (r, h1)) (e2 : mo_chance (xs (i + 1)) (xs (i + 2)) h1 = some (r, h2)) (kk : lw_G p l e0 s m below meth c b D D3 ad qo lsA cells slots 1487 [] h2) : lw_G p l e0 s m below meth c b D D3 ad qo lsA cells slots 1033 [] h := by
  refine lw_a1 hF hl rfl ?_
  refine lw_arg (j := 1) hF hl hL hi (by decide) rfl rfl rfl rfl rfl ?_
  refine lw_arg (j := 2) hF hl hL hi (by decide) rfl rfl rfl rfl rfl ?_
  refine lw_g_call (as := [.inl (xs (i + 1)), .inl (xs (i + 2))]) (a0 := 0) hF hl.1 hce (by decide) (id := 143) (hid := rfl) (hl := px_TB_of (List.mem_of_getElem? (i := 1230) rfl) rfl) (hC := wu_chance_ok (d := 0) e1) rfl rfl rfl (Nat.le_of_ble_eq_true rfl) ?_
  refine lw_a2 hF hl rfl ?_
  refine lw_arg (j := 1) hF hl hL hi (by decide) rfl rfl rfl rfl rfl ?_
  refine lw_arg (j := 2) hF hl hL hi (by decide) rfl rfl rfl rfl rfl ?_
  refine lw_g_call (as := [.inl (xs (i + 1)), .inl (xs (i + 2))]) (a0 := 51) hF hl.1 hce (by decide) (id := 261) (hid := rfl) (hl := px_TB_of (List.mem_of_getElem? (i := 2047) rfl) rfl) (hC := mo_chance_ok (d := 0) e2) rfl rfl rfl (Nat.le_of_ble_eq_true rfl) ?_
  exact lw_same hF rfl rfl rfl kk
set_option maxRecDepth 20000 in
theorem lw_case24 {i : Nat} {h h1 h2 : pH} {r : Int32} (hF : lw_Fix p s m meth c b L xs D D3 ad) (hl : lv_has lsA 7 [(0, .ref b), (1, .ref (ad 0)), (2, .ref (ad 51)), (3, .ref qo), (4, .int (nI i))]) (hL : L ≤ 2560) (hi : i + 5 ≤ L) (hce : cells ≤ room_1.cells ∧ slots ≤ room_1.slots)
    (e1 : wu_party (xs (i + 1)) h = some (r, h1)) (e2 : mo_party (xs (i + 1)) h1 = some (r, h2)) (kk : lw_G p l e0 s m below meth c b D D3 ad qo lsA cells slots 1487 [] h2) : lw_G p l e0 s m below meth c b D D3 ad qo lsA cells slots 1070 [] h := by
  refine lw_a1 hF hl rfl ?_
  refine lw_arg (j := 1) hF hl hL hi (by decide) rfl rfl rfl rfl rfl ?_
  refine lw_g_call (as := [.inl (xs (i + 1))]) (a0 := 0) hF hl.1 hce (by decide) (id := 144) (hid := rfl) (hl := px_TB_of (List.mem_of_getElem? (i := 1239) rfl) rfl) (hC := wu_party_ok (d := 0) e1) rfl rfl rfl (Nat.le_of_ble_eq_true rfl) ?_
  refine lw_a2 hF hl rfl ?_
  refine lw_arg (j := 1) hF hl hL hi (by decide) rfl rfl rfl rfl rfl ?_
  refine lw_g_call (as := [.inl (xs (i + 1))]) (a0 := 51) hF hl.1 hce (by decide) (id := 263) (hid := rfl) (hl := px_TB_of (List.mem_of_getElem? (i := 2058) rfl) rfl) (hC := mo_party_ok (d := 0) e2) rfl rfl rfl (Nat.le_of_ble_eq_true rfl) ?_
  exact lw_same hF rfl rfl rfl kk
set_option maxRecDepth 20000 in
theorem lw_case25 {i : Nat} {h h1 h2 : pH} {r : Int32} (hF : lw_Fix p s m meth c b L xs D D3 ad) (hl : lv_has lsA 7 [(0, .ref b), (1, .ref (ad 0)), (2, .ref (ad 51)), (3, .ref qo), (4, .int (nI i))]) (hL : L ≤ 2560) (hi : i + 5 ≤ L) (hce : cells ≤ room_1.cells ∧ slots ≤ room_1.slots)
    (e1 : wu_pool (xs (i + 1)) (xs (i + 2)) h = some (r, h1)) (e2 : mo_pool (xs (i + 1)) (xs (i + 2)) h1 = some (r, h2)) (kk : lw_G p l e0 s m below meth c b D D3 ad qo lsA cells slots 1487 [] h2) : lw_G p l e0 s m below meth c b D D3 ad qo lsA cells slots 1095 [] h := by
  refine lw_a1 hF hl rfl ?_
  refine lw_arg (j := 1) hF hl hL hi (by decide) rfl rfl rfl rfl rfl ?_
  refine lw_arg (j := 2) hF hl hL hi (by decide) rfl rfl rfl rfl rfl ?_
  refine lw_g_call (as := [.inl (xs (i + 1)), .inl (xs (i + 2))]) (a0 := 0) hF hl.1 hce (by decide) (id := 145) (hid := rfl) (hl := px_TB_of (List.mem_of_getElem? (i := 1282) rfl) rfl) (hC := wu_pool_ok (d := 0) e1) rfl rfl rfl (Nat.le_of_ble_eq_true rfl) ?_
  refine lw_a2 hF hl rfl ?_
  refine lw_arg (j := 1) hF hl hL hi (by decide) rfl rfl rfl rfl rfl ?_
  refine lw_arg (j := 2) hF hl hL hi (by decide) rfl rfl rfl rfl rfl ?_
  refine lw_g_call (as := [.inl (xs (i + 1)), .inl (xs (i + 2))]) (a0 := 51) hF hl.1 hce (by decide) (id := 264) (hid := rfl) (hl := px_TB_of (List.mem_of_getElem? (i := 2066) rfl) rfl) (hC := mo_pool_ok (d := 0) e2) rfl rfl rfl (Nat.le_of_ble_eq_true rfl) ?_
  exact lw_same hF rfl rfl rfl kk
set_option maxRecDepth 20000 in
theorem lw_case26 {i : Nat} {h h1 h2 : pH} {r : Int32} (hF : lw_Fix p s m meth c b L xs D D3 ad) (hl : lv_has lsA 7 [(0, .ref b), (1, .ref (ad 0)), (2, .ref (ad 51)), (3, .ref qo), (4, .int (nI i))]) (hL : L ≤ 2560) (hi : i + 5 ≤ L) (hce : cells ≤ room_1.cells ∧ slots ≤ room_1.slots)
    (e1 : wu_known (xs (i + 1)) h = some (r, h1)) (e2 : mo_known (xs (i + 1)) h1 = some (r, h2)) (kk : lw_G p l e0 s m below meth c b D D3 ad qo lsA cells slots 1487 [] h2) : lw_G p l e0 s m below meth c b D D3 ad qo lsA cells slots 1132 [] h := by
  refine lw_a1 hF hl rfl ?_
  refine lw_arg (j := 1) hF hl hL hi (by decide) rfl rfl rfl rfl rfl ?_
  refine lw_g_call (as := [.inl (xs (i + 1))]) (a0 := 0) hF hl.1 hce (by decide) (id := 146) (hid := rfl) (hl := px_TB_of (List.mem_of_getElem? (i := 1286) rfl) rfl) (hC := wu_known_ok (d := 0) e1) rfl rfl rfl (Nat.le_of_ble_eq_true rfl) ?_
  refine lw_a2 hF hl rfl ?_
  refine lw_arg (j := 1) hF hl hL hi (by decide) rfl rfl rfl rfl rfl ?_
  refine lw_g_call (as := [.inl (xs (i + 1))]) (a0 := 51) hF hl.1 hce (by decide) (id := 265) (hid := rfl) (hl := px_TB_of (List.mem_of_getElem? (i := 2070) rfl) rfl) (hC := mo_known_ok (d := 0) e2) rfl rfl rfl (Nat.le_of_ble_eq_true rfl) ?_
  exact lw_same hF rfl rfl rfl kk
set_option maxRecDepth 20000 in
theorem lw_case27 {i : Nat} {h h1 h2 : pH} {r : Int32} (hF : lw_Fix p s m meth c b L xs D D3 ad) (hl : lv_has lsA 7 [(0, .ref b), (1, .ref (ad 0)), (2, .ref (ad 51)), (3, .ref qo), (4, .int (nI i))]) (hL : L ≤ 2560) (hi : i + 5 ≤ L) (hce : cells ≤ room_1.cells ∧ slots ≤ room_1.slots)
    (e1 : wu_sayable (xs (i + 1)) h = some (r, h1)) (e2 : mo_sayable (xs (i + 1)) h1 = some (r, h2)) (kk : lw_G p l e0 s m below meth c b D D3 ad qo lsA cells slots 1487 [] h2) : lw_G p l e0 s m below meth c b D D3 ad qo lsA cells slots 1157 [] h := by
  refine lw_a1 hF hl rfl ?_
  refine lw_arg (j := 1) hF hl hL hi (by decide) rfl rfl rfl rfl rfl ?_
  refine lw_g_call (as := [.inl (xs (i + 1))]) (a0 := 0) hF hl.1 hce (by decide) (id := 147) (hid := rfl) (hl := px_TB_of (List.mem_of_getElem? (i := 1300) rfl) rfl) (hC := wu_sayable_ok (d := 0) e1) rfl rfl rfl (Nat.le_of_ble_eq_true rfl) ?_
  refine lw_a2 hF hl rfl ?_
  refine lw_arg (j := 1) hF hl hL hi (by decide) rfl rfl rfl rfl rfl ?_
  refine lw_g_call (as := [.inl (xs (i + 1))]) (a0 := 51) hF hl.1 hce (by decide) (id := 266) (hid := rfl) (hl := px_TB_of (List.mem_of_getElem? (i := 2078) rfl) rfl) (hC := mo_sayable_ok (d := 0) e2) rfl rfl rfl (Nat.le_of_ble_eq_true rfl) ?_
  exact lw_same hF rfl rfl rfl kk
set_option maxRecDepth 20000 in
theorem lw_case28 {i : Nat} {h h1 h2 : pH} {r : Int32} (hF : lw_Fix p s m meth c b L xs D D3 ad) (hl : lv_has lsA 7 [(0, .ref b), (1, .ref (ad 0)), (2, .ref (ad 51)), (3, .ref qo), (4, .int (nI i))]) (hL : L ≤ 2560) (hi : i + 5 ≤ L) (hce : cells ≤ room_1.cells ∧ slots ≤ room_1.slots)
    (e1 : wu_apart  h = some (r, h1)) (e2 : mo_apart  h1 = some (r, h2)) (kk : lw_G p l e0 s m below meth c b D D3 ad qo lsA cells slots 1487 [] h2) : lw_G p l e0 s m below meth c b D D3 ad qo lsA cells slots 1182 [] h := by
  refine lw_a1 hF hl rfl ?_
  refine lw_g_call (as := []) (a0 := 0) hF hl.1 hce (by decide) (id := 148) (hid := rfl) (hl := px_TB_of (List.mem_of_getElem? (i := 1306) rfl) rfl) (hC := wu_apart_ok (d := 0) e1) rfl rfl rfl (Nat.le_of_ble_eq_true rfl) ?_
  refine lw_a2 hF hl rfl ?_
  refine lw_g_call (as := []) (a0 := 51) hF hl.1 hce (by decide) (id := 267) (hid := rfl) (hl := px_TB_of (List.mem_of_getElem? (i := 2082) rfl) rfl) (hC := mo_apart_ok (d := 0) e2) rfl rfl rfl (Nat.le_of_ble_eq_true rfl) ?_
  exact lw_same hF rfl rfl rfl kk
set_option maxRecDepth 20000 in
theorem lw_case29 {i : Nat} {h h1 h2 : pH} {r : Int32} (hF : lw_Fix p s m meth c b L xs D D3 ad) (hl : lv_has lsA 7 [(0, .ref b), (1, .ref (ad 0)), (2, .ref (ad 51)), (3, .ref qo), (4, .int (nI i))]) (hL : L ≤ 2560) (hi : i + 5 ≤ L) (hce : cells ≤ room_1.cells ∧ slots ≤ room_1.slots)
    (e1 : wu_spared  h = some (r, h1)) (e2 : mo_spared  h1 = some (r, h2)) (kk : lw_G p l e0 s m below meth c b D D3 ad qo lsA cells slots 1487 [] h2) : lw_G p l e0 s m below meth c b D D3 ad qo lsA cells slots 1195 [] h := by
  refine lw_a1 hF hl rfl ?_
  refine lw_g_call (as := []) (a0 := 0) hF hl.1 hce (by decide) (id := 149) (hid := rfl) (hl := px_TB_of (List.mem_of_getElem? (i := 1314) rfl) rfl) (hC := wu_spared_ok (d := 0) e1) rfl rfl rfl (Nat.le_of_ble_eq_true rfl) ?_
  refine lw_a2 hF hl rfl ?_
  refine lw_g_call (as := []) (a0 := 51) hF hl.1 hce (by decide) (id := 268) (hid := rfl) (hl := px_TB_of (List.mem_of_getElem? (i := 2086) rfl) rfl) (hC := mo_spared_ok (d := 0) e2) rfl rfl rfl (Nat.le_of_ble_eq_true rfl) ?_
  exact lw_same hF rfl rfl rfl kk
set_option maxRecDepth 20000 in
theorem lw_case30 {i : Nat} {h h1 h2 : pH} {r : Int32} (hF : lw_Fix p s m meth c b L xs D D3 ad) (hl : lv_has lsA 7 [(0, .ref b), (1, .ref (ad 0)), (2, .ref (ad 51)), (3, .ref qo), (4, .int (nI i))]) (hL : L ≤ 2560) (hi : i + 5 ≤ L) (hce : cells ≤ room_1.cells ∧ slots ≤ room_1.slots)
    (e1 : wu_ashore (xs (i + 1)) (xs (i + 2)) h = some (r, h1)) (e2 : mo_ashore (xs (i + 1)) (xs (i + 2)) h1 = some (r, h2)) (kk : lw_G p l e0 s m below meth c b D D3 ad qo lsA cells slots 1487 [] h2) : lw_G p l e0 s m below meth c b D D3 ad qo lsA cells slots 1208 [] h := by
  refine lw_a1 hF hl rfl ?_
  refine lw_arg (j := 1) hF hl hL hi (by decide) rfl rfl rfl rfl rfl ?_
  refine lw_arg (j := 2) hF hl hL hi (by decide) rfl rfl rfl rfl rfl ?_
  refine lw_g_call (as := [.inl (xs (i + 1)), .inl (xs (i + 2))]) (a0 := 0) hF hl.1 hce (by decide) (id := 150) (hid := rfl) (hl := px_TB_of (List.mem_of_getElem? (i := 1323) rfl) rfl) (hC := wu_ashore_ok (d := 0) e1) rfl rfl rfl (Nat.le_of_ble_eq_true rfl) ?_
  refine lw_a2 hF hl rfl ?_
  refine lw_arg (j := 1) hF hl hL hi (by decide) rfl rfl rfl rfl rfl ?_
  refine lw_arg (j := 2) hF hl hL hi (by decide) rfl rfl rfl rfl rfl ?_
  refine lw_g_call (as := [.inl (xs (i + 1)), .inl (xs (i + 2))]) (a0 := 51) hF hl.1 hce (by decide) (id := 270) (hid := rfl) (hl := px_TB_of (List.mem_of_getElem? (i := 2090) rfl) rfl) (hC := mo_ashore_ok (d := 0) e2) rfl rfl rfl (Nat.le_of_ble_eq_true rfl) ?_
  exact lw_same hF rfl rfl rfl kk
set_option maxRecDepth 20000 in
theorem lw_case31 {i : Nat} {h h1 h2 : pH} {r : Int32} (hF : lw_Fix p s m meth c b L xs D D3 ad) (hl : lv_has lsA 7 [(0, .ref b), (1, .ref (ad 0)), (2, .ref (ad 51)), (3, .ref qo), (4, .int (nI i))]) (hL : L ≤ 2560) (hi : i + 5 ≤ L) (hce : cells ≤ room_1.cells ∧ slots ≤ room_1.slots)
    (e1 : wu_about (xs (i + 1)) (xs (i + 2)) h = some (r, h1)) (e2 : mo_about (xs (i + 1)) (xs (i + 2)) h1 = some (r, h2)) (kk : lw_G p l e0 s m below meth c b D D3 ad qo lsA cells slots 1487 [] h2) : lw_G p l e0 s m below meth c b D D3 ad qo lsA cells slots 1245 [] h := by
  refine lw_a1 hF hl rfl ?_
  refine lw_arg (j := 1) hF hl hL hi (by decide) rfl rfl rfl rfl rfl ?_
  refine lw_arg (j := 2) hF hl hL hi (by decide) rfl rfl rfl rfl rfl ?_
  refine lw_g_call (as := [.inl (xs (i + 1)), .inl (xs (i + 2))]) (a0 := 0) hF hl.1 hce (by decide) (id := 151) (hid := rfl) (hl := px_TB_of (List.mem_of_getElem? (i := 1337) rfl) rfl) (hC := wu_about_ok (d := 0) e1) rfl rfl rfl (Nat.le_of_ble_eq_true rfl) ?_
  refine lw_a2 hF hl rfl ?_
  refine lw_arg (j := 1) hF hl hL hi (by decide) rfl rfl rfl rfl rfl ?_
  refine lw_arg (j := 2) hF hl hL hi (by decide) rfl rfl rfl rfl rfl ?_
  refine lw_g_call (as := [.inl (xs (i + 1)), .inl (xs (i + 2))]) (a0 := 51) hF hl.1 hce (by decide) (id := 271) (hid := rfl) (hl := px_TB_of (List.mem_of_getElem? (i := 2098) rfl) rfl) (hC := mo_about_ok (d := 0) e2) rfl rfl rfl (Nat.le_of_ble_eq_true rfl) ?_
  exact lw_same hF rfl rfl rfl kk
set_option maxRecDepth 20000 in
theorem lw_case32 {i : Nat} {h h1 h2 : pH} {r : Int32} (hF : lw_Fix p s m meth c b L xs D D3 ad) (hl : lv_has lsA 7 [(0, .ref b), (1, .ref (ad 0)), (2, .ref (ad 51)), (3, .ref qo), (4, .int (nI i))]) (hL : L ≤ 2560) (hi : i + 5 ≤ L) (hce : cells ≤ room_1.cells ∧ slots ≤ room_1.slots)
    (e1 : wu_bargain (xs (i + 1)) (xs (i + 2)) h = some (r, h1)) (e2 : mo_bargain (xs (i + 1)) (xs (i + 2)) h1 = some (r, h2)) (kk : lw_G p l e0 s m below meth c b D D3 ad qo lsA cells slots 1487 [] h2) : lw_G p l e0 s m below meth c b D D3 ad qo lsA cells slots 1282 [] h := by
  refine lw_a1 hF hl rfl ?_
  refine lw_arg (j := 1) hF hl hL hi (by decide) rfl rfl rfl rfl rfl ?_
  refine lw_arg (j := 2) hF hl hL hi (by decide) rfl rfl rfl rfl rfl ?_
  refine lw_g_call (as := [.inl (xs (i + 1)), .inl (xs (i + 2))]) (a0 := 0) hF hl.1 hce (by decide) (id := 152) (hid := rfl) (hl := px_TB_of (List.mem_of_getElem? (i := 1354) rfl) rfl) (hC := wu_bargain_ok (d := 0) e1) rfl rfl rfl (Nat.le_of_ble_eq_true rfl) ?_
  refine lw_a2 hF hl rfl ?_
  refine lw_arg (j := 1) hF hl hL hi (by decide) rfl rfl rfl rfl rfl ?_
  refine lw_arg (j := 2) hF hl hL hi (by decide) rfl rfl rfl rfl rfl ?_
  refine lw_g_call (as := [.inl (xs (i + 1)), .inl (xs (i + 2))]) (a0 := 51) hF hl.1 hce (by decide) (id := 272) (hid := rfl) (hl := px_TB_of (List.mem_of_getElem? (i := 2102) rfl) rfl) (hC := mo_bargain_ok (d := 0) e2) rfl rfl rfl (Nat.le_of_ble_eq_true rfl) ?_
  exact lw_same hF rfl rfl rfl kk
set_option maxRecDepth 20000 in
theorem lw_case33 {i : Nat} {h h1 h2 : pH} {r : Int32} (hF : lw_Fix p s m meth c b L xs D D3 ad) (hl : lv_has lsA 7 [(0, .ref b), (1, .ref (ad 0)), (2, .ref (ad 51)), (3, .ref qo), (4, .int (nI i))]) (hL : L ≤ 2560) (hi : i + 5 ≤ L) (hce : cells ≤ room_1.cells ∧ slots ≤ room_1.slots)
    (e1 : wu_years (xs (i + 1)) (xs (i + 2)) h = some (r, h1)) (e2 : mo_years (xs (i + 1)) (xs (i + 2)) h1 = some (r, h2)) (kk : lw_G p l e0 s m below meth c b D D3 ad qo lsA cells slots 1487 [] h2) : lw_G p l e0 s m below meth c b D D3 ad qo lsA cells slots 1319 [] h := by
  refine lw_a1 hF hl rfl ?_
  refine lw_arg (j := 1) hF hl hL hi (by decide) rfl rfl rfl rfl rfl ?_
  refine lw_arg (j := 2) hF hl hL hi (by decide) rfl rfl rfl rfl rfl ?_
  refine lw_g_call (as := [.inl (xs (i + 1)), .inl (xs (i + 2))]) (a0 := 0) hF hl.1 hce (by decide) (id := 153) (hid := rfl) (hl := px_TB_of (List.mem_of_getElem? (i := 1360) rfl) rfl) (hC := wu_years_ok (d := 0) e1) rfl rfl rfl (Nat.le_of_ble_eq_true rfl) ?_
  refine lw_a2 hF hl rfl ?_
  refine lw_arg (j := 1) hF hl hL hi (by decide) rfl rfl rfl rfl rfl ?_
  refine lw_arg (j := 2) hF hl hL hi (by decide) rfl rfl rfl rfl rfl ?_
  refine lw_g_call (as := [.inl (xs (i + 1)), .inl (xs (i + 2))]) (a0 := 51) hF hl.1 hce (by decide) (id := 274) (hid := rfl) (hl := px_TB_of (List.mem_of_getElem? (i := 2106) rfl) rfl) (hC := mo_years_ok (d := 0) e2) rfl rfl rfl (Nat.le_of_ble_eq_true rfl) ?_
  exact lw_same hF rfl rfl rfl kk
set_option maxRecDepth 20000 in
theorem lw_case34 {i : Nat} {h h1 h2 : pH} {r : Int32} (hF : lw_Fix p s m meth c b L xs D D3 ad) (hl : lv_has lsA 7 [(0, .ref b), (1, .ref (ad 0)), (2, .ref (ad 51)), (3, .ref qo), (4, .int (nI i))]) (hL : L ≤ 2560) (hi : i + 5 ≤ L) (hce : cells ≤ room_1.cells ∧ slots ≤ room_1.slots)
    (e1 : wu_keep (xs (i + 1)) h = some (r, h1)) (e2 : mo_keep (xs (i + 1)) h1 = some (r, h2)) (kk : lw_G p l e0 s m below meth c b D D3 ad qo lsA cells slots 1487 [] h2) : lw_G p l e0 s m below meth c b D D3 ad qo lsA cells slots 1356 [] h := by
  refine lw_a1 hF hl rfl ?_
  refine lw_arg (j := 1) hF hl hL hi (by decide) rfl rfl rfl rfl rfl ?_
  refine lw_g_call (as := [.inl (xs (i + 1))]) (a0 := 0) hF hl.1 hce (by decide) (id := 154) (hid := rfl) (hl := px_TB_of (List.mem_of_getElem? (i := 1381) rfl) rfl) (hC := wu_keep_ok (d := 0) e1) rfl rfl rfl (Nat.le_of_ble_eq_true rfl) ?_
  refine lw_a2 hF hl rfl ?_
  refine lw_arg (j := 1) hF hl hL hi (by decide) rfl rfl rfl rfl rfl ?_
  refine lw_g_call (as := [.inl (xs (i + 1))]) (a0 := 51) hF hl.1 hce (by decide) (id := 275) (hid := rfl) (hl := px_TB_of (List.mem_of_getElem? (i := 2115) rfl) rfl) (hC := mo_keep_ok (d := 0) e2) rfl rfl rfl (Nat.le_of_ble_eq_true rfl) ?_
  exact lw_same hF rfl rfl rfl kk
set_option maxRecDepth 20000 in
theorem lw_case35 {i : Nat} {h h1 h2 : pH} {r : Int32} (hF : lw_Fix p s m meth c b L xs D D3 ad) (hl : lv_has lsA 7 [(0, .ref b), (1, .ref (ad 0)), (2, .ref (ad 51)), (3, .ref qo), (4, .int (nI i))]) (hL : L ≤ 2560) (hi : i + 5 ≤ L) (hce : cells ≤ room_1.cells ∧ slots ≤ room_1.slots)
    (e1 : wu_again (xs (i + 1)) h = some (r, h1)) (e2 : mo_again (xs (i + 1)) h1 = some (r, h2)) (kk : lw_G p l e0 s m below meth c b D D3 ad qo lsA cells slots 1487 [] h2) : lw_G p l e0 s m below meth c b D D3 ad qo lsA cells slots 1381 [] h := by
  refine lw_a1 hF hl rfl ?_
  refine lw_arg (j := 1) hF hl hL hi (by decide) rfl rfl rfl rfl rfl ?_
  refine lw_g_call (as := [.inl (xs (i + 1))]) (a0 := 0) hF hl.1 hce (by decide) (id := 155) (hid := rfl) (hl := px_TB_of (List.mem_of_getElem? (i := 1389) rfl) rfl) (hC := wu_again_ok (d := 0) e1) rfl rfl rfl (Nat.le_of_ble_eq_true rfl) ?_
  refine lw_a2 hF hl rfl ?_
  refine lw_arg (j := 1) hF hl hL hi (by decide) rfl rfl rfl rfl rfl ?_
  refine lw_g_call (as := [.inl (xs (i + 1))]) (a0 := 51) hF hl.1 hce (by decide) (id := 276) (hid := rfl) (hl := px_TB_of (List.mem_of_getElem? (i := 2119) rfl) rfl) (hC := mo_again_ok (d := 0) e2) rfl rfl rfl (Nat.le_of_ble_eq_true rfl) ?_
  exact lw_same hF rfl rfl rfl kk
set_option maxRecDepth 20000 in
theorem lw_case36 {i : Nat} {h h1 h2 : pH} {r : Int32} (hF : lw_Fix p s m meth c b L xs D D3 ad) (hl : lv_has lsA 7 [(0, .ref b), (1, .ref (ad 0)), (2, .ref (ad 51)), (3, .ref qo), (4, .int (nI i))]) (hL : L ≤ 2560) (hi : i + 5 ≤ L) (hce : cells ≤ room_1.cells ∧ slots ≤ room_1.slots)
    (e1 : wu_count (xs (i + 1)) h = some (r, h1)) (e2 : mo_count (xs (i + 1)) h1 = some (r, h2)) (kk : lw_G p l e0 s m below meth c b D D3 ad qo lsA cells slots 1487 [] h2) : lw_G p l e0 s m below meth c b D D3 ad qo lsA cells slots 1406 [] h := by
  refine lw_a1 hF hl rfl ?_
  refine lw_arg (j := 1) hF hl hL hi (by decide) rfl rfl rfl rfl rfl ?_
  refine lw_g_call (as := [.inl (xs (i + 1))]) (a0 := 0) hF hl.1 hce (by decide) (id := 156) (hid := rfl) (hl := px_TB_of (List.mem_of_getElem? (i := 1398) rfl) rfl) (hC := wu_count_ok (d := 0) e1) rfl rfl rfl (Nat.le_of_ble_eq_true rfl) ?_
  refine lw_a2 hF hl rfl ?_
  refine lw_arg (j := 1) hF hl hL hi (by decide) rfl rfl rfl rfl rfl ?_
  refine lw_g_call (as := [.inl (xs (i + 1))]) (a0 := 51) hF hl.1 hce (by decide) (id := 277) (hid := rfl) (hl := px_TB_of (List.mem_of_getElem? (i := 2123) rfl) rfl) (hC := mo_count_ok (d := 0) e2) rfl rfl rfl (Nat.le_of_ble_eq_true rfl) ?_
  exact lw_same hF rfl rfl rfl kk
end LWG
/-- what is owed of the plain functions: the answers are the same, and the invariant stays -/
def lw_B (Inv : Nat → pH → Prop) : Prop :=
  (∀ i h, i + 5 ≤ 2560 → Inv i h → ∀ v0 : Int32, ∃ r h1 h2, wu_sign v0 h = some (r, h1) ∧ mo_sign v0 h1 = some (r, h2) ∧ Inv (i + 5) h2) ∧
  (∀ i h, i + 5 ≤ 2560 → Inv i h → ∀ v0 : Int32, ∃ r h1 h2, wu_end v0 h = some (r, h1) ∧ mo_end v0 h1 = some (r, h2) ∧ Inv (i + 5) h2) ∧
  (∀ i h, i + 5 ≤ 2560 → Inv i h → ∃ r h1 h2, wu_river h = some (r, h1) ∧ mo_river h1 = some (r, h2) ∧ Inv (i + 5) h2) ∧
  (∀ i h, i + 5 ≤ 2560 → Inv i h → ∃ r h1 h2, wu_house h = some (r, h1) ∧ mo_house h1 = some (r, h2) ∧ Inv (i + 5) h2) ∧
  (∀ i h, i + 5 ≤ 2560 → Inv i h → ∃ r h1 h2, wu_rule h = some (r, h1) ∧ mo_rule h1 = some (r, h2) ∧ Inv (i + 5) h2) ∧
  (∀ i h, i + 5 ≤ 2560 → Inv i h → ∀ v0 : Int32, ∃ r h1 h2, wu_islet v0 h = some (r, h1) ∧ mo_islet v0 h1 = some (r, h2) ∧ Inv (i + 5) h2) ∧
  (∀ i h, i + 5 ≤ 2560 → Inv i h → ∀ v0 v1 : Int32, ∃ r h1 h2, wu_hold v0 v1 h = some (r, h1) ∧ mo_hold v0 v1 h1 = some (r, h2) ∧ Inv (i + 5) h2) ∧
  (∀ i h, i + 5 ≤ 2560 → Inv i h → ∀ v0 v1 v2 v3 : Int32, ∃ r h1 h2, wu_sheet v0 v1 v2 v3 h = some (r, h1) ∧ mo_sheet v0 v1 v2 v3 h1 = some (r, h2) ∧ Inv (i + 5) h2) ∧
  (∀ i h, i + 5 ≤ 2560 → Inv i h → ∀ v0 v1 v2 : Int32, ∃ r h1 h2, wu_cross v0 v1 v2 h = some (r, h1) ∧ mo_cross v0 v1 v2 h1 = some (r, h2) ∧ Inv (i + 5) h2) ∧
  (∀ i h, i + 5 ≤ 2560 → Inv i h → ∀ v0 v1 v2 : Int32, ∃ r h1 h2, wu_look v0 v1 v2 h = some (r, h1) ∧ mo_look v0 v1 v2 h1 = some (r, h2) ∧ Inv (i + 5) h2) ∧
  (∀ i h, i + 5 ≤ 2560 → Inv i h → ∀ v0 v1 : Int32, ∃ r h1 h2, wu_say v0 v1 h = some (r, h1) ∧ mo_say v0 v1 h1 = some (r, h2) ∧ Inv (i + 5) h2) ∧
  (∀ i h, i + 5 ≤ 2560 → Inv i h → ∀ v0 v1 v2 : Int32, ∃ r h1 h2, wu_whisper v0 v1 v2 h = some (r, h1) ∧ mo_whisper v0 v1 v2 h1 = some (r, h2) ∧ Inv (i + 5) h2) ∧
  (∀ i h, i + 5 ≤ 2560 → Inv i h → ∀ v0 v1 v2 : Int32, ∃ r h1 h2, wu_sell v0 v1 v2 h = some (r, h1) ∧ mo_sell v0 v1 v2 h1 = some (r, h2) ∧ Inv (i + 5) h2) ∧
  (∀ i h, i + 5 ≤ 2560 → Inv i h → ∃ r h1 h2, wu_day h = some (r, h1) ∧ mo_day h1 = some (r, h2) ∧ Inv (i + 5) h2) ∧
  (∀ i h, i + 5 ≤ 2560 → Inv i h → ∃ r h1 h2, wu_undo h = some (r, h1) ∧ mo_undo h1 = some (r, h2) ∧ Inv (i + 5) h2) ∧
  (∀ i h, i + 5 ≤ 2560 → Inv i h → ∀ v0 v1 : Int32, ∃ r h1 h2, wu_far v0 v1 h = some (r, h1) ∧ mo_far v0 v1 h1 = some (r, h2) ∧ Inv (i + 5) h2) ∧
  (∀ i h, i + 5 ≤ 2560 → Inv i h → ∀ v0 v1 : Int32, ∃ r h1 h2, wu_keeps v0 v1 h = some (r, h1) ∧ mo_keeps v0 v1 h1 = some (r, h2) ∧ Inv (i + 5) h2) ∧
  (∀ i h, i + 5 ≤ 2560 → Inv i h → ∀ v0 v1 : Int32, ∃ r h1 h2, wu_fewest v0 v1 h = some (r, h1) ∧ mo_fewest v0 v1 h1 = some (r, h2) ∧ Inv (i + 5) h2) ∧
  (∀ i h, i + 5 ≤ 2560 → Inv i h → ∀ v0 v1 : Int32, ∃ r h1 h2, wu_rows v0 v1 h = some (r, h1) ∧ mo_rows v0 v1 h1 = some (r, h2) ∧ Inv (i + 5) h2) ∧
  (∀ i h, i + 5 ≤ 2560 → Inv i h → ∀ v0 v1 : Int32, ∃ r h1 h2, wu_back v0 v1 h = some (r, h1) ∧ mo_back v0 v1 h1 = some (r, h2) ∧ Inv (i + 5) h2) ∧
  (∀ i h, i + 5 ≤ 2560 → Inv i h → ∀ v0 v1 : Int32, ∃ r h1 h2, wu_exact v0 v1 h = some (r, h1) ∧ mo_exact v0 v1 h1 = some (r, h2) ∧ Inv (i + 5) h2) ∧
  (∀ i h, i + 5 ≤ 2560 → Inv i h → ∀ v0 v1 : Int32, ∃ r h1 h2, wu_chance v0 v1 h = some (r, h1) ∧ mo_chance v0 v1 h1 = some (r, h2) ∧ Inv (i + 5) h2) ∧
  (∀ i h, i + 5 ≤ 2560 → Inv i h → ∀ v0 : Int32, ∃ r h1 h2, wu_party v0 h = some (r, h1) ∧ mo_party v0 h1 = some (r, h2) ∧ Inv (i + 5) h2) ∧
  (∀ i h, i + 5 ≤ 2560 → Inv i h → ∀ v0 v1 : Int32, ∃ r h1 h2, wu_pool v0 v1 h = some (r, h1) ∧ mo_pool v0 v1 h1 = some (r, h2) ∧ Inv (i + 5) h2) ∧
  (∀ i h, i + 5 ≤ 2560 → Inv i h → ∀ v0 : Int32, ∃ r h1 h2, wu_known v0 h = some (r, h1) ∧ mo_known v0 h1 = some (r, h2) ∧ Inv (i + 5) h2) ∧
  (∀ i h, i + 5 ≤ 2560 → Inv i h → ∀ v0 : Int32, ∃ r h1 h2, wu_sayable v0 h = some (r, h1) ∧ mo_sayable v0 h1 = some (r, h2) ∧ Inv (i + 5) h2) ∧
  (∀ i h, i + 5 ≤ 2560 → Inv i h → ∃ r h1 h2, wu_apart h = some (r, h1) ∧ mo_apart h1 = some (r, h2) ∧ Inv (i + 5) h2) ∧
  (∀ i h, i + 5 ≤ 2560 → Inv i h → ∃ r h1 h2, wu_spared h = some (r, h1) ∧ mo_spared h1 = some (r, h2) ∧ Inv (i + 5) h2) ∧
  (∀ i h, i + 5 ≤ 2560 → Inv i h → ∀ v0 v1 : Int32, ∃ r h1 h2, wu_ashore v0 v1 h = some (r, h1) ∧ mo_ashore v0 v1 h1 = some (r, h2) ∧ Inv (i + 5) h2) ∧
  (∀ i h, i + 5 ≤ 2560 → Inv i h → ∀ v0 v1 : Int32, ∃ r h1 h2, wu_about v0 v1 h = some (r, h1) ∧ mo_about v0 v1 h1 = some (r, h2) ∧ Inv (i + 5) h2) ∧
  (∀ i h, i + 5 ≤ 2560 → Inv i h → ∀ v0 v1 : Int32, ∃ r h1 h2, wu_bargain v0 v1 h = some (r, h1) ∧ mo_bargain v0 v1 h1 = some (r, h2) ∧ Inv (i + 5) h2) ∧
  (∀ i h, i + 5 ≤ 2560 → Inv i h → ∀ v0 v1 : Int32, ∃ r h1 h2, wu_years v0 v1 h = some (r, h1) ∧ mo_years v0 v1 h1 = some (r, h2) ∧ Inv (i + 5) h2) ∧
  (∀ i h, i + 5 ≤ 2560 → Inv i h → ∀ v0 : Int32, ∃ r h1 h2, wu_keep v0 h = some (r, h1) ∧ mo_keep v0 h1 = some (r, h2) ∧ Inv (i + 5) h2) ∧
  (∀ i h, i + 5 ≤ 2560 → Inv i h → ∀ v0 : Int32, ∃ r h1 h2, wu_again v0 h = some (r, h1) ∧ mo_again v0 h1 = some (r, h2) ∧ Inv (i + 5) h2) ∧
  (∀ i h, i + 5 ≤ 2560 → Inv i h → ∀ v0 : Int32, ∃ r h1 h2, wu_count v0 h = some (r, h1) ∧ mo_count v0 h1 = some (r, h2) ∧ Inv (i + 5) h2)
