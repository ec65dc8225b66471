/-! the program of the small machine (printed) -/
def pl_0 : List (Nat × Nat × Nat × Int) := [(3, 9, 0, 0), (9, 12, 167, 1), (13, 11, 0, 0), (19, 1, 0, 1), (23, 1, 0, 2), (26, 2, 71, 2), (32, 12, 318, 2), (38, 12, 316, 2), (41, 1, 7, 1)]
def pl_1 : List (Nat × Nat × Nat × Int) := [(3, 9, 0, 0), (9, 11, 1, 0), (15, 11, 1, 1), (18, 1, 1, 2), (22, 1, 1, 3), (26, 3, 7, 0), (28, 13, 70, 1), (29, 11, 1, 4), (33, 11, 1, 5), (36, 2, 71, 2), (40, 2, 79, 3), (44, 2, 31, 2), (49, 2, 34, 3), (53, 2, 7, 3), (57, 2, 10, 2), (61, 2, 32, 4), (65, 2, 73, 3), (69, 2, 14, 2), (72, 2, 72, 2)]
def pl_2 : List (Nat × Nat × Nat × Int) := [(3, 9, 0, 0), (9, 11, 2, 0), (15, 11, 2, 1), (18, 11, 2, 2), (21, 11, 2, 3), (24, 11, 2, 4), (27, 1, 2, 5), (31, 1, 2, 6), (34, 1, 2, 7), (37, 3, 6, 0), (39, 13, 59, 1), (40, 11, 2, 8), (44, 11, 2, 9), (47, 11, 2, 10), (50, 2, 60, 1), (53, 2, 14, 2), (57, 7, 0, 2000000), (60, 2, 16, 2), (64, 2, 17, 3), (68, 1, 9, 7), (73, 1, 9, 6), (76, 2, 92, 2), (79, 2, 18, 3), (82, 1, 6, 1), (85, 1, 7, 1), (90, 1, 7, 2), (93, 2, 73, 3), (97, 2, 72, 2), (100, 2, 27, 2), (103, 2, 29, 3), (107, 2, 74, 1), (111, 2, 24, 2), (114, 8, 7, 0), (117, 2, 62, 3), (121, 2, 63, 3), (124, 2, 26, 2), (127, 2, 64, 3), (130, 12, 318, 2), (135, 12, 316, 2), (138, 2, 31, 2), (142, 2, 33, 3), (146, 2, 30, 3), (149, 2, 32, 4)]
def pl_3 : List (Nat × Nat × Nat × Int) := [(3, 9, 0, 0), (9, 11, 3, 0), (15, 11, 3, 1), (19, 2, 13, 1), (24, 8, 2, 8), (28, 2, 81, 3), (34, 2, 94, 1), (39, 2, 95, 1), (43, 2, 98, 1), (47, 2, 97, 2), (51, 2, 38, 2), (55, 2, 101, 2), (59, 6, 0, 1000000), (61, 2, 106, 2), (65, 12, 39, 2), (69, 2, 107, 1), (72, 2, 44, 3), (76, 2, 40, 2), (79, 2, 41, 2), (82, 2, 42, 2), (85, 2, 43, 3), (89, 2, 111, 2), (93, 1, 2, 5), (97, 1, 2, 6), (100, 1, 2, 7), (103, 2, 16, 2), (107, 2, 24, 2), (110, 6, 0, 1000001), (112, 2, 109, 2), (116, 2, 21, 3), (119, 2, 45, 3), (122, 2, 22, 4), (126, 6, 0, 1000002), (128, 2, 23, 3), (131, 1, 6, 1), (136, 2, 84, 2), (138, 2, 25, 3), (141, 2, 110, 1), (144, 2, 20, 3), (148, 1, 9, 6), (151, 2, 96, 3), (154, 2, 19, 3)]
def pl_4 : List (Nat × Nat × Nat × Int) := [(3, 9, 0, 0), (9, 12, 167, 1), (13, 11, 4, 0), (19, 11, 4, 1), (22, 3, 7, 0), (24, 13, 70, 1), (25, 11, 4, 2), (29, 2, 71, 2), (33, 2, 48, 4), (37, 2, 31, 2), (43, 2, 49, 5), (47, 2, 34, 3), (51, 2, 14, 2), (55, 2, 72, 2), (58, 1, 2, 7), (62, 12, 318, 2), (68, 2, 73, 3), (72, 5, 0, 100), (74, 2, 51, 5), (78, 5, 0, 1000), (80, 2, 77, 1), (83, 1, 2, 6)]
def pl_5 : List (Nat × Nat × Nat × Int) := [(3, 9, 0, 0), (9, 3, 6, 0), (11, 13, 59, 1), (12, 11, 5, 2), (18, 1, 5, 3), (22, 11, 5, 0), (26, 11, 5, 1), (30, 2, 94, 1), (35, 2, 60, 1), (38, 2, 81, 3), (44, 6, 0, 1000003), (46, 2, 106, 2), (50, 2, 97, 2), (54, 2, 107, 1), (57, 2, 54, 2), (60, 2, 84, 2), (63, 2, 102, 1), (66, 2, 95, 1), (70, 2, 55, 2), (73, 6, 0, 1000004), (75, 2, 108, 2), (79, 2, 82, 2), (82, 2, 56, 2), (85, 6, 0, 1000005), (87, 6, 0, 1000006), (89, 2, 83, 2), (93, 2, 99, 2), (97, 2, 100, 1), (100, 2, 101, 2), (104, 6, 0, 1000007), (106, 1, 1, 2), (111, 2, 58, 3), (115, 12, 316, 2), (121, 12, 318, 2), (124, 8, 1, 0), (128, 2, 62, 3), (132, 2, 63, 3), (136, 2, 6, 2), (140, 1, 6, 1), (143, 2, 64, 3)]
def pl_6 : List (Nat × Nat × Nat × Int) := [(3, 9, 0, 0), (9, 11, 6, 0), (15, 1, 6, 1), (19, 11, 6, 2), (22, 1, 6, 3), (25, 11, 6, 4), (28, 11, 6, 5), (31, 12, 316, 2), (37, 2, 63, 3), (41, 2, 65, 2), (45, 2, 67, 2), (49, 2, 66, 1), (53, 2, 68, 2), (56, 12, 69, 3), (60, 4, 0, (-1000000)), (61, 4, 0, 1000000), (62, 12, 318, 2), (65, 5, 0, (-1000000)), (67, 5, 0, 1000000), (69, 12, 319, 2), (72, 12, 317, 2), (74, 12, 315, 2)]
def pl_7 : List (Nat × Nat × Nat × Int) := [(3, 9, 0, 0), (9, 11, 7, 0), (15, 1, 7, 1), (19, 1, 7, 2), (22, 12, 316, 2)]
def pl_8 : List (Nat × Nat × Nat × Int) := [(3, 9, 0, 0), (9, 1, 8, 1), (15, 1, 8, 2), (19, 11, 8, 0), (23, 2, 61, 2), (29, 2, 97, 2), (34, 2, 85, 2), (37, 2, 95, 1), (41, 2, 99, 2), (45, 2, 100, 1), (48, 2, 82, 2), (51, 2, 86, 2), (54, 2, 104, 1), (57, 2, 111, 2), (61, 2, 83, 2), (65, 2, 84, 2), (68, 2, 101, 2), (72, 2, 87, 2), (75, 6, 0, 1000008), (77, 6, 0, 1000009), (79, 2, 106, 2), (83, 7, 0, 2000001), (87, 7, 0, 2000002), (90, 2, 107, 1), (93, 2, 88, 2)]
def pl_9 : List (Nat × Nat × Nat × Int) := [(3, 9, 0, 0), (9, 11, 9, 0), (15, 1, 9, 1), (19, 1, 9, 2), (22, 1, 9, 3), (25, 1, 9, 4), (28, 1, 9, 5), (31, 1, 9, 6), (34, 1, 9, 7), (37, 2, 92, 2), (41, 2, 98, 1), (45, 2, 96, 3), (49, 2, 99, 2), (53, 2, 100, 1), (56, 2, 97, 2), (60, 12, 103, 1), (64, 2, 105, 1), (67, 21, 0, 0), (72, 22, 0, 0), (76, 2, 106, 2), (80, 2, 107, 1), (83, 2, 108, 2), (87, 6, 0, 1000010), (89, 2, 95, 1), (93, 2, 104, 1)]
def pl_10 : List (Nat × Nat × Nat × Int) := [(3, 9, 0, 0), (9, 12, 167, 1), (13, 11, 10, 0), (19, 11, 10, 1), (23, 11, 10, 2), (26, 1, 10, 3), (30, 1, 10, 4), (33, 1, 10, 5), (37, 3, 7, 0), (39, 13, 70, 1), (40, 11, 10, 6), (44, 1, 10, 7), (47, 11, 10, 8), (50, 11, 10, 9), (53, 11, 10, 10), (56, 11, 10, 11), (59, 1, 10, 12), (62, 2, 71, 2), (66, 2, 117, 4), (70, 4, 0, 1000000), (71, 2, 116, 3), (75, 2, 31, 2), (81, 20, 0, 0), (87, 2, 118, 5), (91, 2, 34, 3), (95, 2, 72, 2), (99, 2, 14, 2), (102, 1, 7, 2), (105, 2, 113, 4), (109, 2, 122, 3), (113, 2, 35, 3), (117, 2, 124, 2), (120, 12, 314, 1), (125, 12, 123, 2), (128, 2, 78, 3), (132, 2, 79, 3), (136, 12, 318, 2)]
def pl_11 : List (Nat × Nat × Nat × Int) := [(1, 9, 0, 0), (7, 3, 9, 0), (9, 13, 89, 1), (10, 11, 11, 0), (16, 3, 8, 0), (18, 13, 80, 2), (21, 11, 11, 1), (25, 3, 3, 0), (27, 13, 36, 3), (30, 11, 11, 2), (34, 3, 5, 0), (36, 13, 52, 3), (37, 11, 11, 3), (41, 3, 2, 0), (43, 13, 12, 1), (44, 1, 11, 4), (48, 1, 11, 5), (51, 12, 167, 1), (55, 11, 11, 6), (59, 3, 0, 0), (61, 13, 0, 1), (62, 11, 11, 7), (66, 3, 1, 0), (68, 13, 4, 1), (69, 11, 11, 8), (73, 3, 10, 0), (75, 13, 112, 1), (76, 11, 11, 9), (80, 3, 4, 0), (82, 13, 46, 1), (83, 11, 11, 10), (87, 11, 11, 11), (91, 1, 11, 12), (95, 1, 11, 13), (98, 11, 11, 14), (101, 1, 11, 15), (104, 11, 11, 16), (107, 1, 11, 17), (110, 1, 9, 1), (113, 2, 160, 2), (117, 2, 90, 2), (121, 2, 37, 2), (125, 2, 91, 1), (128, 2, 28, 3), (132, 2, 1, 1), (135, 1, 9, 3), (138, 1, 9, 4), (141, 2, 14, 2), (144, 1, 2, 5), (147, 1, 2, 6), (150, 1, 2, 7), (153, 2, 163, 1), (157, 1, 0, 2), (159, 2, 15, 3), (163, 2, 17, 3), (167, 2, 18, 3), (170, 2, 161, 2), (174, 2, 26, 2), (177, 1, 7, 2), (178, 14, 7, 0), (182, 2, 74, 1), (185, 2, 75, 1), (188, 2, 76, 1), (191, 2, 30, 3), (195, 2, 31, 2), (199, 2, 162, 2), (202, 2, 72, 2), (205, 2, 29, 3), (208, 2, 32, 4), (212, 2, 27, 2), (215, 2, 5, 3), (219, 2, 6, 2), (222, 1, 1, 2), (223, 12, 318, 2), (228, 2, 7, 3), (231, 1, 1, 3), (234, 2, 8, 2), (237, 2, 113, 4), (241, 2, 115, 3), (244, 2, 114, 3), (248, 1, 10, 4), (251, 2, 119, 3), (254, 1, 10, 7), (257, 12, 314, 1), (262, 2, 120, 4), (265, 2, 121, 2), (268, 2, 9, 4), (272, 2, 47, 4), (276, 2, 50, 4), (279, 2, 33, 3), (283, 2, 2, 2), (287, 2, 34, 3), (291, 2, 35, 3), (294, 2, 73, 3), (298, 2, 164, 2), (301, 2, 77, 1), (303, 2, 3, 2), (307, 2, 92, 2), (310, 2, 11, 7), (314, 5, 0, (-1000000000000000)), (316, 2, 53, 1), (319, 2, 57, 2), (323, 2, 165, 2), (326, 2, 166, 1), (329, 2, 93, 2), (332, 5, 0, 1103515245), (334, 5, 0, 12345), (336, 5, 0, 2147483647), (338, 13, 70, 1)]
def pl_12 : List (Nat × Nat × Nat × Int) := [(1, 9, 0, 0), (7, 11, 12, 0), (13, 1, 12, 8), (17, 11, 12, 9), (20, 11, 12, 10), (24, 11, 12, 11), (27, 11, 12, 12), (30, 11, 12, 13), (33, 11, 12, 14), (36, 11, 12, 15), (39, 11, 12, 16), (42, 11, 12, 17), (45, 11, 12, 18), (48, 11, 12, 19), (51, 11, 12, 20), (54, 11, 12, 21), (57, 11, 12, 22), (60, 11, 12, 23), (63, 11, 12, 24), (66, 11, 12, 25), (69, 11, 12, 26), (72, 11, 12, 27), (75, 11, 12, 28), (78, 11, 12, 30), (81, 11, 12, 31), (85, 11, 12, 32), (88, 11, 12, 33), (91, 11, 12, 34), (94, 11, 12, 35), (97, 11, 12, 36), (100, 11, 12, 37), (103, 11, 12, 39), (106, 11, 12, 41), (109, 11, 12, 45), (112, 11, 12, 47), (115, 11, 12, 48), (118, 11, 12, 49), (121, 11, 12, 51), (124, 11, 12, 55), (127, 11, 12, 56), (130, 11, 12, 57), (133, 1, 12, 60), (137, 11, 12, 63), (140, 11, 12, 64), (143, 11, 12, 65), (146, 11, 12, 66), (149, 11, 12, 67), (152, 11, 12, 68), (155, 11, 12, 69), (158, 11, 12, 70), (161, 11, 12, 71), (164, 11, 12, 72), (167, 11, 12, 73), (170, 11, 12, 74), (173, 11, 12, 75), (176, 11, 12, 76), (179, 11, 12, 77), (182, 11, 12, 78), (185, 11, 12, 79), (188, 11, 12, 80), (191, 11, 12, 81), (194, 11, 12, 82), (197, 11, 12, 84), (200, 11, 12, 88), (203, 11, 12, 92), (206, 1, 12, 1), (209, 1, 12, 5), (212, 1, 12, 6), (215, 1, 12, 2), (218, 1, 12, 3), (221, 2, 175, 1), (225, 12, 173, 1), (229, 1, 12, 4), (232, 2, 176, 2), (236, 2, 177, 2), (239, 2, 172, 3), (243, 2, 179, 2), (246, 12, 174, 1), (249, 12, 169, 3), (253, 2, 182, 1), (257, 1, 12, 29), (260, 5, 0, 27), (262, 5, 0, 97), (264, 2, 183, 1), (268, 2, 185, 3), (272, 2, 184, 4), (276, 2, 186, 1), (279, 2, 178, 2), (283, 2, 181, 3), (287, 2, 187, 2), (291, 1, 12, 40), (294, 1, 12, 42), (297, 1, 12, 43), (300, 1, 12, 44), (303, 2, 205, 1), (306, 1, 12, 38), (309, 2, 188, 2), (313, 2, 189, 2), (316, 2, 190, 1), (319, 2, 191, 2), (322, 2, 192, 3), (325, 2, 180, 2), (328, 2, 193, 1), (331, 1, 12, 7), (334, 2, 195, 1), (337, 1, 12, 58), (340, 1, 12, 61), (343, 2, 196, 2), (346, 2, 200, 2), (349, 2, 199, 1), (352, 2, 197, 3), (355, 2, 201, 1), (358, 2, 202, 1), (361, 2, 198, 2), (364, 2, 203, 1), (367, 2, 204, 1), (370, 5, 0, 1000000), (372, 5, 0, (-1000000)), (374, 1, 12, 46), (377, 12, 207, 1), (381, 2, 209, 2), (385, 12, 208, 2), (389, 2, 211, 1), (392, 2, 212, 1), (395, 2, 217, 3), (398, 2, 221, 2), (401, 2, 216, 2), (404, 2, 225, 4), (408, 2, 222, 2), (411, 2, 223, 2), (414, 5, 0, 7), (416, 5, 0, 12), (418, 2, 210, 2), (421, 5, 0, 999), (423, 2, 226, 4), (426, 2, 227, 5), (430, 2, 218, 3), (433, 2, 224, 2), (436, 2, 213, 1), (439, 2, 231, 1), (442, 5, 0, 2), (444, 5, 0, 5), (446, 2, 215, 2), (449, 2, 230, 2), (452, 2, 214, 2), (455, 5, 0, 4), (457, 1, 12, 50), (460, 2, 219, 3), (463, 2, 228, 5), (467, 5, 0, 199), (469, 2, 237, 2), (472, 5, 0, 200), (474, 2, 241, 3), (478, 2, 242, 2), (482, 1, 12, 52), (485, 1, 12, 54), (488, 2, 244, 5), (492, 1, 12, 53), (495, 2, 245, 3), (498, 2, 246, 2), (501, 12, 250, 1), (504, 2, 251, 3), (507, 2, 253, 1), (510, 2, 258, 3), (513, 2, 259, 3), (516, 2, 260, 3), (519, 2, 256, 2), (523, 2, 257, 6), (527, 5, 0, 3), (529, 2, 255, 4), (532, 2, 229, 2), (535, 5, 0, 100), (537, 2, 262, 4), (541, 5, 0, 1000), (543, 1, 12, 59), (546, 2, 266, 1), (549, 2, 264, 1), (552, 2, 220, 3), (555, 5, 0, (-1)), (557, 5, 0, 1103515245), (559, 5, 0, 12345), (561, 5, 0, 2147483648), (563, 5, 0, 64), (565, 2, 272, 2), (568, 5, 0, 20), (570, 1, 12, 62), (573, 2, 275, 3), (576, 1, 12, 83), (579, 1, 12, 86), (582, 1, 12, 85), (585, 2, 277, 2), (588, 1, 12, 87), (591, 12, 281, 1), (594, 2, 280, 1), (597, 2, 284, 1), (600, 2, 285, 3), (603, 2, 278, 3), (606, 2, 286, 2), (609, 2, 287, 1), (612, 2, 282, 1), (615, 2, 283, 1), (618, 2, 279, 2), (621, 2, 288, 1), (624, 2, 289, 1), (627, 2, 290, 1), (630, 2, 291, 1), (633, 2, 293, 1), (636, 2, 295, 1), (639, 2, 292, 1), (642, 1, 12, 89), (645, 12, 296, 1), (648, 2, 298, 2), (651, 12, 297, 2), (654, 2, 306, 2), (658, 2, 301, 4), (662, 2, 300, 3), (666, 2, 299, 2), (669, 1, 12, 90), (672, 1, 12, 91), (676, 5, 0, (-1000000000000000)), (678, 2, 303, 1), (681, 2, 294, 1), (684, 2, 302, 2), (687, 2, 304, 4), (691, 1, 12, 93), (694, 2, 308, 2), (697, 12, 307, 2), (701, 2, 311, 2)]
def pl_13 : List (Nat × Nat × Nat × Int) := [(7, 3, 11, 0), (9, 13, 125, 1), (10, 3, 12, 0), (12, 13, 168, 1), (13, 2, 126, 6), (17, 2, 170, 6), (18, 2, 127, 2), (22, 2, 171, 2), (23, 2, 128, 1), (27, 2, 194, 1), (28, 2, 129, 2), (32, 2, 206, 2), (33, 2, 130, 2), (36, 2, 232, 2), (37, 2, 131, 4), (41, 2, 233, 4), (42, 2, 132, 3), (46, 2, 234, 3), (47, 2, 133, 4), (50, 2, 235, 4), (51, 2, 134, 2), (54, 2, 236, 2), (55, 2, 135, 3), (58, 2, 238, 3), (59, 2, 136, 4), (62, 2, 239, 4), (63, 2, 137, 2), (66, 2, 240, 2), (67, 2, 138, 3), (70, 2, 243, 3), (71, 2, 139, 3), (74, 2, 247, 3), (75, 2, 140, 3), (78, 2, 248, 3), (79, 2, 141, 3), (82, 2, 249, 3), (83, 2, 142, 4), (86, 2, 252, 4), (87, 2, 143, 4), (90, 2, 254, 4), (91, 2, 144, 3), (94, 2, 261, 3), (95, 2, 145, 3), (98, 2, 263, 3), (99, 2, 146, 3), (103, 2, 267, 3), (104, 2, 147, 3), (107, 2, 268, 3), (108, 2, 148, 3), (112, 2, 269, 3), (113, 2, 149, 4), (116, 2, 270, 4), (117, 2, 150, 3), (120, 2, 273, 3), (121, 2, 151, 1), (125, 2, 265, 1), (126, 2, 152, 2), (129, 2, 271, 2), (130, 2, 153, 2), (133, 2, 274, 2), (134, 2, 154, 3), (137, 2, 276, 3), (138, 2, 155, 2), (142, 2, 305, 2), (143, 2, 156, 1), (146, 2, 309, 1), (147, 2, 157, 2), (150, 2, 310, 2), (151, 2, 158, 1), (154, 2, 312, 1), (155, 2, 159, 2), (158, 2, 313, 2)]
def pl_15 : List (Nat × Nat × Nat × Int) := [(265, 4, 0, 1431655765), (266, 4, 0, 858993459), (267, 4, 0, 252645135)]
def pg_pool : Nat → Nat → Option (Nat × Nat × Int) := fun own ix => match own with
  | 0 => pl_0.lookup ix
  | 1 => pl_1.lookup ix
  | 2 => pl_2.lookup ix
  | 3 => pl_3.lookup ix
  | 4 => pl_4.lookup ix
  | 5 => pl_5.lookup ix
  | 6 => pl_6.lookup ix
  | 7 => pl_7.lookup ix
  | 8 => pl_8.lookup ix
  | 9 => pl_9.lookup ix
  | 10 => pl_10.lookup ix
  | 11 => pl_11.lookup ix
  | 12 => pl_12.lookup ix
  | 13 => pl_13.lookup ix
  | 15 => pl_15.lookup ix
  | _ => none
def pg_ms : List am_I := [
  (0, 1, 8, 1, co_X0_init),
  (0, 1, 9, 1, co_X0_forget),
  (0, 2, 9, 2, co_X0_keep),
  (0, 2, 9, 3, co_X0_takeBack),
  (1, 1, 8, 1, co_X1_init),
  (1, 3, 9, 4, co_X1_go),
  (1, 2, 0, 2, co_X1_dreadIn),
  (1, 3, 0, 4, co_X1_weightAt),
  (1, 2, 0, 5, co_X1_firstLike),
  (1, 4, 0, 6, co_X1_goTogether),
  (1, 2, 0, 6, co_X1_heaviestOfBoth),
  (1, 7, 5, 9, co_X1_follows),
  (2, 1, 8, 1, co_X2_init),
  (2, 1, 9, 2, co_X2_clear),
  (2, 2, 0, 2, co_X2_count),
  (2, 3, 5, 3, co_X2_isThere),
  (2, 2, 5, 2, co_X2_isFull),
  (2, 3, 0, 3, co_X2_placeOf),
  (2, 3, 0, 4, co_X2_letterAt),
  (2, 3, 0, 6, co_X2_giveName),
  (2, 3, 0, 7, co_X2_findName),
  (2, 3, 9, 3, co_X2_brave),
  (2, 4, 9, 5, co_X2_fear),
  (2, 3, 9, 3, co_X2_lead),
  (2, 2, 5, 2, co_X2_hasSum),
  (2, 3, 9, 3, co_X2_markSum),
  (2, 2, 0, 2, co_X2_braveryOf),
  (2, 2, 0, 2, co_X2_dreadOf),
  (2, 3, 9, 5, co_X2_lay),
  (2, 3, 0, 4, co_X2_counts),
  (2, 3, 0, 7, co_X2_heaviest),
  (2, 2, 5, 2, co_X2_isHome),
  (2, 4, 0, 4, co_X2_becomes),
  (2, 3, 5, 3, co_X2_canEnter),
  (2, 3, 0, 6, co_X2_enter),
  (2, 3, 9, 3, co_X2_meetByDay),
  (3, 3, 8, 3, co_X3_init),
  (3, 2, 0, 3, co_X3_read),
  (3, 2, 9, 3, co_X3_readStatement),
  (3, 2, 5, 2, co_X3_isOneTooMany),
  (3, 2, 9, 3, co_X3_readDreamer),
  (3, 2, 9, 4, co_X3_readFears),
  (3, 2, 9, 3, co_X3_readGuide),
  (3, 3, 9, 4, co_X3_readSum),
  (3, 3, 0, 4, co_X3_readNewName),
  (3, 3, 0, 4, co_X3_readKnownName),
  (4, 1, 8, 1, co_X4_init),
  (4, 4, 5, 4, co_X4_canBeHome),
  (4, 4, 5, 4, co_X4_escapes),
  (4, 5, 5, 7, co_X4_bears),
  (4, 4, 0, 9, co_X4_thousandths),
  (4, 5, 1, 8, co_X4_shareHome),
  (5, 3, 8, 3, co_X5_init),
  (5, 1, 5, 1, co_X5_read),
  (5, 2, 9, 3, co_X5_readTest),
  (5, 2, 9, 3, co_X5_readBoth),
  (5, 2, 9, 3, co_X5_readFact),
  (5, 2, 1, 11, co_X5_answer),
  (5, 3, 0, 3, co_X5_valueIn),
  (6, 1, 8, 1, co_X6_init),
  (6, 1, 9, 1, co_X6_clear),
  (6, 2, 9, 2, co_X6_add),
  (6, 3, 9, 8, co_X6_see),
  (6, 3, 9, 3, co_X6_know),
  (6, 3, 0, 6, co_X6_value),
  (6, 2, 9, 2, co_X6_push),
  (6, 1, 0, 1, co_X6_pop),
  (6, 2, 0, 2, co_X6_fact),
  (6, 2, 0, 2, co_X6_weightOf),
  (6, 3, 0, 3, co_X6_join),
  (7, 1, 8, 1, co_X7_init),
  (7, 2, 9, 3, co_X7_copy),
  (7, 2, 0, 2, co_X7_at),
  (7, 3, 9, 3, co_X7_put),
  (7, 1, 0, 3, co_X7_total),
  (7, 1, 0, 3, co_X7_greatest),
  (7, 1, 0, 3, co_X7_countHeavy),
  (7, 1, 9, 2, co_X7_laugh),
  (7, 3, 5, 5, co_X7_isLike),
  (7, 3, 9, 4, co_X7_writeTo),
  (8, 2, 8, 2, co_X8_init),
  (8, 3, 9, 3, co_X8_write),
  (8, 2, 9, 2, co_X8_emit),
  (8, 2, 5, 2, co_X8_mayOpen),
  (8, 2, 9, 4, co_X8_readSum),
  (8, 2, 9, 4, co_X8_readProduct),
  (8, 2, 9, 2, co_X8_readPart),
  (8, 2, 9, 4, co_X8_readWord),
  (8, 2, 9, 2, co_X8_readPair),
  (9, 1, 8, 1, co_X9_init),
  (9, 2, 9, 3, co_X9_add),
  (9, 1, 9, 1, co_X9_wipe),
  (9, 2, 0, 2, co_X9_byteAt),
  (9, 2, 0, 2, co_X9_pairAt),
  (9, 1, 9, 1, co_X9_start),
  (9, 1, 5, 1, co_X9_failed),
  (9, 3, 9, 3, co_X9_blame),
  (9, 2, 9, 2, co_X9_blameHere),
  (9, 1, 0, 1, co_X9_look),
  (9, 2, 5, 2, co_X9_sees),
  (9, 1, 9, 1, co_X9_step),
  (9, 2, 9, 2, co_X9_demand),
  (9, 1, 9, 1, co_X9_demandEnd),
  (9, 1, 5, 1, co_X9_isDigit),
  (9, 1, 5, 1, co_X9_seesDigit),
  (9, 1, 0, 2, co_X9_wordSize),
  (9, 2, 0, 8, co_X9_wordIn),
  (9, 1, 9, 1, co_X9_skipWord),
  (9, 2, 5, 2, co_X9_takeWord),
  (9, 2, 9, 2, co_X9_demandWord),
  (9, 1, 5, 2, co_X9_takeName),
  (9, 2, 0, 5, co_X9_takeNumber),
  (10, 1, 8, 1, co_X10_init),
  (10, 4, 0, 4, co_X10_findSoonest),
  (10, 3, 0, 3, co_X10_findLeast),
  (10, 3, 0, 3, co_X10_turn),
  (10, 3, 5, 3, co_X10_isBetter),
  (10, 4, 9, 4, co_X10_seek),
  (10, 5, 9, 6, co_X10_goOn),
  (10, 3, 0, 6, co_X10_findGuide),
  (10, 4, 0, 8, co_X10_findDays),
  (10, 2, 0, 2, co_X10_metByDay),
  (10, 3, 0, 8, co_X10_setOrder),
  (10, 2, 0, 4, co_X10_lowestBit),
  (10, 2, 5, 3, co_X10_isEndKnown),
  (11, 1, 8, 1, co_X11_init),
  (11, 6, 0, 6, co_X11_feed),
  (11, 2, 5, 2, co_X11_end),
  (11, 1, 0, 4, co_X11_dream),
  (11, 2, 0, 2, co_X11_fault),
  (11, 2, 0, 2, co_X11_has),
  (11, 4, 0, 4, co_X11_letter),
  (11, 3, 0, 4, co_X11_dreamer),
  (11, 4, 0, 5, co_X11_weigh),
  (11, 2, 0, 2, co_X11_guide),
  (11, 3, 0, 3, co_X11_room),
  (11, 4, 0, 4, co_X11_later),
  (11, 2, 0, 2, co_X11_till),
  (11, 3, 0, 5, co_X11_again),
  (11, 3, 0, 4, co_X11_soonest),
  (11, 3, 0, 4, co_X11_least),
  (11, 3, 0, 4, co_X11_along),
  (11, 4, 0, 5, co_X11_days),
  (11, 4, 0, 5, co_X11_hand),
  (11, 3, 0, 3, co_X11_against),
  (11, 3, 0, 3, co_X11_chance),
  (11, 3, 0, 3, co_X11_meet),
  (11, 3, 0, 3, co_X11_day),
  (11, 3, 5, 3, co_X11_take),
  (11, 4, 0, 5, co_X11_set),
  (11, 3, 0, 6, co_X11_night),
  (11, 1, 5, 1, co_X11_undo),
  (11, 2, 5, 2, co_X11_seed),
  (11, 2, 0, 5, co_X11_told),
  (11, 3, 0, 7, co_X11_fits),
  (11, 2, 1, 3, co_X11_ask),
  (11, 1, 0, 4, co_X11_image),
  (11, 2, 0, 2, co_X11_octet),
  (11, 1, 5, 5, co_X11_on),
  (11, 2, 0, 2, co_X11_status),
  (11, 2, 0, 2, co_X11_refuse),
  (11, 2, 5, 2, co_X11_isDreamer),
  (11, 2, 5, 2, co_X11_isDread),
  (11, 1, 0, 3, co_X11_countHome),
  (11, 2, 0, 2, co_X11_draw),
  (11, 2, 9, 2, co_X11_paint),
  (11, 1, 5, 7, co_X11_isPicture),
  (11, 1, 2, 3, co_X11_newSleepers),
  (12, 1, 8, 1, co_X12_init),
  (12, 3, 5, 6, co_X12_isIn),
  (12, 6, 0, 8, co_X12_feed),
  (12, 2, 5, 2, co_X12_end),
  (12, 3, 9, 3, co_X12_fail),
  (12, 1, 5, 1, co_X12_isLetter),
  (12, 1, 5, 1, co_X12_isDigit),
  (12, 1, 0, 1, co_X12_look),
  (12, 2, 5, 4, co_X12_isHere),
  (12, 2, 5, 2, co_X12_takes),
  (12, 2, 9, 2, co_X12_asks),
  (12, 2, 5, 2, co_X12_takesSign),
  (12, 2, 9, 2, co_X12_asksSign),
  (12, 3, 0, 5, co_X12_number),
  (12, 1, 5, 2, co_X12_isOwnHere),
  (12, 1, 1, 3, co_X12_name),
  (12, 4, 5, 4, co_X12_isFull),
  (12, 3, 0, 5, co_X12_nameOf),
  (12, 1, 1, 4, co_X12_newName),
  (12, 2, 0, 5, co_X12_oneOf),
  (12, 2, 9, 4, co_X12_dreadTold),
  (12, 2, 9, 5, co_X12_dreamerTold),
  (12, 1, 9, 4, co_X12_fearsTold),
  (12, 2, 9, 5, co_X12_guideTold),
  (12, 3, 9, 3, co_X12_sumIsTold),
  (12, 1, 9, 2, co_X12_statementTold),
  (12, 1, 0, 2, co_X12_dream),
  (12, 1, 9, 3, co_X12_stands),
  (12, 2, 9, 2, co_X12_code),
  (12, 3, 9, 3, co_X12_opens),
  (12, 2, 5, 2, co_X12_isOn),
  (12, 1, 9, 1, co_X12_drops),
  (12, 2, 5, 2, co_X12_isMark),
  (12, 1, 0, 2, co_X12_waitsLast),
  (12, 1, 9, 1, co_X12_dropsToMark),
  (12, 1, 9, 5, co_X12_onePart),
  (12, 1, 5, 2, co_X12_goesOn),
  (12, 1, 9, 3, co_X12_sumsTold),
  (12, 2, 0, 2, co_X12_fault),
  (12, 1, 1, 2, co_X12_clip),
  (12, 2, 1, 6, co_X12_floor),
  (12, 2, 9, 3, co_X12_puts),
  (12, 2, 9, 6, co_X12_joins),
  (12, 1, 0, 1, co_X12_dreadMany),
  (12, 1, 0, 1, co_X12_dreamerMany),
  (12, 1, 0, 1, co_X12_guideMany),
  (12, 2, 5, 2, co_X12_isDread),
  (12, 2, 5, 2, co_X12_isDreamer),
  (12, 2, 0, 2, co_X12_settingOf),
  (12, 3, 0, 3, co_X12_weightOf),
  (12, 3, 9, 4, co_X12_laysNow),
  (12, 3, 9, 4, co_X12_laysRow),
  (12, 3, 9, 4, co_X12_isNow),
  (12, 2, 0, 4, co_X12_sumAt),
  (12, 2, 0, 4, co_X12_greatestAt),
  (12, 2, 0, 4, co_X12_manyAt),
  (12, 2, 5, 2, co_X12_isHomeAt),
  (12, 4, 0, 4, co_X12_counts),
  (12, 4, 0, 6, co_X12_worstAt),
  (12, 5, 0, 7, co_X12_made),
  (12, 5, 0, 8, co_X12_roomGoes),
  (12, 2, 9, 3, co_X12_laughs),
  (12, 2, 0, 2, co_X12_guideOf),
  (12, 1, 0, 3, co_X12_atHome),
  (12, 2, 0, 2, co_X12_has),
  (12, 4, 0, 9, co_X12_letter),
  (12, 3, 0, 4, co_X12_dreamer),
  (12, 4, 0, 4, co_X12_weigh),
  (12, 2, 0, 2, co_X12_guide),
  (12, 2, 9, 2, co_X12_goesAhead),
  (12, 3, 0, 3, co_X12_room),
  (12, 4, 0, 4, co_X12_later),
  (12, 2, 0, 2, co_X12_till),
  (12, 3, 5, 4, co_X12_areAlike),
  (12, 2, 0, 4, co_X12_comesAgain),
  (12, 3, 0, 3, co_X12_again),
  (12, 5, 5, 9, co_X12_isWay),
  (12, 3, 9, 5, co_X12_seeksSoonest),
  (12, 2, 0, 2, co_X12_wayTold),
  (12, 3, 0, 3, co_X12_soonest),
  (12, 3, 0, 6, co_X12_least),
  (12, 3, 0, 6, co_X12_along),
  (12, 1, 0, 3, co_X12_bits),
  (12, 3, 5, 6, co_X12_isOrder),
  (12, 4, 0, 8, co_X12_days),
  (12, 1, 0, 3, co_X12_worstOfTwo),
  (12, 4, 0, 7, co_X12_hand),
  (12, 4, 5, 4, co_X12_isSafe),
  (12, 2, 5, 2, co_X12_canGo),
  (12, 6, 9, 8, co_X12_answers),
  (12, 3, 5, 6, co_X12_isSafeByOne),
  (12, 3, 5, 6, co_X12_isSafeByTwo),
  (12, 3, 5, 6, co_X12_isSafeByThree),
  (12, 3, 0, 3, co_X12_against),
  (12, 4, 1, 9, co_X12_likely),
  (12, 3, 0, 8, co_X12_chance),
  (12, 1, 9, 2, co_X12_keeps),
  (12, 1, 5, 2, co_X12_undo),
  (12, 1, 0, 1, co_X12_refuses),
  (12, 3, 0, 4, co_X12_meet),
  (12, 3, 0, 3, co_X12_day),
  (12, 3, 5, 3, co_X12_take),
  (12, 4, 0, 5, co_X12_set),
  (12, 2, 5, 2, co_X12_seed),
  (12, 2, 0, 2, co_X12_drawOf),
  (12, 3, 0, 6, co_X12_night),
  (12, 2, 0, 5, co_X12_told),
  (12, 3, 5, 4, co_X12_isFitting),
  (12, 3, 0, 7, co_X12_fits),
  (12, 2, 9, 2, co_X12_qCode),
  (12, 3, 9, 3, co_X12_qOpens),
  (12, 2, 5, 2, co_X12_qIsOn),
  (12, 1, 9, 1, co_X12_qDrops),
  (12, 1, 5, 1, co_X12_qIsBracket),
  (12, 1, 0, 2, co_X12_qBracket),
  (12, 1, 9, 1, co_X12_qDropsToBracket),
  (12, 1, 0, 1, co_X12_qWordHere),
  (12, 3, 0, 4, co_X12_qWordOf),
  (12, 2, 9, 2, co_X12_qAsksWord),
  (12, 1, 9, 1, co_X12_qEndsPart),
  (12, 1, 9, 6, co_X12_qPartTold),
  (12, 1, 5, 2, co_X12_qGoesOn),
  (12, 1, 9, 3, co_X12_qSums),
  (12, 1, 9, 2, co_X12_qFact),
  (12, 1, 5, 2, co_X12_qHasSquare),
  (12, 1, 9, 1, co_X12_qDropsNots),
  (12, 1, 9, 3, co_X12_qTest),
  (12, 1, 5, 1, co_X12_qGoesOnTest),
  (12, 1, 1, 2, co_X12_qClip),
  (12, 2, 1, 6, co_X12_qFloor),
  (12, 2, 9, 3, co_X12_qPuts),
  (12, 2, 9, 6, co_X12_qJoins),
  (12, 3, 1, 3, co_X12_qPartOf),
  (12, 4, 1, 5, co_X12_qOf),
  (12, 2, 1, 4, co_X12_qTold),
  (12, 1, 0, 2, co_X12_qKind),
  (12, 4, 9, 6, co_X12_qTakes),
  (12, 2, 1, 4, co_X12_ask),
  (12, 2, 1, 2, co_X12_worstOf),
  (12, 2, 0, 4, co_X12_checked),
  (12, 2, 9, 2, co_X12_writes),
  (12, 1, 0, 3, co_X12_image),
  (12, 2, 0, 2, co_X12_octet),
  (12, 2, 5, 5, co_X12_isTold),
  (12, 1, 5, 5, co_X12_on),
  (12, 2, 0, 2, co_X12_status),
  (15, 1, 0, 1, co_J6_bitCount_0f7a4),
  (14, 2, 0, 3, co_J9_floorDiv_7cf53),
  (14, 2, 0, 2, co_J9_max_7cf53),
  (14, 2, 1, 4, co_J9_max_f86c9),
  (14, 2, 0, 2, co_J9_min_7cf53),
  (14, 2, 1, 4, co_J9_min_f86c9)]
def pg_tags : List (List Nat) := [[2, 0, 0], [2, 2, 0, 5, 2, 2], [2, 2, 2, 2, 2, 0, 0, 0, 2, 2, 2], [2, 2], [2, 2, 2], [2, 2, 2, 0], [2, 0, 2, 0, 2, 2], [2, 0, 0], [2, 2, 5], [2, 0, 0, 0, 0, 0, 0, 0], [2, 2, 2, 0, 0, 5, 2, 0, 2, 2, 2, 2, 0], [2, 2, 2, 2, 2, 2, 2, 2, 2, 2, 2, 2, 0, 0, 2, 0, 2, 0], [2, 0, 0, 0, 0, 0, 0, 0, 0, 2, 2, 2, 2, 2, 2, 2, 2, 2, 2, 2, 2, 2, 2, 2, 2, 2, 2, 2, 2, 0, 2, 2, 2, 2, 2, 2, 2, 2, 0, 2, 0, 2, 0, 0, 0, 2, 0, 2, 2, 2, 0, 2, 0, 0, 0, 2, 2, 2, 0, 0, 1, 0, 0, 2, 2, 2, 2, 2, 2, 2, 2, 2, 2, 2, 2, 2, 2, 2, 2, 2, 2, 2, 2, 0, 2, 0, 0, 0, 2, 0, 1, 5, 2, 0]]
def pg_offs : List (List (Option Int)) := [[some 1, none, none], [some 1, some 2, none, none, some 3, some 5], [some 1, some 2, some 3, some 4, some 5, none, none, none, some 6, some 11, some 12], [some (-3), some (-1)], [some 1, some 10, some 19], [some (-4), some (-2), some 1, none], [some 1, none, some 2, none, some 3, some 4], [some 1, none, none], [some (-2), none, none], [some 1, none, none, none, none, none, none, none], [some 1, some 24, some 25, none, none, none, some 26, none, some 28, some 30, some 31, some 32, none], [some 1, some 3, some 4, some 5, none, none, some 37, some 46, some 88, some 95, some 128, some 149, none, none, some 150, none, some 151, none], [some 1, none, none, none, none, none, none, none, none, some 2, some 3, some 4, some 5, some 6, some 7, some 8, some 9, some 10, some 11, some 12, some 13, some 14, some 15, some 16, some 17, some 18, some 19, some 20, some 21, none, some 22, some 23, some 24, some 25, some 26, some 27, some 28, some 29, none, some 30, none, some 31, none, none, none, some 32, none, some 33, some 34, some 35, none, some 36, none, none, none, some 37, some 38, some 39, none, none, none, none, none, some 40, some 41, some 42, some 43, some 44, some 45, some 46, some 47, some 48, some 49, some 50, some 51, some 52, some 53, some 54, some 55, some 56, some 57, some 58, some 59, none, some 60, none, none, none, some 61, none, none, none, some 62, none]]
def pg_texts : List (List Int) := [[100, 114, 101, 97, 100, 32, 100, 114, 101, 97, 109, 101, 114, 32, 102, 101, 97, 114, 115, 32, 103, 117, 105, 100, 101, 32, 109, 101, 101, 116, 32, 115, 104, 117, 110, 32, 98, 121, 100, 97, 121, 32, 104, 111, 109, 101, 32, 108, 97, 117, 103, 104, 32, 115, 112, 105, 116, 101],
  [98, 114, 97, 118, 101],
  [111, 102],
  [102, 105, 114, 115, 116, 32, 108, 97, 115, 116, 32, 111, 102, 116, 101, 110, 32, 116, 111, 116, 97, 108, 32, 109, 111, 115, 116, 32, 108, 101, 97, 115, 116],
  [111, 114],
  [97, 110, 100],
  [110, 111, 116],
  [97, 108, 108],
  [114, 111, 111, 109, 32, 100, 114, 101, 97, 100, 32, 119, 111, 114, 115, 116, 32, 115, 117, 109, 32, 109, 97, 110, 121, 32, 119, 101, 105, 103, 104, 32, 109, 105, 110, 32, 109, 97, 120],
  [119, 101, 105, 103, 104, 32, 119, 111, 114, 115, 116, 32, 115, 117, 109, 32, 109, 97, 110, 121, 32, 110, 117, 109, 98, 101, 114, 32, 98, 114, 97, 118, 101, 32, 109, 105, 110, 32, 109, 97, 120],
  [100, 114, 101, 97, 100, 32, 100, 114, 101, 97, 109, 101, 114, 32, 98, 114, 97, 118, 101, 32, 102, 101, 97, 114, 115, 32, 103, 117, 105, 100, 101, 32, 111, 102, 32, 109, 101, 101, 116, 32, 115, 104, 117, 110, 32, 98, 121, 100, 97, 121, 32, 104, 111, 109, 101, 32, 108, 97, 117, 103, 104, 32, 115, 112, 105, 116, 101, 32, 119, 101, 105, 103, 104, 32, 119, 111, 114, 115, 116, 32, 115, 117, 109, 32, 109, 97, 110, 121, 32, 110, 117, 109, 98, 101, 114, 32, 109, 105, 110, 32, 109, 97, 120]]
def pg_stl : List Nat := [4, 8, 8]
def pg_len : Int → Option Nat := fun a => if a < 2000000 then none else pg_stl[(a - 2000000).toNat]?
def pg_str : Int → List Int := fun a => if a < 1000000 then [] else if 2000000 ≤ a then [] else pg_texts.getD (a - 1000000).toNat []
def pg_tag : Nat → Int → Nat := fun ci f => (pg_tags.getD ci []).getD f.toNat 0
def pg_nf : Nat → Nat := fun ci => (pg_tags.getD ci []).length
def pg_off : Nat → Int → Option Int := fun ci f => (pg_offs.getD ci []).getD f.toNat none
/-- the program while cells are made, and behind that -/
def pg0 : am_P := (pg_pool, fun k => pg_ms[k]?, pg_tag, pg_nf, pg_len, pg_str, fun _ _ => none, false)
def pg : am_P := (pg_pool, fun k => pg_ms[k]?, pg_tag, pg_nf, pg_len, pg_str, pg_off, true)
/-- the cells that there are behind the constructors -/
def sh_T : am_S := [(0, 11, 18), (0, 9, 8), (1, 0, 1600), (0, 8, 3), (0, 3, 2), (0, 5, 4), (0, 6, 6), (1, 0, 1600), (1, 0, 64), (1, 0, 7), (1, 0, 6), (0, 2, 11), (1, 0, 84), (1, 0, 3), (1, 0, 4), (1, 0, 24), (1, 0, 4), (0, 6, 6), (1, 0, 1600), (1, 0, 64), (1, 0, 7), (1, 0, 6), (1, 0, 3), (1, 0, 3), (0, 2, 11), (1, 0, 84), (1, 0, 3), (1, 0, 4), (1, 0, 24), (1, 0, 4), (0, 6, 6), (1, 0, 1600), (1, 0, 64), (1, 0, 7), (1, 0, 6), (1, 0, 3), (1, 0, 3), (4, 7, 4), (0, 7, 3), (1, 0, 6), (0, 7, 3), (1, 0, 6), (0, 7, 3), (1, 0, 6), (0, 7, 3), (1, 0, 6), (0, 0, 3), (4, 7, 20), (0, 7, 3), (1, 0, 6), (0, 7, 3), (1, 0, 6), (0, 7, 3), (1, 0, 6), (0, 7, 3), (1, 0, 6), (0, 7, 3), (1, 0, 6), (0, 7, 3), (1, 0, 6), (0, 7, 3), (1, 0, 6), (0, 7, 3), (1, 0, 6), (0, 7, 3), (1, 0, 6), (0, 7, 3), (1, 0, 6), (0, 7, 3), (1, 0, 6), (0, 7, 3), (1, 0, 6), (0, 7, 3), (1, 0, 6), (0, 7, 3), (1, 0, 6), (0, 7, 3), (1, 0, 6), (0, 7, 3), (1, 0, 6), (0, 7, 3), (1, 0, 6), (0, 7, 3), (1, 0, 6), (0, 7, 3), (1, 0, 6), (0, 7, 3), (1, 0, 6), (0, 1, 6), (1, 0, 1206), (1, 0, 200), (0, 7, 3), (1, 0, 6), (0, 7, 3), (1, 0, 6), (0, 10, 13), (4, 7, 11), (0, 7, 3), (1, 0, 6), (0, 7, 3), (1, 0, 6), (0, 7, 3), (1, 0, 6), (0, 7, 3), (1, 0, 6), (0, 7, 3), (1, 0, 6), (0, 7, 3), (1, 0, 6), (0, 7, 3), (1, 0, 6), (0, 7, 3), (1, 0, 6), (0, 7, 3), (1, 0, 6), (0, 7, 3), (1, 0, 6), (0, 7, 3), (1, 0, 6), (1, 0, 10), (1, 0, 10), (0, 7, 3), (1, 0, 6), (0, 7, 3), (1, 0, 6), (1, 0, 4), (1, 0, 4), (1, 0, 144), (0, 4, 3), (4, 7, 4), (0, 7, 3), (1, 0, 6), (0, 7, 3), (1, 0, 6), (0, 7, 3), (1, 0, 6), (0, 7, 3), (1, 0, 6), (4, 7, 4), (0, 7, 3), (1, 0, 6), (0, 7, 3), (1, 0, 6), (0, 7, 3), (1, 0, 6), (0, 7, 3), (1, 0, 6), (0, 7, 3), (1, 0, 6), (1, 0, 20), (1, 0, 53), (1, 0, 6), (0, 12, 94), (1, 0, 1600), (1, 0, 6), (2, 0, 5), (2, 0, 7), (2, 0, 5), (2, 0, 5), (2, 0, 5), (2, 0, 2), (2, 0, 4), (2, 0, 4), (2, 0, 5), (2, 0, 4), (2, 0, 5), (2, 0, 5), (2, 0, 5), (2, 0, 5), (2, 0, 3), (2, 0, 4), (2, 0, 6), (2, 0, 3), (2, 0, 3), (1, 0, 6), (3, 0, 36), (1, 0, 8), (1, 0, 24), (1, 0, 8), (1, 0, 6), (1, 0, 6), (1, 0, 6), (1, 0, 3200), (1, 0, 1700), (3, 0, 1700), (1, 0, 6), (1, 0, 28), (1, 0, 1500), (1, 0, 200), (1, 0, 4), (1, 0, 4), (1, 0, 560), (1, 0, 20), (2, 0, 5), (2, 0, 4), (2, 0, 5), (2, 0, 5), (2, 0, 4), (2, 0, 5), (2, 0, 3), (2, 0, 3), (2, 0, 2), (2, 0, 3), (2, 0, 3), (2, 0, 3), (2, 0, 4), (2, 0, 5), (2, 0, 5), (2, 0, 3), (2, 0, 4), (2, 0, 5), (1, 0, 1700), (1, 0, 1700), (3, 0, 1700), (1, 0, 53)]
set_option maxRecDepth 20000 in
theorem pm_X0_init : pg.2.1 0 = some (0, 1, 8, 1, co_X0_init) := rfl
set_option maxRecDepth 20000 in
theorem pm_X0_forget : pg.2.1 1 = some (0, 1, 9, 1, co_X0_forget) := rfl
set_option maxRecDepth 20000 in
theorem pm_X0_keep : pg.2.1 2 = some (0, 2, 9, 2, co_X0_keep) := rfl
set_option maxRecDepth 20000 in
theorem pm_X0_takeBack : pg.2.1 3 = some (0, 2, 9, 3, co_X0_takeBack) := rfl
set_option maxRecDepth 20000 in
theorem pm_X1_init : pg.2.1 4 = some (1, 1, 8, 1, co_X1_init) := rfl
set_option maxRecDepth 20000 in
theorem pm_X1_go : pg.2.1 5 = some (1, 3, 9, 4, co_X1_go) := rfl
set_option maxRecDepth 20000 in
theorem pm_X1_dreadIn : pg.2.1 6 = some (1, 2, 0, 2, co_X1_dreadIn) := rfl
set_option maxRecDepth 20000 in
theorem pm_X1_weightAt : pg.2.1 7 = some (1, 3, 0, 4, co_X1_weightAt) := rfl
set_option maxRecDepth 20000 in
theorem pm_X1_firstLike : pg.2.1 8 = some (1, 2, 0, 5, co_X1_firstLike) := rfl
set_option maxRecDepth 20000 in
theorem pm_X1_goTogether : pg.2.1 9 = some (1, 4, 0, 6, co_X1_goTogether) := rfl
set_option maxRecDepth 20000 in
theorem pm_X1_heaviestOfBoth : pg.2.1 10 = some (1, 2, 0, 6, co_X1_heaviestOfBoth) := rfl
set_option maxRecDepth 20000 in
theorem pm_X1_follows : pg.2.1 11 = some (1, 7, 5, 9, co_X1_follows) := rfl
set_option maxRecDepth 20000 in
theorem pm_X2_init : pg.2.1 12 = some (2, 1, 8, 1, co_X2_init) := rfl
set_option maxRecDepth 20000 in
theorem pm_X2_clear : pg.2.1 13 = some (2, 1, 9, 2, co_X2_clear) := rfl
set_option maxRecDepth 20000 in
theorem pm_X2_count : pg.2.1 14 = some (2, 2, 0, 2, co_X2_count) := rfl
set_option maxRecDepth 20000 in
theorem pm_X2_isThere : pg.2.1 15 = some (2, 3, 5, 3, co_X2_isThere) := rfl
set_option maxRecDepth 20000 in
theorem pm_X2_isFull : pg.2.1 16 = some (2, 2, 5, 2, co_X2_isFull) := rfl
set_option maxRecDepth 20000 in
theorem pm_X2_placeOf : pg.2.1 17 = some (2, 3, 0, 3, co_X2_placeOf) := rfl
set_option maxRecDepth 20000 in
theorem pm_X2_letterAt : pg.2.1 18 = some (2, 3, 0, 4, co_X2_letterAt) := rfl
set_option maxRecDepth 20000 in
theorem pm_X2_giveName : pg.2.1 19 = some (2, 3, 0, 6, co_X2_giveName) := rfl
set_option maxRecDepth 20000 in
theorem pm_X2_findName : pg.2.1 20 = some (2, 3, 0, 7, co_X2_findName) := rfl
set_option maxRecDepth 20000 in
theorem pm_X2_brave : pg.2.1 21 = some (2, 3, 9, 3, co_X2_brave) := rfl
set_option maxRecDepth 20000 in
theorem pm_X2_fear : pg.2.1 22 = some (2, 4, 9, 5, co_X2_fear) := rfl
set_option maxRecDepth 20000 in
theorem pm_X2_lead : pg.2.1 23 = some (2, 3, 9, 3, co_X2_lead) := rfl
set_option maxRecDepth 20000 in
theorem pm_X2_hasSum : pg.2.1 24 = some (2, 2, 5, 2, co_X2_hasSum) := rfl
set_option maxRecDepth 20000 in
theorem pm_X2_markSum : pg.2.1 25 = some (2, 3, 9, 3, co_X2_markSum) := rfl
set_option maxRecDepth 20000 in
theorem pm_X2_braveryOf : pg.2.1 26 = some (2, 2, 0, 2, co_X2_braveryOf) := rfl
set_option maxRecDepth 20000 in
theorem pm_X2_dreadOf : pg.2.1 27 = some (2, 2, 0, 2, co_X2_dreadOf) := rfl
set_option maxRecDepth 20000 in
theorem pm_X2_lay : pg.2.1 28 = some (2, 3, 9, 5, co_X2_lay) := rfl
set_option maxRecDepth 20000 in
theorem pm_X2_counts : pg.2.1 29 = some (2, 3, 0, 4, co_X2_counts) := rfl
set_option maxRecDepth 20000 in
theorem pm_X2_heaviest : pg.2.1 30 = some (2, 3, 0, 7, co_X2_heaviest) := rfl
set_option maxRecDepth 20000 in
theorem pm_X2_isHome : pg.2.1 31 = some (2, 2, 5, 2, co_X2_isHome) := rfl
set_option maxRecDepth 20000 in
theorem pm_X2_becomes : pg.2.1 32 = some (2, 4, 0, 4, co_X2_becomes) := rfl
set_option maxRecDepth 20000 in
theorem pm_X2_canEnter : pg.2.1 33 = some (2, 3, 5, 3, co_X2_canEnter) := rfl
set_option maxRecDepth 20000 in
theorem pm_X2_enter : pg.2.1 34 = some (2, 3, 0, 6, co_X2_enter) := rfl
set_option maxRecDepth 20000 in
theorem pm_X2_meetByDay : pg.2.1 35 = some (2, 3, 9, 3, co_X2_meetByDay) := rfl
set_option maxRecDepth 20000 in
theorem pm_X3_init : pg.2.1 36 = some (3, 3, 8, 3, co_X3_init) := rfl
set_option maxRecDepth 20000 in
theorem pm_X3_read : pg.2.1 37 = some (3, 2, 0, 3, co_X3_read) := rfl
set_option maxRecDepth 20000 in
theorem pm_X3_readStatement : pg.2.1 38 = some (3, 2, 9, 3, co_X3_readStatement) := rfl
set_option maxRecDepth 20000 in
theorem pm_X3_isOneTooMany : pg.2.1 39 = some (3, 2, 5, 2, co_X3_isOneTooMany) := rfl
set_option maxRecDepth 20000 in
theorem pm_X3_readDreamer : pg.2.1 40 = some (3, 2, 9, 3, co_X3_readDreamer) := rfl
set_option maxRecDepth 20000 in
theorem pm_X3_readFears : pg.2.1 41 = some (3, 2, 9, 4, co_X3_readFears) := rfl
set_option maxRecDepth 20000 in
theorem pm_X3_readGuide : pg.2.1 42 = some (3, 2, 9, 3, co_X3_readGuide) := rfl
set_option maxRecDepth 20000 in
theorem pm_X3_readSum : pg.2.1 43 = some (3, 3, 9, 4, co_X3_readSum) := rfl
set_option maxRecDepth 20000 in
theorem pm_X3_readNewName : pg.2.1 44 = some (3, 3, 0, 4, co_X3_readNewName) := rfl
set_option maxRecDepth 20000 in
theorem pm_X3_readKnownName : pg.2.1 45 = some (3, 3, 0, 4, co_X3_readKnownName) := rfl
set_option maxRecDepth 20000 in
theorem pm_X4_init : pg.2.1 46 = some (4, 1, 8, 1, co_X4_init) := rfl
set_option maxRecDepth 20000 in
theorem pm_X4_canBeHome : pg.2.1 47 = some (4, 4, 5, 4, co_X4_canBeHome) := rfl
set_option maxRecDepth 20000 in
theorem pm_X4_escapes : pg.2.1 48 = some (4, 4, 5, 4, co_X4_escapes) := rfl
set_option maxRecDepth 20000 in
theorem pm_X4_bears : pg.2.1 49 = some (4, 5, 5, 7, co_X4_bears) := rfl
set_option maxRecDepth 20000 in
theorem pm_X4_thousandths : pg.2.1 50 = some (4, 4, 0, 9, co_X4_thousandths) := rfl
set_option maxRecDepth 20000 in
theorem pm_X4_shareHome : pg.2.1 51 = some (4, 5, 1, 8, co_X4_shareHome) := rfl
set_option maxRecDepth 20000 in
theorem pm_X5_init : pg.2.1 52 = some (5, 3, 8, 3, co_X5_init) := rfl
set_option maxRecDepth 20000 in
theorem pm_X5_read : pg.2.1 53 = some (5, 1, 5, 1, co_X5_read) := rfl
set_option maxRecDepth 20000 in
theorem pm_X5_readTest : pg.2.1 54 = some (5, 2, 9, 3, co_X5_readTest) := rfl
set_option maxRecDepth 20000 in
theorem pm_X5_readBoth : pg.2.1 55 = some (5, 2, 9, 3, co_X5_readBoth) := rfl
set_option maxRecDepth 20000 in
theorem pm_X5_readFact : pg.2.1 56 = some (5, 2, 9, 3, co_X5_readFact) := rfl
set_option maxRecDepth 20000 in
theorem pm_X5_answer : pg.2.1 57 = some (5, 2, 1, 11, co_X5_answer) := rfl
set_option maxRecDepth 20000 in
theorem pm_X5_valueIn : pg.2.1 58 = some (5, 3, 0, 3, co_X5_valueIn) := rfl
set_option maxRecDepth 20000 in
theorem pm_X6_init : pg.2.1 59 = some (6, 1, 8, 1, co_X6_init) := rfl
set_option maxRecDepth 20000 in
theorem pm_X6_clear : pg.2.1 60 = some (6, 1, 9, 1, co_X6_clear) := rfl
set_option maxRecDepth 20000 in
theorem pm_X6_add : pg.2.1 61 = some (6, 2, 9, 2, co_X6_add) := rfl
set_option maxRecDepth 20000 in
theorem pm_X6_see : pg.2.1 62 = some (6, 3, 9, 8, co_X6_see) := rfl
set_option maxRecDepth 20000 in
theorem pm_X6_know : pg.2.1 63 = some (6, 3, 9, 3, co_X6_know) := rfl
set_option maxRecDepth 20000 in
theorem pm_X6_value : pg.2.1 64 = some (6, 3, 0, 6, co_X6_value) := rfl
set_option maxRecDepth 20000 in
theorem pm_X6_push : pg.2.1 65 = some (6, 2, 9, 2, co_X6_push) := rfl
set_option maxRecDepth 20000 in
theorem pm_X6_pop : pg.2.1 66 = some (6, 1, 0, 1, co_X6_pop) := rfl
set_option maxRecDepth 20000 in
theorem pm_X6_fact : pg.2.1 67 = some (6, 2, 0, 2, co_X6_fact) := rfl
set_option maxRecDepth 20000 in
theorem pm_X6_weightOf : pg.2.1 68 = some (6, 2, 0, 2, co_X6_weightOf) := rfl
set_option maxRecDepth 20000 in
theorem pm_X6_join : pg.2.1 69 = some (6, 3, 0, 3, co_X6_join) := rfl
set_option maxRecDepth 20000 in
theorem pm_X7_init : pg.2.1 70 = some (7, 1, 8, 1, co_X7_init) := rfl
set_option maxRecDepth 20000 in
theorem pm_X7_copy : pg.2.1 71 = some (7, 2, 9, 3, co_X7_copy) := rfl
set_option maxRecDepth 20000 in
theorem pm_X7_at : pg.2.1 72 = some (7, 2, 0, 2, co_X7_at) := rfl
set_option maxRecDepth 20000 in
theorem pm_X7_put : pg.2.1 73 = some (7, 3, 9, 3, co_X7_put) := rfl
set_option maxRecDepth 20000 in
theorem pm_X7_total : pg.2.1 74 = some (7, 1, 0, 3, co_X7_total) := rfl
set_option maxRecDepth 20000 in
theorem pm_X7_greatest : pg.2.1 75 = some (7, 1, 0, 3, co_X7_greatest) := rfl
set_option maxRecDepth 20000 in
theorem pm_X7_countHeavy : pg.2.1 76 = some (7, 1, 0, 3, co_X7_countHeavy) := rfl
set_option maxRecDepth 20000 in
theorem pm_X7_laugh : pg.2.1 77 = some (7, 1, 9, 2, co_X7_laugh) := rfl
set_option maxRecDepth 20000 in
theorem pm_X7_isLike : pg.2.1 78 = some (7, 3, 5, 5, co_X7_isLike) := rfl
set_option maxRecDepth 20000 in
theorem pm_X7_writeTo : pg.2.1 79 = some (7, 3, 9, 4, co_X7_writeTo) := rfl
set_option maxRecDepth 20000 in
theorem pm_X8_init : pg.2.1 80 = some (8, 2, 8, 2, co_X8_init) := rfl
set_option maxRecDepth 20000 in
theorem pm_X8_write : pg.2.1 81 = some (8, 3, 9, 3, co_X8_write) := rfl
set_option maxRecDepth 20000 in
theorem pm_X8_emit : pg.2.1 82 = some (8, 2, 9, 2, co_X8_emit) := rfl
set_option maxRecDepth 20000 in
theorem pm_X8_mayOpen : pg.2.1 83 = some (8, 2, 5, 2, co_X8_mayOpen) := rfl
set_option maxRecDepth 20000 in
theorem pm_X8_readSum : pg.2.1 84 = some (8, 2, 9, 4, co_X8_readSum) := rfl
set_option maxRecDepth 20000 in
theorem pm_X8_readProduct : pg.2.1 85 = some (8, 2, 9, 4, co_X8_readProduct) := rfl
set_option maxRecDepth 20000 in
theorem pm_X8_readPart : pg.2.1 86 = some (8, 2, 9, 2, co_X8_readPart) := rfl
set_option maxRecDepth 20000 in
theorem pm_X8_readWord : pg.2.1 87 = some (8, 2, 9, 4, co_X8_readWord) := rfl
set_option maxRecDepth 20000 in
theorem pm_X8_readPair : pg.2.1 88 = some (8, 2, 9, 2, co_X8_readPair) := rfl
set_option maxRecDepth 20000 in
theorem pm_X9_init : pg.2.1 89 = some (9, 1, 8, 1, co_X9_init) := rfl
set_option maxRecDepth 20000 in
theorem pm_X9_add : pg.2.1 90 = some (9, 2, 9, 3, co_X9_add) := rfl
set_option maxRecDepth 20000 in
theorem pm_X9_wipe : pg.2.1 91 = some (9, 1, 9, 1, co_X9_wipe) := rfl
set_option maxRecDepth 20000 in
theorem pm_X9_byteAt : pg.2.1 92 = some (9, 2, 0, 2, co_X9_byteAt) := rfl
set_option maxRecDepth 20000 in
theorem pm_X9_pairAt : pg.2.1 93 = some (9, 2, 0, 2, co_X9_pairAt) := rfl
set_option maxRecDepth 20000 in
theorem pm_X9_start : pg.2.1 94 = some (9, 1, 9, 1, co_X9_start) := rfl
set_option maxRecDepth 20000 in
theorem pm_X9_failed : pg.2.1 95 = some (9, 1, 5, 1, co_X9_failed) := rfl
set_option maxRecDepth 20000 in
theorem pm_X9_blame : pg.2.1 96 = some (9, 3, 9, 3, co_X9_blame) := rfl
set_option maxRecDepth 20000 in
theorem pm_X9_blameHere : pg.2.1 97 = some (9, 2, 9, 2, co_X9_blameHere) := rfl
set_option maxRecDepth 20000 in
theorem pm_X9_look : pg.2.1 98 = some (9, 1, 0, 1, co_X9_look) := rfl
set_option maxRecDepth 20000 in
theorem pm_X9_sees : pg.2.1 99 = some (9, 2, 5, 2, co_X9_sees) := rfl
set_option maxRecDepth 20000 in
theorem pm_X9_step : pg.2.1 100 = some (9, 1, 9, 1, co_X9_step) := rfl
set_option maxRecDepth 20000 in
theorem pm_X9_demand : pg.2.1 101 = some (9, 2, 9, 2, co_X9_demand) := rfl
set_option maxRecDepth 20000 in
theorem pm_X9_demandEnd : pg.2.1 102 = some (9, 1, 9, 1, co_X9_demandEnd) := rfl
set_option maxRecDepth 20000 in
theorem pm_X9_isDigit : pg.2.1 103 = some (9, 1, 5, 1, co_X9_isDigit) := rfl
set_option maxRecDepth 20000 in
theorem pm_X9_seesDigit : pg.2.1 104 = some (9, 1, 5, 1, co_X9_seesDigit) := rfl
set_option maxRecDepth 20000 in
theorem pm_X9_wordSize : pg.2.1 105 = some (9, 1, 0, 2, co_X9_wordSize) := rfl
set_option maxRecDepth 20000 in
theorem pm_X9_wordIn : pg.2.1 106 = some (9, 2, 0, 8, co_X9_wordIn) := rfl
set_option maxRecDepth 20000 in
theorem pm_X9_skipWord : pg.2.1 107 = some (9, 1, 9, 1, co_X9_skipWord) := rfl
set_option maxRecDepth 20000 in
theorem pm_X9_takeWord : pg.2.1 108 = some (9, 2, 5, 2, co_X9_takeWord) := rfl
set_option maxRecDepth 20000 in
theorem pm_X9_demandWord : pg.2.1 109 = some (9, 2, 9, 2, co_X9_demandWord) := rfl
set_option maxRecDepth 20000 in
theorem pm_X9_takeName : pg.2.1 110 = some (9, 1, 5, 2, co_X9_takeName) := rfl
set_option maxRecDepth 20000 in
theorem pm_X9_takeNumber : pg.2.1 111 = some (9, 2, 0, 5, co_X9_takeNumber) := rfl
set_option maxRecDepth 20000 in
theorem pm_X10_init : pg.2.1 112 = some (10, 1, 8, 1, co_X10_init) := rfl
set_option maxRecDepth 20000 in
theorem pm_X10_findSoonest : pg.2.1 113 = some (10, 4, 0, 4, co_X10_findSoonest) := rfl
set_option maxRecDepth 20000 in
theorem pm_X10_findLeast : pg.2.1 114 = some (10, 3, 0, 3, co_X10_findLeast) := rfl
set_option maxRecDepth 20000 in
theorem pm_X10_turn : pg.2.1 115 = some (10, 3, 0, 3, co_X10_turn) := rfl
set_option maxRecDepth 20000 in
theorem pm_X10_isBetter : pg.2.1 116 = some (10, 3, 5, 3, co_X10_isBetter) := rfl
set_option maxRecDepth 20000 in
theorem pm_X10_seek : pg.2.1 117 = some (10, 4, 9, 4, co_X10_seek) := rfl
set_option maxRecDepth 20000 in
theorem pm_X10_goOn : pg.2.1 118 = some (10, 5, 9, 6, co_X10_goOn) := rfl
set_option maxRecDepth 20000 in
theorem pm_X10_findGuide : pg.2.1 119 = some (10, 3, 0, 6, co_X10_findGuide) := rfl
set_option maxRecDepth 20000 in
theorem pm_X10_findDays : pg.2.1 120 = some (10, 4, 0, 8, co_X10_findDays) := rfl
set_option maxRecDepth 20000 in
theorem pm_X10_metByDay : pg.2.1 121 = some (10, 2, 0, 2, co_X10_metByDay) := rfl
set_option maxRecDepth 20000 in
theorem pm_X10_setOrder : pg.2.1 122 = some (10, 3, 0, 8, co_X10_setOrder) := rfl
set_option maxRecDepth 20000 in
theorem pm_X10_lowestBit : pg.2.1 123 = some (10, 2, 0, 4, co_X10_lowestBit) := rfl
set_option maxRecDepth 20000 in
theorem pm_X10_isEndKnown : pg.2.1 124 = some (10, 2, 5, 3, co_X10_isEndKnown) := rfl
set_option maxRecDepth 20000 in
theorem pm_X11_init : pg.2.1 125 = some (11, 1, 8, 1, co_X11_init) := rfl
set_option maxRecDepth 20000 in
theorem pm_X11_feed : pg.2.1 126 = some (11, 6, 0, 6, co_X11_feed) := rfl
set_option maxRecDepth 20000 in
theorem pm_X11_end : pg.2.1 127 = some (11, 2, 5, 2, co_X11_end) := rfl
set_option maxRecDepth 20000 in
theorem pm_X11_dream : pg.2.1 128 = some (11, 1, 0, 4, co_X11_dream) := rfl
set_option maxRecDepth 20000 in
theorem pm_X11_fault : pg.2.1 129 = some (11, 2, 0, 2, co_X11_fault) := rfl
set_option maxRecDepth 20000 in
theorem pm_X11_has : pg.2.1 130 = some (11, 2, 0, 2, co_X11_has) := rfl
set_option maxRecDepth 20000 in
theorem pm_X11_letter : pg.2.1 131 = some (11, 4, 0, 4, co_X11_letter) := rfl
set_option maxRecDepth 20000 in
theorem pm_X11_dreamer : pg.2.1 132 = some (11, 3, 0, 4, co_X11_dreamer) := rfl
set_option maxRecDepth 20000 in
theorem pm_X11_weigh : pg.2.1 133 = some (11, 4, 0, 5, co_X11_weigh) := rfl
set_option maxRecDepth 20000 in
theorem pm_X11_guide : pg.2.1 134 = some (11, 2, 0, 2, co_X11_guide) := rfl
set_option maxRecDepth 20000 in
theorem pm_X11_room : pg.2.1 135 = some (11, 3, 0, 3, co_X11_room) := rfl
set_option maxRecDepth 20000 in
theorem pm_X11_later : pg.2.1 136 = some (11, 4, 0, 4, co_X11_later) := rfl
set_option maxRecDepth 20000 in
theorem pm_X11_till : pg.2.1 137 = some (11, 2, 0, 2, co_X11_till) := rfl
set_option maxRecDepth 20000 in
theorem pm_X11_again : pg.2.1 138 = some (11, 3, 0, 5, co_X11_again) := rfl
set_option maxRecDepth 20000 in
theorem pm_X11_soonest : pg.2.1 139 = some (11, 3, 0, 4, co_X11_soonest) := rfl
set_option maxRecDepth 20000 in
theorem pm_X11_least : pg.2.1 140 = some (11, 3, 0, 4, co_X11_least) := rfl
set_option maxRecDepth 20000 in
theorem pm_X11_along : pg.2.1 141 = some (11, 3, 0, 4, co_X11_along) := rfl
set_option maxRecDepth 20000 in
theorem pm_X11_days : pg.2.1 142 = some (11, 4, 0, 5, co_X11_days) := rfl
set_option maxRecDepth 20000 in
theorem pm_X11_hand : pg.2.1 143 = some (11, 4, 0, 5, co_X11_hand) := rfl
set_option maxRecDepth 20000 in
theorem pm_X11_against : pg.2.1 144 = some (11, 3, 0, 3, co_X11_against) := rfl
set_option maxRecDepth 20000 in
theorem pm_X11_chance : pg.2.1 145 = some (11, 3, 0, 3, co_X11_chance) := rfl
set_option maxRecDepth 20000 in
theorem pm_X11_meet : pg.2.1 146 = some (11, 3, 0, 3, co_X11_meet) := rfl
set_option maxRecDepth 20000 in
theorem pm_X11_day : pg.2.1 147 = some (11, 3, 0, 3, co_X11_day) := rfl
set_option maxRecDepth 20000 in
theorem pm_X11_take : pg.2.1 148 = some (11, 3, 5, 3, co_X11_take) := rfl
set_option maxRecDepth 20000 in
theorem pm_X11_set : pg.2.1 149 = some (11, 4, 0, 5, co_X11_set) := rfl
set_option maxRecDepth 20000 in
theorem pm_X11_night : pg.2.1 150 = some (11, 3, 0, 6, co_X11_night) := rfl
set_option maxRecDepth 20000 in
theorem pm_X11_undo : pg.2.1 151 = some (11, 1, 5, 1, co_X11_undo) := rfl
set_option maxRecDepth 20000 in
theorem pm_X11_seed : pg.2.1 152 = some (11, 2, 5, 2, co_X11_seed) := rfl
set_option maxRecDepth 20000 in
theorem pm_X11_told : pg.2.1 153 = some (11, 2, 0, 5, co_X11_told) := rfl
set_option maxRecDepth 20000 in
theorem pm_X11_fits : pg.2.1 154 = some (11, 3, 0, 7, co_X11_fits) := rfl
set_option maxRecDepth 20000 in
theorem pm_X11_ask : pg.2.1 155 = some (11, 2, 1, 3, co_X11_ask) := rfl
set_option maxRecDepth 20000 in
theorem pm_X11_image : pg.2.1 156 = some (11, 1, 0, 4, co_X11_image) := rfl
set_option maxRecDepth 20000 in
theorem pm_X11_octet : pg.2.1 157 = some (11, 2, 0, 2, co_X11_octet) := rfl
set_option maxRecDepth 20000 in
theorem pm_X11_on : pg.2.1 158 = some (11, 1, 5, 5, co_X11_on) := rfl
set_option maxRecDepth 20000 in
theorem pm_X11_status : pg.2.1 159 = some (11, 2, 0, 2, co_X11_status) := rfl
set_option maxRecDepth 20000 in
theorem pm_X11_refuse : pg.2.1 160 = some (11, 2, 0, 2, co_X11_refuse) := rfl
set_option maxRecDepth 20000 in
theorem pm_X11_isDreamer : pg.2.1 161 = some (11, 2, 5, 2, co_X11_isDreamer) := rfl
set_option maxRecDepth 20000 in
theorem pm_X11_isDread : pg.2.1 162 = some (11, 2, 5, 2, co_X11_isDread) := rfl
set_option maxRecDepth 20000 in
theorem pm_X11_countHome : pg.2.1 163 = some (11, 1, 0, 3, co_X11_countHome) := rfl
set_option maxRecDepth 20000 in
theorem pm_X11_draw : pg.2.1 164 = some (11, 2, 0, 2, co_X11_draw) := rfl
set_option maxRecDepth 20000 in
theorem pm_X11_paint : pg.2.1 165 = some (11, 2, 9, 2, co_X11_paint) := rfl
set_option maxRecDepth 20000 in
theorem pm_X11_isPicture : pg.2.1 166 = some (11, 1, 5, 7, co_X11_isPicture) := rfl
set_option maxRecDepth 20000 in
theorem pm_X11_newSleepers : pg.2.1 167 = some (11, 1, 2, 3, co_X11_newSleepers) := rfl
set_option maxRecDepth 20000 in
theorem pm_X12_init : pg.2.1 168 = some (12, 1, 8, 1, co_X12_init) := rfl
set_option maxRecDepth 20000 in
theorem pm_X12_isIn : pg.2.1 169 = some (12, 3, 5, 6, co_X12_isIn) := rfl
set_option maxRecDepth 20000 in
theorem pm_X12_feed : pg.2.1 170 = some (12, 6, 0, 8, co_X12_feed) := rfl
set_option maxRecDepth 20000 in
theorem pm_X12_end : pg.2.1 171 = some (12, 2, 5, 2, co_X12_end) := rfl
set_option maxRecDepth 20000 in
theorem pm_X12_fail : pg.2.1 172 = some (12, 3, 9, 3, co_X12_fail) := rfl
set_option maxRecDepth 20000 in
theorem pm_X12_isLetter : pg.2.1 173 = some (12, 1, 5, 1, co_X12_isLetter) := rfl
set_option maxRecDepth 20000 in
theorem pm_X12_isDigit : pg.2.1 174 = some (12, 1, 5, 1, co_X12_isDigit) := rfl
set_option maxRecDepth 20000 in
theorem pm_X12_look : pg.2.1 175 = some (12, 1, 0, 1, co_X12_look) := rfl
set_option maxRecDepth 20000 in
theorem pm_X12_isHere : pg.2.1 176 = some (12, 2, 5, 4, co_X12_isHere) := rfl
set_option maxRecDepth 20000 in
theorem pm_X12_takes : pg.2.1 177 = some (12, 2, 5, 2, co_X12_takes) := rfl
set_option maxRecDepth 20000 in
theorem pm_X12_asks : pg.2.1 178 = some (12, 2, 9, 2, co_X12_asks) := rfl
set_option maxRecDepth 20000 in
theorem pm_X12_takesSign : pg.2.1 179 = some (12, 2, 5, 2, co_X12_takesSign) := rfl
set_option maxRecDepth 20000 in
theorem pm_X12_asksSign : pg.2.1 180 = some (12, 2, 9, 2, co_X12_asksSign) := rfl
set_option maxRecDepth 20000 in
theorem pm_X12_number : pg.2.1 181 = some (12, 3, 0, 5, co_X12_number) := rfl
set_option maxRecDepth 20000 in
theorem pm_X12_isOwnHere : pg.2.1 182 = some (12, 1, 5, 2, co_X12_isOwnHere) := rfl
set_option maxRecDepth 20000 in
theorem pm_X12_name : pg.2.1 183 = some (12, 1, 1, 3, co_X12_name) := rfl
set_option maxRecDepth 20000 in
theorem pm_X12_isFull : pg.2.1 184 = some (12, 4, 5, 4, co_X12_isFull) := rfl
set_option maxRecDepth 20000 in
theorem pm_X12_nameOf : pg.2.1 185 = some (12, 3, 0, 5, co_X12_nameOf) := rfl
set_option maxRecDepth 20000 in
theorem pm_X12_newName : pg.2.1 186 = some (12, 1, 1, 4, co_X12_newName) := rfl
set_option maxRecDepth 20000 in
theorem pm_X12_oneOf : pg.2.1 187 = some (12, 2, 0, 5, co_X12_oneOf) := rfl
set_option maxRecDepth 20000 in
theorem pm_X12_dreadTold : pg.2.1 188 = some (12, 2, 9, 4, co_X12_dreadTold) := rfl
set_option maxRecDepth 20000 in
theorem pm_X12_dreamerTold : pg.2.1 189 = some (12, 2, 9, 5, co_X12_dreamerTold) := rfl
set_option maxRecDepth 20000 in
theorem pm_X12_fearsTold : pg.2.1 190 = some (12, 1, 9, 4, co_X12_fearsTold) := rfl
set_option maxRecDepth 20000 in
theorem pm_X12_guideTold : pg.2.1 191 = some (12, 2, 9, 5, co_X12_guideTold) := rfl
set_option maxRecDepth 20000 in
theorem pm_X12_sumIsTold : pg.2.1 192 = some (12, 3, 9, 3, co_X12_sumIsTold) := rfl
set_option maxRecDepth 20000 in
theorem pm_X12_statementTold : pg.2.1 193 = some (12, 1, 9, 2, co_X12_statementTold) := rfl
set_option maxRecDepth 20000 in
theorem pm_X12_dream : pg.2.1 194 = some (12, 1, 0, 2, co_X12_dream) := rfl
set_option maxRecDepth 20000 in
theorem pm_X12_stands : pg.2.1 195 = some (12, 1, 9, 3, co_X12_stands) := rfl
set_option maxRecDepth 20000 in
theorem pm_X12_code : pg.2.1 196 = some (12, 2, 9, 2, co_X12_code) := rfl
set_option maxRecDepth 20000 in
theorem pm_X12_opens : pg.2.1 197 = some (12, 3, 9, 3, co_X12_opens) := rfl
set_option maxRecDepth 20000 in
theorem pm_X12_isOn : pg.2.1 198 = some (12, 2, 5, 2, co_X12_isOn) := rfl
set_option maxRecDepth 20000 in
theorem pm_X12_drops : pg.2.1 199 = some (12, 1, 9, 1, co_X12_drops) := rfl
set_option maxRecDepth 20000 in
theorem pm_X12_isMark : pg.2.1 200 = some (12, 2, 5, 2, co_X12_isMark) := rfl
set_option maxRecDepth 20000 in
theorem pm_X12_waitsLast : pg.2.1 201 = some (12, 1, 0, 2, co_X12_waitsLast) := rfl
set_option maxRecDepth 20000 in
theorem pm_X12_dropsToMark : pg.2.1 202 = some (12, 1, 9, 1, co_X12_dropsToMark) := rfl
set_option maxRecDepth 20000 in
theorem pm_X12_onePart : pg.2.1 203 = some (12, 1, 9, 5, co_X12_onePart) := rfl
set_option maxRecDepth 20000 in
theorem pm_X12_goesOn : pg.2.1 204 = some (12, 1, 5, 2, co_X12_goesOn) := rfl
set_option maxRecDepth 20000 in
theorem pm_X12_sumsTold : pg.2.1 205 = some (12, 1, 9, 3, co_X12_sumsTold) := rfl
set_option maxRecDepth 20000 in
theorem pm_X12_fault : pg.2.1 206 = some (12, 2, 0, 2, co_X12_fault) := rfl
set_option maxRecDepth 20000 in
theorem pm_X12_clip : pg.2.1 207 = some (12, 1, 1, 2, co_X12_clip) := rfl
set_option maxRecDepth 20000 in
theorem pm_X12_floor : pg.2.1 208 = some (12, 2, 1, 6, co_X12_floor) := rfl
set_option maxRecDepth 20000 in
theorem pm_X12_puts : pg.2.1 209 = some (12, 2, 9, 3, co_X12_puts) := rfl
set_option maxRecDepth 20000 in
theorem pm_X12_joins : pg.2.1 210 = some (12, 2, 9, 6, co_X12_joins) := rfl
set_option maxRecDepth 20000 in
theorem pm_X12_dreadMany : pg.2.1 211 = some (12, 1, 0, 1, co_X12_dreadMany) := rfl
set_option maxRecDepth 20000 in
theorem pm_X12_dreamerMany : pg.2.1 212 = some (12, 1, 0, 1, co_X12_dreamerMany) := rfl
set_option maxRecDepth 20000 in
theorem pm_X12_guideMany : pg.2.1 213 = some (12, 1, 0, 1, co_X12_guideMany) := rfl
set_option maxRecDepth 20000 in
theorem pm_X12_isDread : pg.2.1 214 = some (12, 2, 5, 2, co_X12_isDread) := rfl
set_option maxRecDepth 20000 in
theorem pm_X12_isDreamer : pg.2.1 215 = some (12, 2, 5, 2, co_X12_isDreamer) := rfl
set_option maxRecDepth 20000 in
theorem pm_X12_settingOf : pg.2.1 216 = some (12, 2, 0, 2, co_X12_settingOf) := rfl
set_option maxRecDepth 20000 in
theorem pm_X12_weightOf : pg.2.1 217 = some (12, 3, 0, 3, co_X12_weightOf) := rfl
set_option maxRecDepth 20000 in
theorem pm_X12_laysNow : pg.2.1 218 = some (12, 3, 9, 4, co_X12_laysNow) := rfl
set_option maxRecDepth 20000 in
theorem pm_X12_laysRow : pg.2.1 219 = some (12, 3, 9, 4, co_X12_laysRow) := rfl
set_option maxRecDepth 20000 in
theorem pm_X12_isNow : pg.2.1 220 = some (12, 3, 9, 4, co_X12_isNow) := rfl
set_option maxRecDepth 20000 in
theorem pm_X12_sumAt : pg.2.1 221 = some (12, 2, 0, 4, co_X12_sumAt) := rfl
set_option maxRecDepth 20000 in
theorem pm_X12_greatestAt : pg.2.1 222 = some (12, 2, 0, 4, co_X12_greatestAt) := rfl
set_option maxRecDepth 20000 in
theorem pm_X12_manyAt : pg.2.1 223 = some (12, 2, 0, 4, co_X12_manyAt) := rfl
set_option maxRecDepth 20000 in
theorem pm_X12_isHomeAt : pg.2.1 224 = some (12, 2, 5, 2, co_X12_isHomeAt) := rfl
set_option maxRecDepth 20000 in
theorem pm_X12_counts : pg.2.1 225 = some (12, 4, 0, 4, co_X12_counts) := rfl
set_option maxRecDepth 20000 in
theorem pm_X12_worstAt : pg.2.1 226 = some (12, 4, 0, 6, co_X12_worstAt) := rfl
set_option maxRecDepth 20000 in
theorem pm_X12_made : pg.2.1 227 = some (12, 5, 0, 7, co_X12_made) := rfl
set_option maxRecDepth 20000 in
theorem pm_X12_roomGoes : pg.2.1 228 = some (12, 5, 0, 8, co_X12_roomGoes) := rfl
set_option maxRecDepth 20000 in
theorem pm_X12_laughs : pg.2.1 229 = some (12, 2, 9, 3, co_X12_laughs) := rfl
set_option maxRecDepth 20000 in
theorem pm_X12_guideOf : pg.2.1 230 = some (12, 2, 0, 2, co_X12_guideOf) := rfl
set_option maxRecDepth 20000 in
theorem pm_X12_atHome : pg.2.1 231 = some (12, 1, 0, 3, co_X12_atHome) := rfl
set_option maxRecDepth 20000 in
theorem pm_X12_has : pg.2.1 232 = some (12, 2, 0, 2, co_X12_has) := rfl
set_option maxRecDepth 20000 in
theorem pm_X12_letter : pg.2.1 233 = some (12, 4, 0, 9, co_X12_letter) := rfl
set_option maxRecDepth 20000 in
theorem pm_X12_dreamer : pg.2.1 234 = some (12, 3, 0, 4, co_X12_dreamer) := rfl
set_option maxRecDepth 20000 in
theorem pm_X12_weigh : pg.2.1 235 = some (12, 4, 0, 4, co_X12_weigh) := rfl
set_option maxRecDepth 20000 in
theorem pm_X12_guide : pg.2.1 236 = some (12, 2, 0, 2, co_X12_guide) := rfl
set_option maxRecDepth 20000 in
theorem pm_X12_goesAhead : pg.2.1 237 = some (12, 2, 9, 2, co_X12_goesAhead) := rfl
set_option maxRecDepth 20000 in
theorem pm_X12_room : pg.2.1 238 = some (12, 3, 0, 3, co_X12_room) := rfl
set_option maxRecDepth 20000 in
theorem pm_X12_later : pg.2.1 239 = some (12, 4, 0, 4, co_X12_later) := rfl
set_option maxRecDepth 20000 in
theorem pm_X12_till : pg.2.1 240 = some (12, 2, 0, 2, co_X12_till) := rfl
set_option maxRecDepth 20000 in
theorem pm_X12_areAlike : pg.2.1 241 = some (12, 3, 5, 4, co_X12_areAlike) := rfl
set_option maxRecDepth 20000 in
theorem pm_X12_comesAgain : pg.2.1 242 = some (12, 2, 0, 4, co_X12_comesAgain) := rfl
set_option maxRecDepth 20000 in
theorem pm_X12_again : pg.2.1 243 = some (12, 3, 0, 3, co_X12_again) := rfl
set_option maxRecDepth 20000 in
theorem pm_X12_isWay : pg.2.1 244 = some (12, 5, 5, 9, co_X12_isWay) := rfl
set_option maxRecDepth 20000 in
theorem pm_X12_seeksSoonest : pg.2.1 245 = some (12, 3, 9, 5, co_X12_seeksSoonest) := rfl
set_option maxRecDepth 20000 in
theorem pm_X12_wayTold : pg.2.1 246 = some (12, 2, 0, 2, co_X12_wayTold) := rfl
set_option maxRecDepth 20000 in
theorem pm_X12_soonest : pg.2.1 247 = some (12, 3, 0, 3, co_X12_soonest) := rfl
set_option maxRecDepth 20000 in
theorem pm_X12_least : pg.2.1 248 = some (12, 3, 0, 6, co_X12_least) := rfl
set_option maxRecDepth 20000 in
theorem pm_X12_along : pg.2.1 249 = some (12, 3, 0, 6, co_X12_along) := rfl
set_option maxRecDepth 20000 in
theorem pm_X12_bits : pg.2.1 250 = some (12, 1, 0, 3, co_X12_bits) := rfl
set_option maxRecDepth 20000 in
theorem pm_X12_isOrder : pg.2.1 251 = some (12, 3, 5, 6, co_X12_isOrder) := rfl
set_option maxRecDepth 20000 in
theorem pm_X12_days : pg.2.1 252 = some (12, 4, 0, 8, co_X12_days) := rfl
set_option maxRecDepth 20000 in
theorem pm_X12_worstOfTwo : pg.2.1 253 = some (12, 1, 0, 3, co_X12_worstOfTwo) := rfl
set_option maxRecDepth 20000 in
theorem pm_X12_hand : pg.2.1 254 = some (12, 4, 0, 7, co_X12_hand) := rfl
set_option maxRecDepth 20000 in
theorem pm_X12_isSafe : pg.2.1 255 = some (12, 4, 5, 4, co_X12_isSafe) := rfl
set_option maxRecDepth 20000 in
theorem pm_X12_canGo : pg.2.1 256 = some (12, 2, 5, 2, co_X12_canGo) := rfl
set_option maxRecDepth 20000 in
theorem pm_X12_answers : pg.2.1 257 = some (12, 6, 9, 8, co_X12_answers) := rfl
set_option maxRecDepth 20000 in
theorem pm_X12_isSafeByOne : pg.2.1 258 = some (12, 3, 5, 6, co_X12_isSafeByOne) := rfl
set_option maxRecDepth 20000 in
theorem pm_X12_isSafeByTwo : pg.2.1 259 = some (12, 3, 5, 6, co_X12_isSafeByTwo) := rfl
set_option maxRecDepth 20000 in
theorem pm_X12_isSafeByThree : pg.2.1 260 = some (12, 3, 5, 6, co_X12_isSafeByThree) := rfl
set_option maxRecDepth 20000 in
theorem pm_X12_against : pg.2.1 261 = some (12, 3, 0, 3, co_X12_against) := rfl
set_option maxRecDepth 20000 in
theorem pm_X12_likely : pg.2.1 262 = some (12, 4, 1, 9, co_X12_likely) := rfl
set_option maxRecDepth 20000 in
theorem pm_X12_chance : pg.2.1 263 = some (12, 3, 0, 8, co_X12_chance) := rfl
set_option maxRecDepth 20000 in
theorem pm_X12_keeps : pg.2.1 264 = some (12, 1, 9, 2, co_X12_keeps) := rfl
set_option maxRecDepth 20000 in
theorem pm_X12_undo : pg.2.1 265 = some (12, 1, 5, 2, co_X12_undo) := rfl
set_option maxRecDepth 20000 in
theorem pm_X12_refuses : pg.2.1 266 = some (12, 1, 0, 1, co_X12_refuses) := rfl
set_option maxRecDepth 20000 in
theorem pm_X12_meet : pg.2.1 267 = some (12, 3, 0, 4, co_X12_meet) := rfl
set_option maxRecDepth 20000 in
theorem pm_X12_day : pg.2.1 268 = some (12, 3, 0, 3, co_X12_day) := rfl
set_option maxRecDepth 20000 in
theorem pm_X12_take : pg.2.1 269 = some (12, 3, 5, 3, co_X12_take) := rfl
set_option maxRecDepth 20000 in
theorem pm_X12_set : pg.2.1 270 = some (12, 4, 0, 5, co_X12_set) := rfl
set_option maxRecDepth 20000 in
theorem pm_X12_seed : pg.2.1 271 = some (12, 2, 5, 2, co_X12_seed) := rfl
set_option maxRecDepth 20000 in
theorem pm_X12_drawOf : pg.2.1 272 = some (12, 2, 0, 2, co_X12_drawOf) := rfl
set_option maxRecDepth 20000 in
theorem pm_X12_night : pg.2.1 273 = some (12, 3, 0, 6, co_X12_night) := rfl
set_option maxRecDepth 20000 in
theorem pm_X12_told : pg.2.1 274 = some (12, 2, 0, 5, co_X12_told) := rfl
set_option maxRecDepth 20000 in
theorem pm_X12_isFitting : pg.2.1 275 = some (12, 3, 5, 4, co_X12_isFitting) := rfl
set_option maxRecDepth 20000 in
theorem pm_X12_fits : pg.2.1 276 = some (12, 3, 0, 7, co_X12_fits) := rfl
set_option maxRecDepth 20000 in
theorem pm_X12_qCode : pg.2.1 277 = some (12, 2, 9, 2, co_X12_qCode) := rfl
set_option maxRecDepth 20000 in
theorem pm_X12_qOpens : pg.2.1 278 = some (12, 3, 9, 3, co_X12_qOpens) := rfl
set_option maxRecDepth 20000 in
theorem pm_X12_qIsOn : pg.2.1 279 = some (12, 2, 5, 2, co_X12_qIsOn) := rfl
set_option maxRecDepth 20000 in
theorem pm_X12_qDrops : pg.2.1 280 = some (12, 1, 9, 1, co_X12_qDrops) := rfl
set_option maxRecDepth 20000 in
theorem pm_X12_qIsBracket : pg.2.1 281 = some (12, 1, 5, 1, co_X12_qIsBracket) := rfl
set_option maxRecDepth 20000 in
theorem pm_X12_qBracket : pg.2.1 282 = some (12, 1, 0, 2, co_X12_qBracket) := rfl
set_option maxRecDepth 20000 in
theorem pm_X12_qDropsToBracket : pg.2.1 283 = some (12, 1, 9, 1, co_X12_qDropsToBracket) := rfl
set_option maxRecDepth 20000 in
theorem pm_X12_qWordHere : pg.2.1 284 = some (12, 1, 0, 1, co_X12_qWordHere) := rfl
set_option maxRecDepth 20000 in
theorem pm_X12_qWordOf : pg.2.1 285 = some (12, 3, 0, 4, co_X12_qWordOf) := rfl
set_option maxRecDepth 20000 in
theorem pm_X12_qAsksWord : pg.2.1 286 = some (12, 2, 9, 2, co_X12_qAsksWord) := rfl
set_option maxRecDepth 20000 in
theorem pm_X12_qEndsPart : pg.2.1 287 = some (12, 1, 9, 1, co_X12_qEndsPart) := rfl
set_option maxRecDepth 20000 in
theorem pm_X12_qPartTold : pg.2.1 288 = some (12, 1, 9, 6, co_X12_qPartTold) := rfl
set_option maxRecDepth 20000 in
theorem pm_X12_qGoesOn : pg.2.1 289 = some (12, 1, 5, 2, co_X12_qGoesOn) := rfl
set_option maxRecDepth 20000 in
theorem pm_X12_qSums : pg.2.1 290 = some (12, 1, 9, 3, co_X12_qSums) := rfl
set_option maxRecDepth 20000 in
theorem pm_X12_qFact : pg.2.1 291 = some (12, 1, 9, 2, co_X12_qFact) := rfl
set_option maxRecDepth 20000 in
theorem pm_X12_qHasSquare : pg.2.1 292 = some (12, 1, 5, 2, co_X12_qHasSquare) := rfl
set_option maxRecDepth 20000 in
theorem pm_X12_qDropsNots : pg.2.1 293 = some (12, 1, 9, 1, co_X12_qDropsNots) := rfl
set_option maxRecDepth 20000 in
theorem pm_X12_qTest : pg.2.1 294 = some (12, 1, 9, 3, co_X12_qTest) := rfl
set_option maxRecDepth 20000 in
theorem pm_X12_qGoesOnTest : pg.2.1 295 = some (12, 1, 5, 1, co_X12_qGoesOnTest) := rfl
set_option maxRecDepth 20000 in
theorem pm_X12_qClip : pg.2.1 296 = some (12, 1, 1, 2, co_X12_qClip) := rfl
set_option maxRecDepth 20000 in
theorem pm_X12_qFloor : pg.2.1 297 = some (12, 2, 1, 6, co_X12_qFloor) := rfl
set_option maxRecDepth 20000 in
theorem pm_X12_qPuts : pg.2.1 298 = some (12, 2, 9, 3, co_X12_qPuts) := rfl
set_option maxRecDepth 20000 in
theorem pm_X12_qJoins : pg.2.1 299 = some (12, 2, 9, 6, co_X12_qJoins) := rfl
set_option maxRecDepth 20000 in
theorem pm_X12_qPartOf : pg.2.1 300 = some (12, 3, 1, 3, co_X12_qPartOf) := rfl
set_option maxRecDepth 20000 in
theorem pm_X12_qOf : pg.2.1 301 = some (12, 4, 1, 5, co_X12_qOf) := rfl
set_option maxRecDepth 20000 in
theorem pm_X12_qTold : pg.2.1 302 = some (12, 2, 1, 4, co_X12_qTold) := rfl
set_option maxRecDepth 20000 in
theorem pm_X12_qKind : pg.2.1 303 = some (12, 1, 0, 2, co_X12_qKind) := rfl
set_option maxRecDepth 20000 in
theorem pm_X12_qTakes : pg.2.1 304 = some (12, 4, 9, 6, co_X12_qTakes) := rfl
set_option maxRecDepth 20000 in
theorem pm_X12_ask : pg.2.1 305 = some (12, 2, 1, 4, co_X12_ask) := rfl
set_option maxRecDepth 20000 in
theorem pm_X12_worstOf : pg.2.1 306 = some (12, 2, 1, 2, co_X12_worstOf) := rfl
set_option maxRecDepth 20000 in
theorem pm_X12_checked : pg.2.1 307 = some (12, 2, 0, 4, co_X12_checked) := rfl
set_option maxRecDepth 20000 in
theorem pm_X12_writes : pg.2.1 308 = some (12, 2, 9, 2, co_X12_writes) := rfl
set_option maxRecDepth 20000 in
theorem pm_X12_image : pg.2.1 309 = some (12, 1, 0, 3, co_X12_image) := rfl
set_option maxRecDepth 20000 in
theorem pm_X12_octet : pg.2.1 310 = some (12, 2, 0, 2, co_X12_octet) := rfl
set_option maxRecDepth 20000 in
theorem pm_X12_isTold : pg.2.1 311 = some (12, 2, 5, 5, co_X12_isTold) := rfl
set_option maxRecDepth 20000 in
theorem pm_X12_on : pg.2.1 312 = some (12, 1, 5, 5, co_X12_on) := rfl
set_option maxRecDepth 20000 in
theorem pm_X12_status : pg.2.1 313 = some (12, 2, 0, 2, co_X12_status) := rfl
set_option maxRecDepth 20000 in
theorem pm_J6_bitCount_0f7a4 : pg.2.1 314 = some (15, 1, 0, 1, co_J6_bitCount_0f7a4) := rfl
set_option maxRecDepth 20000 in
theorem pm_J9_floorDiv_7cf53 : pg.2.1 315 = some (14, 2, 0, 3, co_J9_floorDiv_7cf53) := rfl
set_option maxRecDepth 20000 in
theorem pm_J9_max_7cf53 : pg.2.1 316 = some (14, 2, 0, 2, co_J9_max_7cf53) := rfl
set_option maxRecDepth 20000 in
theorem pm_J9_max_f86c9 : pg.2.1 317 = some (14, 2, 1, 4, co_J9_max_f86c9) := rfl
set_option maxRecDepth 20000 in
theorem pm_J9_min_7cf53 : pg.2.1 318 = some (14, 2, 0, 2, co_J9_min_7cf53) := rfl
set_option maxRecDepth 20000 in
theorem pm_J9_min_f86c9 : pg.2.1 319 = some (14, 2, 1, 4, co_J9_min_f86c9) := rfl
set_option maxRecDepth 20000 in
theorem pq_0_3 : pg.1 0 3 = some (9, 0, 0) := rfl
set_option maxRecDepth 20000 in
theorem pq_0_9 : pg.1 0 9 = some (12, 167, 1) := rfl
set_option maxRecDepth 20000 in
theorem pq_0_13 : pg.1 0 13 = some (11, 0, 0) := rfl
set_option maxRecDepth 20000 in
theorem pq_0_19 : pg.1 0 19 = some (1, 0, 1) := rfl
set_option maxRecDepth 20000 in
theorem pq_0_23 : pg.1 0 23 = some (1, 0, 2) := rfl
set_option maxRecDepth 20000 in
theorem pq_0_26 : pg.1 0 26 = some (2, 71, 2) := rfl
set_option maxRecDepth 20000 in
theorem pq_0_32 : pg.1 0 32 = some (12, 318, 2) := rfl
set_option maxRecDepth 20000 in
theorem pq_0_38 : pg.1 0 38 = some (12, 316, 2) := rfl
set_option maxRecDepth 20000 in
theorem pq_0_41 : pg.1 0 41 = some (1, 7, 1) := rfl
set_option maxRecDepth 20000 in
theorem pq_1_3 : pg.1 1 3 = some (9, 0, 0) := rfl
set_option maxRecDepth 20000 in
theorem pq_1_9 : pg.1 1 9 = some (11, 1, 0) := rfl
set_option maxRecDepth 20000 in
theorem pq_1_15 : pg.1 1 15 = some (11, 1, 1) := rfl
set_option maxRecDepth 20000 in
theorem pq_1_18 : pg.1 1 18 = some (1, 1, 2) := rfl
set_option maxRecDepth 20000 in
theorem pq_1_22 : pg.1 1 22 = some (1, 1, 3) := rfl
set_option maxRecDepth 20000 in
theorem pq_1_26 : pg.1 1 26 = some (3, 7, 0) := rfl
set_option maxRecDepth 20000 in
theorem pq_1_28 : pg.1 1 28 = some (13, 70, 1) := rfl
set_option maxRecDepth 20000 in
theorem pq_1_29 : pg.1 1 29 = some (11, 1, 4) := rfl
set_option maxRecDepth 20000 in
theorem pq_1_33 : pg.1 1 33 = some (11, 1, 5) := rfl
set_option maxRecDepth 20000 in
theorem pq_1_36 : pg.1 1 36 = some (2, 71, 2) := rfl
set_option maxRecDepth 20000 in
theorem pq_1_40 : pg.1 1 40 = some (2, 79, 3) := rfl
set_option maxRecDepth 20000 in
theorem pq_1_44 : pg.1 1 44 = some (2, 31, 2) := rfl
set_option maxRecDepth 20000 in
theorem pq_1_49 : pg.1 1 49 = some (2, 34, 3) := rfl
set_option maxRecDepth 20000 in
theorem pq_1_53 : pg.1 1 53 = some (2, 7, 3) := rfl
set_option maxRecDepth 20000 in
theorem pq_1_57 : pg.1 1 57 = some (2, 10, 2) := rfl
set_option maxRecDepth 20000 in
theorem pq_1_61 : pg.1 1 61 = some (2, 32, 4) := rfl
set_option maxRecDepth 20000 in
theorem pq_1_65 : pg.1 1 65 = some (2, 73, 3) := rfl
set_option maxRecDepth 20000 in
theorem pq_1_69 : pg.1 1 69 = some (2, 14, 2) := rfl
set_option maxRecDepth 20000 in
theorem pq_1_72 : pg.1 1 72 = some (2, 72, 2) := rfl
set_option maxRecDepth 20000 in
theorem pq_2_3 : pg.1 2 3 = some (9, 0, 0) := rfl
set_option maxRecDepth 20000 in
theorem pq_2_9 : pg.1 2 9 = some (11, 2, 0) := rfl
set_option maxRecDepth 20000 in
theorem pq_2_15 : pg.1 2 15 = some (11, 2, 1) := rfl
set_option maxRecDepth 20000 in
theorem pq_2_18 : pg.1 2 18 = some (11, 2, 2) := rfl
set_option maxRecDepth 20000 in
theorem pq_2_21 : pg.1 2 21 = some (11, 2, 3) := rfl
set_option maxRecDepth 20000 in
theorem pq_2_24 : pg.1 2 24 = some (11, 2, 4) := rfl
set_option maxRecDepth 20000 in
theorem pq_2_27 : pg.1 2 27 = some (1, 2, 5) := rfl
set_option maxRecDepth 20000 in
theorem pq_2_31 : pg.1 2 31 = some (1, 2, 6) := rfl
set_option maxRecDepth 20000 in
theorem pq_2_34 : pg.1 2 34 = some (1, 2, 7) := rfl
set_option maxRecDepth 20000 in
theorem pq_2_37 : pg.1 2 37 = some (3, 6, 0) := rfl
set_option maxRecDepth 20000 in
theorem pq_2_39 : pg.1 2 39 = some (13, 59, 1) := rfl
set_option maxRecDepth 20000 in
theorem pq_2_40 : pg.1 2 40 = some (11, 2, 8) := rfl
set_option maxRecDepth 20000 in
theorem pq_2_44 : pg.1 2 44 = some (11, 2, 9) := rfl
set_option maxRecDepth 20000 in
theorem pq_2_47 : pg.1 2 47 = some (11, 2, 10) := rfl
set_option maxRecDepth 20000 in
theorem pq_2_50 : pg.1 2 50 = some (2, 60, 1) := rfl
set_option maxRecDepth 20000 in
theorem pq_2_53 : pg.1 2 53 = some (2, 14, 2) := rfl
set_option maxRecDepth 20000 in
theorem pq_2_57 : pg.1 2 57 = some (7, 0, 2000000) := rfl
set_option maxRecDepth 20000 in
theorem pq_2_60 : pg.1 2 60 = some (2, 16, 2) := rfl
set_option maxRecDepth 20000 in
theorem pq_2_64 : pg.1 2 64 = some (2, 17, 3) := rfl
set_option maxRecDepth 20000 in
theorem pq_2_68 : pg.1 2 68 = some (1, 9, 7) := rfl
set_option maxRecDepth 20000 in
theorem pq_2_73 : pg.1 2 73 = some (1, 9, 6) := rfl
set_option maxRecDepth 20000 in
theorem pq_2_76 : pg.1 2 76 = some (2, 92, 2) := rfl
set_option maxRecDepth 20000 in
theorem pq_2_79 : pg.1 2 79 = some (2, 18, 3) := rfl
set_option maxRecDepth 20000 in
theorem pq_2_82 : pg.1 2 82 = some (1, 6, 1) := rfl
set_option maxRecDepth 20000 in
theorem pq_2_85 : pg.1 2 85 = some (1, 7, 1) := rfl
set_option maxRecDepth 20000 in
theorem pq_2_90 : pg.1 2 90 = some (1, 7, 2) := rfl
set_option maxRecDepth 20000 in
theorem pq_2_93 : pg.1 2 93 = some (2, 73, 3) := rfl
set_option maxRecDepth 20000 in
theorem pq_2_97 : pg.1 2 97 = some (2, 72, 2) := rfl
set_option maxRecDepth 20000 in
theorem pq_2_100 : pg.1 2 100 = some (2, 27, 2) := rfl
set_option maxRecDepth 20000 in
theorem pq_2_103 : pg.1 2 103 = some (2, 29, 3) := rfl
set_option maxRecDepth 20000 in
theorem pq_2_107 : pg.1 2 107 = some (2, 74, 1) := rfl
set_option maxRecDepth 20000 in
theorem pq_2_111 : pg.1 2 111 = some (2, 24, 2) := rfl
set_option maxRecDepth 20000 in
theorem pq_2_114 : pg.1 2 114 = some (8, 7, 0) := rfl
set_option maxRecDepth 20000 in
theorem pq_2_117 : pg.1 2 117 = some (2, 62, 3) := rfl
set_option maxRecDepth 20000 in
theorem pq_2_121 : pg.1 2 121 = some (2, 63, 3) := rfl
set_option maxRecDepth 20000 in
theorem pq_2_124 : pg.1 2 124 = some (2, 26, 2) := rfl
set_option maxRecDepth 20000 in
theorem pq_2_127 : pg.1 2 127 = some (2, 64, 3) := rfl
set_option maxRecDepth 20000 in
theorem pq_2_130 : pg.1 2 130 = some (12, 318, 2) := rfl
set_option maxRecDepth 20000 in
theorem pq_2_135 : pg.1 2 135 = some (12, 316, 2) := rfl
set_option maxRecDepth 20000 in
theorem pq_2_138 : pg.1 2 138 = some (2, 31, 2) := rfl
set_option maxRecDepth 20000 in
theorem pq_2_142 : pg.1 2 142 = some (2, 33, 3) := rfl
set_option maxRecDepth 20000 in
theorem pq_2_146 : pg.1 2 146 = some (2, 30, 3) := rfl
set_option maxRecDepth 20000 in
theorem pq_2_149 : pg.1 2 149 = some (2, 32, 4) := rfl
set_option maxRecDepth 20000 in
theorem pq_3_3 : pg.1 3 3 = some (9, 0, 0) := rfl
set_option maxRecDepth 20000 in
theorem pq_3_9 : pg.1 3 9 = some (11, 3, 0) := rfl
set_option maxRecDepth 20000 in
theorem pq_3_15 : pg.1 3 15 = some (11, 3, 1) := rfl
set_option maxRecDepth 20000 in
theorem pq_3_19 : pg.1 3 19 = some (2, 13, 1) := rfl
set_option maxRecDepth 20000 in
theorem pq_3_24 : pg.1 3 24 = some (8, 2, 8) := rfl
set_option maxRecDepth 20000 in
theorem pq_3_28 : pg.1 3 28 = some (2, 81, 3) := rfl
set_option maxRecDepth 20000 in
theorem pq_3_34 : pg.1 3 34 = some (2, 94, 1) := rfl
set_option maxRecDepth 20000 in
theorem pq_3_39 : pg.1 3 39 = some (2, 95, 1) := rfl
set_option maxRecDepth 20000 in
theorem pq_3_43 : pg.1 3 43 = some (2, 98, 1) := rfl
set_option maxRecDepth 20000 in
theorem pq_3_47 : pg.1 3 47 = some (2, 97, 2) := rfl
set_option maxRecDepth 20000 in
theorem pq_3_51 : pg.1 3 51 = some (2, 38, 2) := rfl
set_option maxRecDepth 20000 in
theorem pq_3_55 : pg.1 3 55 = some (2, 101, 2) := rfl
set_option maxRecDepth 20000 in
theorem pq_3_59 : pg.1 3 59 = some (6, 0, 1000000) := rfl
set_option maxRecDepth 20000 in
theorem pq_3_61 : pg.1 3 61 = some (2, 106, 2) := rfl
set_option maxRecDepth 20000 in
theorem pq_3_65 : pg.1 3 65 = some (12, 39, 2) := rfl
set_option maxRecDepth 20000 in
theorem pq_3_69 : pg.1 3 69 = some (2, 107, 1) := rfl
set_option maxRecDepth 20000 in
theorem pq_3_72 : pg.1 3 72 = some (2, 44, 3) := rfl
set_option maxRecDepth 20000 in
theorem pq_3_76 : pg.1 3 76 = some (2, 40, 2) := rfl
set_option maxRecDepth 20000 in
theorem pq_3_79 : pg.1 3 79 = some (2, 41, 2) := rfl
set_option maxRecDepth 20000 in
theorem pq_3_82 : pg.1 3 82 = some (2, 42, 2) := rfl
set_option maxRecDepth 20000 in
theorem pq_3_85 : pg.1 3 85 = some (2, 43, 3) := rfl
set_option maxRecDepth 20000 in
theorem pq_3_89 : pg.1 3 89 = some (2, 111, 2) := rfl
set_option maxRecDepth 20000 in
theorem pq_3_93 : pg.1 3 93 = some (1, 2, 5) := rfl
set_option maxRecDepth 20000 in
theorem pq_3_97 : pg.1 3 97 = some (1, 2, 6) := rfl
set_option maxRecDepth 20000 in
theorem pq_3_100 : pg.1 3 100 = some (1, 2, 7) := rfl
set_option maxRecDepth 20000 in
theorem pq_3_103 : pg.1 3 103 = some (2, 16, 2) := rfl
set_option maxRecDepth 20000 in
theorem pq_3_107 : pg.1 3 107 = some (2, 24, 2) := rfl
set_option maxRecDepth 20000 in
theorem pq_3_110 : pg.1 3 110 = some (6, 0, 1000001) := rfl
set_option maxRecDepth 20000 in
theorem pq_3_112 : pg.1 3 112 = some (2, 109, 2) := rfl
set_option maxRecDepth 20000 in
theorem pq_3_116 : pg.1 3 116 = some (2, 21, 3) := rfl
set_option maxRecDepth 20000 in
theorem pq_3_119 : pg.1 3 119 = some (2, 45, 3) := rfl
set_option maxRecDepth 20000 in
theorem pq_3_122 : pg.1 3 122 = some (2, 22, 4) := rfl
set_option maxRecDepth 20000 in
theorem pq_3_126 : pg.1 3 126 = some (6, 0, 1000002) := rfl
set_option maxRecDepth 20000 in
theorem pq_3_128 : pg.1 3 128 = some (2, 23, 3) := rfl
set_option maxRecDepth 20000 in
theorem pq_3_131 : pg.1 3 131 = some (1, 6, 1) := rfl
set_option maxRecDepth 20000 in
theorem pq_3_136 : pg.1 3 136 = some (2, 84, 2) := rfl
set_option maxRecDepth 20000 in
theorem pq_3_138 : pg.1 3 138 = some (2, 25, 3) := rfl
set_option maxRecDepth 20000 in
theorem pq_3_141 : pg.1 3 141 = some (2, 110, 1) := rfl
set_option maxRecDepth 20000 in
theorem pq_3_144 : pg.1 3 144 = some (2, 20, 3) := rfl
set_option maxRecDepth 20000 in
theorem pq_3_148 : pg.1 3 148 = some (1, 9, 6) := rfl
set_option maxRecDepth 20000 in
theorem pq_3_151 : pg.1 3 151 = some (2, 96, 3) := rfl
set_option maxRecDepth 20000 in
theorem pq_3_154 : pg.1 3 154 = some (2, 19, 3) := rfl
set_option maxRecDepth 20000 in
theorem pq_4_3 : pg.1 4 3 = some (9, 0, 0) := rfl
set_option maxRecDepth 20000 in
theorem pq_4_9 : pg.1 4 9 = some (12, 167, 1) := rfl
set_option maxRecDepth 20000 in
theorem pq_4_13 : pg.1 4 13 = some (11, 4, 0) := rfl
set_option maxRecDepth 20000 in
theorem pq_4_19 : pg.1 4 19 = some (11, 4, 1) := rfl
set_option maxRecDepth 20000 in
theorem pq_4_22 : pg.1 4 22 = some (3, 7, 0) := rfl
set_option maxRecDepth 20000 in
theorem pq_4_24 : pg.1 4 24 = some (13, 70, 1) := rfl
set_option maxRecDepth 20000 in
theorem pq_4_25 : pg.1 4 25 = some (11, 4, 2) := rfl
set_option maxRecDepth 20000 in
theorem pq_4_29 : pg.1 4 29 = some (2, 71, 2) := rfl
set_option maxRecDepth 20000 in
theorem pq_4_33 : pg.1 4 33 = some (2, 48, 4) := rfl
set_option maxRecDepth 20000 in
theorem pq_4_37 : pg.1 4 37 = some (2, 31, 2) := rfl
set_option maxRecDepth 20000 in
theorem pq_4_43 : pg.1 4 43 = some (2, 49, 5) := rfl
set_option maxRecDepth 20000 in
theorem pq_4_47 : pg.1 4 47 = some (2, 34, 3) := rfl
set_option maxRecDepth 20000 in
theorem pq_4_51 : pg.1 4 51 = some (2, 14, 2) := rfl
set_option maxRecDepth 20000 in
theorem pq_4_55 : pg.1 4 55 = some (2, 72, 2) := rfl
set_option maxRecDepth 20000 in
theorem pq_4_58 : pg.1 4 58 = some (1, 2, 7) := rfl
set_option maxRecDepth 20000 in
theorem pq_4_62 : pg.1 4 62 = some (12, 318, 2) := rfl
set_option maxRecDepth 20000 in
theorem pq_4_68 : pg.1 4 68 = some (2, 73, 3) := rfl
set_option maxRecDepth 20000 in
theorem pq_4_72 : pg.1 4 72 = some (5, 0, 100) := rfl
set_option maxRecDepth 20000 in
theorem pq_4_74 : pg.1 4 74 = some (2, 51, 5) := rfl
set_option maxRecDepth 20000 in
theorem pq_4_78 : pg.1 4 78 = some (5, 0, 1000) := rfl
set_option maxRecDepth 20000 in
theorem pq_4_80 : pg.1 4 80 = some (2, 77, 1) := rfl
set_option maxRecDepth 20000 in
theorem pq_4_83 : pg.1 4 83 = some (1, 2, 6) := rfl
set_option maxRecDepth 20000 in
theorem pq_5_3 : pg.1 5 3 = some (9, 0, 0) := rfl
set_option maxRecDepth 20000 in
theorem pq_5_9 : pg.1 5 9 = some (3, 6, 0) := rfl
set_option maxRecDepth 20000 in
theorem pq_5_11 : pg.1 5 11 = some (13, 59, 1) := rfl
set_option maxRecDepth 20000 in
theorem pq_5_12 : pg.1 5 12 = some (11, 5, 2) := rfl
set_option maxRecDepth 20000 in
theorem pq_5_18 : pg.1 5 18 = some (1, 5, 3) := rfl
set_option maxRecDepth 20000 in
theorem pq_5_22 : pg.1 5 22 = some (11, 5, 0) := rfl
set_option maxRecDepth 20000 in
theorem pq_5_26 : pg.1 5 26 = some (11, 5, 1) := rfl
set_option maxRecDepth 20000 in
theorem pq_5_30 : pg.1 5 30 = some (2, 94, 1) := rfl
set_option maxRecDepth 20000 in
theorem pq_5_35 : pg.1 5 35 = some (2, 60, 1) := rfl
set_option maxRecDepth 20000 in
theorem pq_5_38 : pg.1 5 38 = some (2, 81, 3) := rfl
set_option maxRecDepth 20000 in
theorem pq_5_44 : pg.1 5 44 = some (6, 0, 1000003) := rfl
set_option maxRecDepth 20000 in
theorem pq_5_46 : pg.1 5 46 = some (2, 106, 2) := rfl
set_option maxRecDepth 20000 in
theorem pq_5_50 : pg.1 5 50 = some (2, 97, 2) := rfl
set_option maxRecDepth 20000 in
theorem pq_5_54 : pg.1 5 54 = some (2, 107, 1) := rfl
set_option maxRecDepth 20000 in
theorem pq_5_57 : pg.1 5 57 = some (2, 54, 2) := rfl
set_option maxRecDepth 20000 in
theorem pq_5_60 : pg.1 5 60 = some (2, 84, 2) := rfl
set_option maxRecDepth 20000 in
theorem pq_5_63 : pg.1 5 63 = some (2, 102, 1) := rfl
set_option maxRecDepth 20000 in
theorem pq_5_66 : pg.1 5 66 = some (2, 95, 1) := rfl
set_option maxRecDepth 20000 in
theorem pq_5_70 : pg.1 5 70 = some (2, 55, 2) := rfl
set_option maxRecDepth 20000 in
theorem pq_5_73 : pg.1 5 73 = some (6, 0, 1000004) := rfl
set_option maxRecDepth 20000 in
theorem pq_5_75 : pg.1 5 75 = some (2, 108, 2) := rfl
set_option maxRecDepth 20000 in
theorem pq_5_79 : pg.1 5 79 = some (2, 82, 2) := rfl
set_option maxRecDepth 20000 in
theorem pq_5_82 : pg.1 5 82 = some (2, 56, 2) := rfl
set_option maxRecDepth 20000 in
theorem pq_5_85 : pg.1 5 85 = some (6, 0, 1000005) := rfl
set_option maxRecDepth 20000 in
theorem pq_5_87 : pg.1 5 87 = some (6, 0, 1000006) := rfl
set_option maxRecDepth 20000 in
theorem pq_5_89 : pg.1 5 89 = some (2, 83, 2) := rfl
set_option maxRecDepth 20000 in
theorem pq_5_93 : pg.1 5 93 = some (2, 99, 2) := rfl
set_option maxRecDepth 20000 in
theorem pq_5_97 : pg.1 5 97 = some (2, 100, 1) := rfl
set_option maxRecDepth 20000 in
theorem pq_5_100 : pg.1 5 100 = some (2, 101, 2) := rfl
set_option maxRecDepth 20000 in
theorem pq_5_104 : pg.1 5 104 = some (6, 0, 1000007) := rfl
set_option maxRecDepth 20000 in
theorem pq_5_106 : pg.1 5 106 = some (1, 1, 2) := rfl
set_option maxRecDepth 20000 in
theorem pq_5_111 : pg.1 5 111 = some (2, 58, 3) := rfl
set_option maxRecDepth 20000 in
theorem pq_5_115 : pg.1 5 115 = some (12, 316, 2) := rfl
set_option maxRecDepth 20000 in
theorem pq_5_121 : pg.1 5 121 = some (12, 318, 2) := rfl
set_option maxRecDepth 20000 in
theorem pq_5_124 : pg.1 5 124 = some (8, 1, 0) := rfl
set_option maxRecDepth 20000 in
theorem pq_5_128 : pg.1 5 128 = some (2, 62, 3) := rfl
set_option maxRecDepth 20000 in
theorem pq_5_132 : pg.1 5 132 = some (2, 63, 3) := rfl
set_option maxRecDepth 20000 in
theorem pq_5_136 : pg.1 5 136 = some (2, 6, 2) := rfl
set_option maxRecDepth 20000 in
theorem pq_5_140 : pg.1 5 140 = some (1, 6, 1) := rfl
set_option maxRecDepth 20000 in
theorem pq_5_143 : pg.1 5 143 = some (2, 64, 3) := rfl
set_option maxRecDepth 20000 in
theorem pq_6_3 : pg.1 6 3 = some (9, 0, 0) := rfl
set_option maxRecDepth 20000 in
theorem pq_6_9 : pg.1 6 9 = some (11, 6, 0) := rfl
set_option maxRecDepth 20000 in
theorem pq_6_15 : pg.1 6 15 = some (1, 6, 1) := rfl
set_option maxRecDepth 20000 in
theorem pq_6_19 : pg.1 6 19 = some (11, 6, 2) := rfl
set_option maxRecDepth 20000 in
theorem pq_6_22 : pg.1 6 22 = some (1, 6, 3) := rfl
set_option maxRecDepth 20000 in
theorem pq_6_25 : pg.1 6 25 = some (11, 6, 4) := rfl
set_option maxRecDepth 20000 in
theorem pq_6_28 : pg.1 6 28 = some (11, 6, 5) := rfl
set_option maxRecDepth 20000 in
theorem pq_6_31 : pg.1 6 31 = some (12, 316, 2) := rfl
set_option maxRecDepth 20000 in
theorem pq_6_37 : pg.1 6 37 = some (2, 63, 3) := rfl
set_option maxRecDepth 20000 in
theorem pq_6_41 : pg.1 6 41 = some (2, 65, 2) := rfl
set_option maxRecDepth 20000 in
theorem pq_6_45 : pg.1 6 45 = some (2, 67, 2) := rfl
set_option maxRecDepth 20000 in
theorem pq_6_49 : pg.1 6 49 = some (2, 66, 1) := rfl
set_option maxRecDepth 20000 in
theorem pq_6_53 : pg.1 6 53 = some (2, 68, 2) := rfl
set_option maxRecDepth 20000 in
theorem pq_6_56 : pg.1 6 56 = some (12, 69, 3) := rfl
set_option maxRecDepth 20000 in
theorem pq_6_60 : pg.1 6 60 = some (4, 0, (-1000000)) := rfl
set_option maxRecDepth 20000 in
theorem pq_6_61 : pg.1 6 61 = some (4, 0, 1000000) := rfl
set_option maxRecDepth 20000 in
theorem pq_6_62 : pg.1 6 62 = some (12, 318, 2) := rfl
set_option maxRecDepth 20000 in
theorem pq_6_65 : pg.1 6 65 = some (5, 0, (-1000000)) := rfl
set_option maxRecDepth 20000 in
theorem pq_6_67 : pg.1 6 67 = some (5, 0, 1000000) := rfl
set_option maxRecDepth 20000 in
theorem pq_6_69 : pg.1 6 69 = some (12, 319, 2) := rfl
set_option maxRecDepth 20000 in
theorem pq_6_72 : pg.1 6 72 = some (12, 317, 2) := rfl
set_option maxRecDepth 20000 in
theorem pq_6_74 : pg.1 6 74 = some (12, 315, 2) := rfl
set_option maxRecDepth 20000 in
theorem pq_7_3 : pg.1 7 3 = some (9, 0, 0) := rfl
set_option maxRecDepth 20000 in
theorem pq_7_9 : pg.1 7 9 = some (11, 7, 0) := rfl
set_option maxRecDepth 20000 in
theorem pq_7_15 : pg.1 7 15 = some (1, 7, 1) := rfl
set_option maxRecDepth 20000 in
theorem pq_7_19 : pg.1 7 19 = some (1, 7, 2) := rfl
set_option maxRecDepth 20000 in
theorem pq_7_22 : pg.1 7 22 = some (12, 316, 2) := rfl
set_option maxRecDepth 20000 in
theorem pq_8_3 : pg.1 8 3 = some (9, 0, 0) := rfl
set_option maxRecDepth 20000 in
theorem pq_8_9 : pg.1 8 9 = some (1, 8, 1) := rfl
set_option maxRecDepth 20000 in
theorem pq_8_15 : pg.1 8 15 = some (1, 8, 2) := rfl
set_option maxRecDepth 20000 in
theorem pq_8_19 : pg.1 8 19 = some (11, 8, 0) := rfl
set_option maxRecDepth 20000 in
theorem pq_8_23 : pg.1 8 23 = some (2, 61, 2) := rfl
set_option maxRecDepth 20000 in
theorem pq_8_29 : pg.1 8 29 = some (2, 97, 2) := rfl
set_option maxRecDepth 20000 in
theorem pq_8_34 : pg.1 8 34 = some (2, 85, 2) := rfl
set_option maxRecDepth 20000 in
theorem pq_8_37 : pg.1 8 37 = some (2, 95, 1) := rfl
set_option maxRecDepth 20000 in
theorem pq_8_41 : pg.1 8 41 = some (2, 99, 2) := rfl
set_option maxRecDepth 20000 in
theorem pq_8_45 : pg.1 8 45 = some (2, 100, 1) := rfl
set_option maxRecDepth 20000 in
theorem pq_8_48 : pg.1 8 48 = some (2, 82, 2) := rfl
set_option maxRecDepth 20000 in
theorem pq_8_51 : pg.1 8 51 = some (2, 86, 2) := rfl
set_option maxRecDepth 20000 in
theorem pq_8_54 : pg.1 8 54 = some (2, 104, 1) := rfl
set_option maxRecDepth 20000 in
theorem pq_8_57 : pg.1 8 57 = some (2, 111, 2) := rfl
set_option maxRecDepth 20000 in
theorem pq_8_61 : pg.1 8 61 = some (2, 83, 2) := rfl
set_option maxRecDepth 20000 in
theorem pq_8_65 : pg.1 8 65 = some (2, 84, 2) := rfl
set_option maxRecDepth 20000 in
theorem pq_8_68 : pg.1 8 68 = some (2, 101, 2) := rfl
set_option maxRecDepth 20000 in
theorem pq_8_72 : pg.1 8 72 = some (2, 87, 2) := rfl
set_option maxRecDepth 20000 in
theorem pq_8_75 : pg.1 8 75 = some (6, 0, 1000008) := rfl
set_option maxRecDepth 20000 in
theorem pq_8_77 : pg.1 8 77 = some (6, 0, 1000009) := rfl
set_option maxRecDepth 20000 in
theorem pq_8_79 : pg.1 8 79 = some (2, 106, 2) := rfl
set_option maxRecDepth 20000 in
theorem pq_8_83 : pg.1 8 83 = some (7, 0, 2000001) := rfl
set_option maxRecDepth 20000 in
theorem pq_8_87 : pg.1 8 87 = some (7, 0, 2000002) := rfl
set_option maxRecDepth 20000 in
theorem pq_8_90 : pg.1 8 90 = some (2, 107, 1) := rfl
set_option maxRecDepth 20000 in
theorem pq_8_93 : pg.1 8 93 = some (2, 88, 2) := rfl
set_option maxRecDepth 20000 in
theorem pq_9_3 : pg.1 9 3 = some (9, 0, 0) := rfl
set_option maxRecDepth 20000 in
theorem pq_9_9 : pg.1 9 9 = some (11, 9, 0) := rfl
set_option maxRecDepth 20000 in
theorem pq_9_15 : pg.1 9 15 = some (1, 9, 1) := rfl
set_option maxRecDepth 20000 in
theorem pq_9_19 : pg.1 9 19 = some (1, 9, 2) := rfl
set_option maxRecDepth 20000 in
theorem pq_9_22 : pg.1 9 22 = some (1, 9, 3) := rfl
set_option maxRecDepth 20000 in
theorem pq_9_25 : pg.1 9 25 = some (1, 9, 4) := rfl
set_option maxRecDepth 20000 in
theorem pq_9_28 : pg.1 9 28 = some (1, 9, 5) := rfl
set_option maxRecDepth 20000 in
theorem pq_9_31 : pg.1 9 31 = some (1, 9, 6) := rfl
set_option maxRecDepth 20000 in
theorem pq_9_34 : pg.1 9 34 = some (1, 9, 7) := rfl
set_option maxRecDepth 20000 in
theorem pq_9_37 : pg.1 9 37 = some (2, 92, 2) := rfl
set_option maxRecDepth 20000 in
theorem pq_9_41 : pg.1 9 41 = some (2, 98, 1) := rfl
set_option maxRecDepth 20000 in
theorem pq_9_45 : pg.1 9 45 = some (2, 96, 3) := rfl
set_option maxRecDepth 20000 in
theorem pq_9_49 : pg.1 9 49 = some (2, 99, 2) := rfl
set_option maxRecDepth 20000 in
theorem pq_9_53 : pg.1 9 53 = some (2, 100, 1) := rfl
set_option maxRecDepth 20000 in
theorem pq_9_56 : pg.1 9 56 = some (2, 97, 2) := rfl
set_option maxRecDepth 20000 in
theorem pq_9_60 : pg.1 9 60 = some (12, 103, 1) := rfl
set_option maxRecDepth 20000 in
theorem pq_9_64 : pg.1 9 64 = some (2, 105, 1) := rfl
set_option maxRecDepth 20000 in
theorem pq_9_67 : pg.1 9 67 = some (21, 0, 0) := rfl
set_option maxRecDepth 20000 in
theorem pq_9_72 : pg.1 9 72 = some (22, 0, 0) := rfl
set_option maxRecDepth 20000 in
theorem pq_9_76 : pg.1 9 76 = some (2, 106, 2) := rfl
set_option maxRecDepth 20000 in
theorem pq_9_80 : pg.1 9 80 = some (2, 107, 1) := rfl
set_option maxRecDepth 20000 in
theorem pq_9_83 : pg.1 9 83 = some (2, 108, 2) := rfl
set_option maxRecDepth 20000 in
theorem pq_9_87 : pg.1 9 87 = some (6, 0, 1000010) := rfl
set_option maxRecDepth 20000 in
theorem pq_9_89 : pg.1 9 89 = some (2, 95, 1) := rfl
set_option maxRecDepth 20000 in
theorem pq_9_93 : pg.1 9 93 = some (2, 104, 1) := rfl
set_option maxRecDepth 20000 in
theorem pq_10_3 : pg.1 10 3 = some (9, 0, 0) := rfl
set_option maxRecDepth 20000 in
theorem pq_10_9 : pg.1 10 9 = some (12, 167, 1) := rfl
set_option maxRecDepth 20000 in
theorem pq_10_13 : pg.1 10 13 = some (11, 10, 0) := rfl
set_option maxRecDepth 20000 in
theorem pq_10_19 : pg.1 10 19 = some (11, 10, 1) := rfl
set_option maxRecDepth 20000 in
theorem pq_10_23 : pg.1 10 23 = some (11, 10, 2) := rfl
set_option maxRecDepth 20000 in
theorem pq_10_26 : pg.1 10 26 = some (1, 10, 3) := rfl
set_option maxRecDepth 20000 in
theorem pq_10_30 : pg.1 10 30 = some (1, 10, 4) := rfl
set_option maxRecDepth 20000 in
theorem pq_10_33 : pg.1 10 33 = some (1, 10, 5) := rfl
set_option maxRecDepth 20000 in
theorem pq_10_37 : pg.1 10 37 = some (3, 7, 0) := rfl
set_option maxRecDepth 20000 in
theorem pq_10_39 : pg.1 10 39 = some (13, 70, 1) := rfl
set_option maxRecDepth 20000 in
theorem pq_10_40 : pg.1 10 40 = some (11, 10, 6) := rfl
set_option maxRecDepth 20000 in
theorem pq_10_44 : pg.1 10 44 = some (1, 10, 7) := rfl
set_option maxRecDepth 20000 in
theorem pq_10_47 : pg.1 10 47 = some (11, 10, 8) := rfl
set_option maxRecDepth 20000 in
theorem pq_10_50 : pg.1 10 50 = some (11, 10, 9) := rfl
set_option maxRecDepth 20000 in
theorem pq_10_53 : pg.1 10 53 = some (11, 10, 10) := rfl
set_option maxRecDepth 20000 in
theorem pq_10_56 : pg.1 10 56 = some (11, 10, 11) := rfl
set_option maxRecDepth 20000 in
theorem pq_10_59 : pg.1 10 59 = some (1, 10, 12) := rfl
set_option maxRecDepth 20000 in
theorem pq_10_62 : pg.1 10 62 = some (2, 71, 2) := rfl
set_option maxRecDepth 20000 in
theorem pq_10_66 : pg.1 10 66 = some (2, 117, 4) := rfl
set_option maxRecDepth 20000 in
theorem pq_10_70 : pg.1 10 70 = some (4, 0, 1000000) := rfl
set_option maxRecDepth 20000 in
theorem pq_10_71 : pg.1 10 71 = some (2, 116, 3) := rfl
set_option maxRecDepth 20000 in
theorem pq_10_75 : pg.1 10 75 = some (2, 31, 2) := rfl
set_option maxRecDepth 20000 in
theorem pq_10_81 : pg.1 10 81 = some (20, 0, 0) := rfl
set_option maxRecDepth 20000 in
theorem pq_10_87 : pg.1 10 87 = some (2, 118, 5) := rfl
set_option maxRecDepth 20000 in
theorem pq_10_91 : pg.1 10 91 = some (2, 34, 3) := rfl
set_option maxRecDepth 20000 in
theorem pq_10_95 : pg.1 10 95 = some (2, 72, 2) := rfl
set_option maxRecDepth 20000 in
theorem pq_10_99 : pg.1 10 99 = some (2, 14, 2) := rfl
set_option maxRecDepth 20000 in
theorem pq_10_102 : pg.1 10 102 = some (1, 7, 2) := rfl
set_option maxRecDepth 20000 in
theorem pq_10_105 : pg.1 10 105 = some (2, 113, 4) := rfl
set_option maxRecDepth 20000 in
theorem pq_10_109 : pg.1 10 109 = some (2, 122, 3) := rfl
set_option maxRecDepth 20000 in
theorem pq_10_113 : pg.1 10 113 = some (2, 35, 3) := rfl
set_option maxRecDepth 20000 in
theorem pq_10_117 : pg.1 10 117 = some (2, 124, 2) := rfl
set_option maxRecDepth 20000 in
theorem pq_10_120 : pg.1 10 120 = some (12, 314, 1) := rfl
set_option maxRecDepth 20000 in
theorem pq_10_125 : pg.1 10 125 = some (12, 123, 2) := rfl
set_option maxRecDepth 20000 in
theorem pq_10_128 : pg.1 10 128 = some (2, 78, 3) := rfl
set_option maxRecDepth 20000 in
theorem pq_10_132 : pg.1 10 132 = some (2, 79, 3) := rfl
set_option maxRecDepth 20000 in
theorem pq_10_136 : pg.1 10 136 = some (12, 318, 2) := rfl
set_option maxRecDepth 20000 in
theorem pq_11_1 : pg.1 11 1 = some (9, 0, 0) := rfl
set_option maxRecDepth 20000 in
theorem pq_11_7 : pg.1 11 7 = some (3, 9, 0) := rfl
set_option maxRecDepth 20000 in
theorem pq_11_9 : pg.1 11 9 = some (13, 89, 1) := rfl
set_option maxRecDepth 20000 in
theorem pq_11_10 : pg.1 11 10 = some (11, 11, 0) := rfl
set_option maxRecDepth 20000 in
theorem pq_11_16 : pg.1 11 16 = some (3, 8, 0) := rfl
set_option maxRecDepth 20000 in
theorem pq_11_18 : pg.1 11 18 = some (13, 80, 2) := rfl
set_option maxRecDepth 20000 in
theorem pq_11_21 : pg.1 11 21 = some (11, 11, 1) := rfl
set_option maxRecDepth 20000 in
theorem pq_11_25 : pg.1 11 25 = some (3, 3, 0) := rfl
set_option maxRecDepth 20000 in
theorem pq_11_27 : pg.1 11 27 = some (13, 36, 3) := rfl
set_option maxRecDepth 20000 in
theorem pq_11_30 : pg.1 11 30 = some (11, 11, 2) := rfl
set_option maxRecDepth 20000 in
theorem pq_11_34 : pg.1 11 34 = some (3, 5, 0) := rfl
set_option maxRecDepth 20000 in
theorem pq_11_36 : pg.1 11 36 = some (13, 52, 3) := rfl
set_option maxRecDepth 20000 in
theorem pq_11_37 : pg.1 11 37 = some (11, 11, 3) := rfl
set_option maxRecDepth 20000 in
theorem pq_11_41 : pg.1 11 41 = some (3, 2, 0) := rfl
set_option maxRecDepth 20000 in
theorem pq_11_43 : pg.1 11 43 = some (13, 12, 1) := rfl
set_option maxRecDepth 20000 in
theorem pq_11_44 : pg.1 11 44 = some (1, 11, 4) := rfl
set_option maxRecDepth 20000 in
theorem pq_11_48 : pg.1 11 48 = some (1, 11, 5) := rfl
set_option maxRecDepth 20000 in
theorem pq_11_51 : pg.1 11 51 = some (12, 167, 1) := rfl
set_option maxRecDepth 20000 in
theorem pq_11_55 : pg.1 11 55 = some (11, 11, 6) := rfl
set_option maxRecDepth 20000 in
theorem pq_11_59 : pg.1 11 59 = some (3, 0, 0) := rfl
set_option maxRecDepth 20000 in
theorem pq_11_61 : pg.1 11 61 = some (13, 0, 1) := rfl
set_option maxRecDepth 20000 in
theorem pq_11_62 : pg.1 11 62 = some (11, 11, 7) := rfl
set_option maxRecDepth 20000 in
theorem pq_11_66 : pg.1 11 66 = some (3, 1, 0) := rfl
set_option maxRecDepth 20000 in
theorem pq_11_68 : pg.1 11 68 = some (13, 4, 1) := rfl
set_option maxRecDepth 20000 in
theorem pq_11_69 : pg.1 11 69 = some (11, 11, 8) := rfl
set_option maxRecDepth 20000 in
theorem pq_11_73 : pg.1 11 73 = some (3, 10, 0) := rfl
set_option maxRecDepth 20000 in
theorem pq_11_75 : pg.1 11 75 = some (13, 112, 1) := rfl
set_option maxRecDepth 20000 in
theorem pq_11_76 : pg.1 11 76 = some (11, 11, 9) := rfl
set_option maxRecDepth 20000 in
theorem pq_11_80 : pg.1 11 80 = some (3, 4, 0) := rfl
set_option maxRecDepth 20000 in
theorem pq_11_82 : pg.1 11 82 = some (13, 46, 1) := rfl
set_option maxRecDepth 20000 in
theorem pq_11_83 : pg.1 11 83 = some (11, 11, 10) := rfl
set_option maxRecDepth 20000 in
theorem pq_11_87 : pg.1 11 87 = some (11, 11, 11) := rfl
set_option maxRecDepth 20000 in
theorem pq_11_91 : pg.1 11 91 = some (1, 11, 12) := rfl
set_option maxRecDepth 20000 in
theorem pq_11_95 : pg.1 11 95 = some (1, 11, 13) := rfl
set_option maxRecDepth 20000 in
theorem pq_11_98 : pg.1 11 98 = some (11, 11, 14) := rfl
set_option maxRecDepth 20000 in
theorem pq_11_101 : pg.1 11 101 = some (1, 11, 15) := rfl
set_option maxRecDepth 20000 in
theorem pq_11_104 : pg.1 11 104 = some (11, 11, 16) := rfl
set_option maxRecDepth 20000 in
theorem pq_11_107 : pg.1 11 107 = some (1, 11, 17) := rfl
set_option maxRecDepth 20000 in
theorem pq_11_110 : pg.1 11 110 = some (1, 9, 1) := rfl
set_option maxRecDepth 20000 in
theorem pq_11_113 : pg.1 11 113 = some (2, 160, 2) := rfl
set_option maxRecDepth 20000 in
theorem pq_11_117 : pg.1 11 117 = some (2, 90, 2) := rfl
set_option maxRecDepth 20000 in
theorem pq_11_121 : pg.1 11 121 = some (2, 37, 2) := rfl
set_option maxRecDepth 20000 in
theorem pq_11_125 : pg.1 11 125 = some (2, 91, 1) := rfl
set_option maxRecDepth 20000 in
theorem pq_11_128 : pg.1 11 128 = some (2, 28, 3) := rfl
set_option maxRecDepth 20000 in
theorem pq_11_132 : pg.1 11 132 = some (2, 1, 1) := rfl
set_option maxRecDepth 20000 in
theorem pq_11_135 : pg.1 11 135 = some (1, 9, 3) := rfl
set_option maxRecDepth 20000 in
theorem pq_11_138 : pg.1 11 138 = some (1, 9, 4) := rfl
set_option maxRecDepth 20000 in
theorem pq_11_141 : pg.1 11 141 = some (2, 14, 2) := rfl
set_option maxRecDepth 20000 in
theorem pq_11_144 : pg.1 11 144 = some (1, 2, 5) := rfl
set_option maxRecDepth 20000 in
theorem pq_11_147 : pg.1 11 147 = some (1, 2, 6) := rfl
set_option maxRecDepth 20000 in
theorem pq_11_150 : pg.1 11 150 = some (1, 2, 7) := rfl
set_option maxRecDepth 20000 in
theorem pq_11_153 : pg.1 11 153 = some (2, 163, 1) := rfl
set_option maxRecDepth 20000 in
theorem pq_11_157 : pg.1 11 157 = some (1, 0, 2) := rfl
set_option maxRecDepth 20000 in
theorem pq_11_159 : pg.1 11 159 = some (2, 15, 3) := rfl
set_option maxRecDepth 20000 in
theorem pq_11_163 : pg.1 11 163 = some (2, 17, 3) := rfl
set_option maxRecDepth 20000 in
theorem pq_11_167 : pg.1 11 167 = some (2, 18, 3) := rfl
set_option maxRecDepth 20000 in
theorem pq_11_170 : pg.1 11 170 = some (2, 161, 2) := rfl
set_option maxRecDepth 20000 in
theorem pq_11_174 : pg.1 11 174 = some (2, 26, 2) := rfl
set_option maxRecDepth 20000 in
theorem pq_11_177 : pg.1 11 177 = some (1, 7, 2) := rfl
set_option maxRecDepth 20000 in
theorem pq_11_178 : pg.1 11 178 = some (14, 7, 0) := rfl
set_option maxRecDepth 20000 in
theorem pq_11_182 : pg.1 11 182 = some (2, 74, 1) := rfl
set_option maxRecDepth 20000 in
theorem pq_11_185 : pg.1 11 185 = some (2, 75, 1) := rfl
set_option maxRecDepth 20000 in
theorem pq_11_188 : pg.1 11 188 = some (2, 76, 1) := rfl
set_option maxRecDepth 20000 in
theorem pq_11_191 : pg.1 11 191 = some (2, 30, 3) := rfl
set_option maxRecDepth 20000 in
theorem pq_11_195 : pg.1 11 195 = some (2, 31, 2) := rfl
set_option maxRecDepth 20000 in
theorem pq_11_199 : pg.1 11 199 = some (2, 162, 2) := rfl
set_option maxRecDepth 20000 in
theorem pq_11_202 : pg.1 11 202 = some (2, 72, 2) := rfl
set_option maxRecDepth 20000 in
theorem pq_11_205 : pg.1 11 205 = some (2, 29, 3) := rfl
set_option maxRecDepth 20000 in
theorem pq_11_208 : pg.1 11 208 = some (2, 32, 4) := rfl
set_option maxRecDepth 20000 in
theorem pq_11_212 : pg.1 11 212 = some (2, 27, 2) := rfl
set_option maxRecDepth 20000 in
theorem pq_11_215 : pg.1 11 215 = some (2, 5, 3) := rfl
set_option maxRecDepth 20000 in
theorem pq_11_219 : pg.1 11 219 = some (2, 6, 2) := rfl
set_option maxRecDepth 20000 in
theorem pq_11_222 : pg.1 11 222 = some (1, 1, 2) := rfl
set_option maxRecDepth 20000 in
theorem pq_11_223 : pg.1 11 223 = some (12, 318, 2) := rfl
set_option maxRecDepth 20000 in
theorem pq_11_228 : pg.1 11 228 = some (2, 7, 3) := rfl
set_option maxRecDepth 20000 in
theorem pq_11_231 : pg.1 11 231 = some (1, 1, 3) := rfl
set_option maxRecDepth 20000 in
theorem pq_11_234 : pg.1 11 234 = some (2, 8, 2) := rfl
set_option maxRecDepth 20000 in
theorem pq_11_237 : pg.1 11 237 = some (2, 113, 4) := rfl
set_option maxRecDepth 20000 in
theorem pq_11_241 : pg.1 11 241 = some (2, 115, 3) := rfl
set_option maxRecDepth 20000 in
theorem pq_11_244 : pg.1 11 244 = some (2, 114, 3) := rfl
set_option maxRecDepth 20000 in
theorem pq_11_248 : pg.1 11 248 = some (1, 10, 4) := rfl
set_option maxRecDepth 20000 in
theorem pq_11_251 : pg.1 11 251 = some (2, 119, 3) := rfl
set_option maxRecDepth 20000 in
theorem pq_11_254 : pg.1 11 254 = some (1, 10, 7) := rfl
set_option maxRecDepth 20000 in
theorem pq_11_257 : pg.1 11 257 = some (12, 314, 1) := rfl
set_option maxRecDepth 20000 in
theorem pq_11_262 : pg.1 11 262 = some (2, 120, 4) := rfl
set_option maxRecDepth 20000 in
theorem pq_11_265 : pg.1 11 265 = some (2, 121, 2) := rfl
set_option maxRecDepth 20000 in
theorem pq_11_268 : pg.1 11 268 = some (2, 9, 4) := rfl
set_option maxRecDepth 20000 in
theorem pq_11_272 : pg.1 11 272 = some (2, 47, 4) := rfl
set_option maxRecDepth 20000 in
theorem pq_11_276 : pg.1 11 276 = some (2, 50, 4) := rfl
set_option maxRecDepth 20000 in
theorem pq_11_279 : pg.1 11 279 = some (2, 33, 3) := rfl
set_option maxRecDepth 20000 in
theorem pq_11_283 : pg.1 11 283 = some (2, 2, 2) := rfl
set_option maxRecDepth 20000 in
theorem pq_11_287 : pg.1 11 287 = some (2, 34, 3) := rfl
set_option maxRecDepth 20000 in
theorem pq_11_291 : pg.1 11 291 = some (2, 35, 3) := rfl
set_option maxRecDepth 20000 in
theorem pq_11_294 : pg.1 11 294 = some (2, 73, 3) := rfl
set_option maxRecDepth 20000 in
theorem pq_11_298 : pg.1 11 298 = some (2, 164, 2) := rfl
set_option maxRecDepth 20000 in
theorem pq_11_301 : pg.1 11 301 = some (2, 77, 1) := rfl
set_option maxRecDepth 20000 in
theorem pq_11_303 : pg.1 11 303 = some (2, 3, 2) := rfl
set_option maxRecDepth 20000 in
theorem pq_11_307 : pg.1 11 307 = some (2, 92, 2) := rfl
set_option maxRecDepth 20000 in
theorem pq_11_310 : pg.1 11 310 = some (2, 11, 7) := rfl
set_option maxRecDepth 20000 in
theorem pq_11_314 : pg.1 11 314 = some (5, 0, (-1000000000000000)) := rfl
set_option maxRecDepth 20000 in
theorem pq_11_316 : pg.1 11 316 = some (2, 53, 1) := rfl
set_option maxRecDepth 20000 in
theorem pq_11_319 : pg.1 11 319 = some (2, 57, 2) := rfl
set_option maxRecDepth 20000 in
theorem pq_11_323 : pg.1 11 323 = some (2, 165, 2) := rfl
set_option maxRecDepth 20000 in
theorem pq_11_326 : pg.1 11 326 = some (2, 166, 1) := rfl
set_option maxRecDepth 20000 in
theorem pq_11_329 : pg.1 11 329 = some (2, 93, 2) := rfl
set_option maxRecDepth 20000 in
theorem pq_11_332 : pg.1 11 332 = some (5, 0, 1103515245) := rfl
set_option maxRecDepth 20000 in
theorem pq_11_334 : pg.1 11 334 = some (5, 0, 12345) := rfl
set_option maxRecDepth 20000 in
theorem pq_11_336 : pg.1 11 336 = some (5, 0, 2147483647) := rfl
set_option maxRecDepth 20000 in
theorem pq_11_338 : pg.1 11 338 = some (13, 70, 1) := rfl
set_option maxRecDepth 20000 in
theorem pq_12_1 : pg.1 12 1 = some (9, 0, 0) := rfl
set_option maxRecDepth 20000 in
theorem pq_12_7 : pg.1 12 7 = some (11, 12, 0) := rfl
set_option maxRecDepth 20000 in
theorem pq_12_13 : pg.1 12 13 = some (1, 12, 8) := rfl
set_option maxRecDepth 20000 in
theorem pq_12_17 : pg.1 12 17 = some (11, 12, 9) := rfl
set_option maxRecDepth 20000 in
theorem pq_12_20 : pg.1 12 20 = some (11, 12, 10) := rfl
set_option maxRecDepth 20000 in
theorem pq_12_24 : pg.1 12 24 = some (11, 12, 11) := rfl
set_option maxRecDepth 20000 in
theorem pq_12_27 : pg.1 12 27 = some (11, 12, 12) := rfl
set_option maxRecDepth 20000 in
theorem pq_12_30 : pg.1 12 30 = some (11, 12, 13) := rfl
set_option maxRecDepth 20000 in
theorem pq_12_33 : pg.1 12 33 = some (11, 12, 14) := rfl
set_option maxRecDepth 20000 in
theorem pq_12_36 : pg.1 12 36 = some (11, 12, 15) := rfl
set_option maxRecDepth 20000 in
theorem pq_12_39 : pg.1 12 39 = some (11, 12, 16) := rfl
set_option maxRecDepth 20000 in
theorem pq_12_42 : pg.1 12 42 = some (11, 12, 17) := rfl
set_option maxRecDepth 20000 in
theorem pq_12_45 : pg.1 12 45 = some (11, 12, 18) := rfl
set_option maxRecDepth 20000 in
theorem pq_12_48 : pg.1 12 48 = some (11, 12, 19) := rfl
set_option maxRecDepth 20000 in
theorem pq_12_51 : pg.1 12 51 = some (11, 12, 20) := rfl
set_option maxRecDepth 20000 in
theorem pq_12_54 : pg.1 12 54 = some (11, 12, 21) := rfl
set_option maxRecDepth 20000 in
theorem pq_12_57 : pg.1 12 57 = some (11, 12, 22) := rfl
set_option maxRecDepth 20000 in
theorem pq_12_60 : pg.1 12 60 = some (11, 12, 23) := rfl
set_option maxRecDepth 20000 in
theorem pq_12_63 : pg.1 12 63 = some (11, 12, 24) := rfl
set_option maxRecDepth 20000 in
theorem pq_12_66 : pg.1 12 66 = some (11, 12, 25) := rfl
set_option maxRecDepth 20000 in
theorem pq_12_69 : pg.1 12 69 = some (11, 12, 26) := rfl
set_option maxRecDepth 20000 in
theorem pq_12_72 : pg.1 12 72 = some (11, 12, 27) := rfl
set_option maxRecDepth 20000 in
theorem pq_12_75 : pg.1 12 75 = some (11, 12, 28) := rfl
set_option maxRecDepth 20000 in
theorem pq_12_78 : pg.1 12 78 = some (11, 12, 30) := rfl
set_option maxRecDepth 20000 in
theorem pq_12_81 : pg.1 12 81 = some (11, 12, 31) := rfl
set_option maxRecDepth 20000 in
theorem pq_12_85 : pg.1 12 85 = some (11, 12, 32) := rfl
set_option maxRecDepth 20000 in
theorem pq_12_88 : pg.1 12 88 = some (11, 12, 33) := rfl
set_option maxRecDepth 20000 in
theorem pq_12_91 : pg.1 12 91 = some (11, 12, 34) := rfl
set_option maxRecDepth 20000 in
theorem pq_12_94 : pg.1 12 94 = some (11, 12, 35) := rfl
set_option maxRecDepth 20000 in
theorem pq_12_97 : pg.1 12 97 = some (11, 12, 36) := rfl
set_option maxRecDepth 20000 in
theorem pq_12_100 : pg.1 12 100 = some (11, 12, 37) := rfl
set_option maxRecDepth 20000 in
theorem pq_12_103 : pg.1 12 103 = some (11, 12, 39) := rfl
set_option maxRecDepth 20000 in
theorem pq_12_106 : pg.1 12 106 = some (11, 12, 41) := rfl
set_option maxRecDepth 20000 in
theorem pq_12_109 : pg.1 12 109 = some (11, 12, 45) := rfl
set_option maxRecDepth 20000 in
theorem pq_12_112 : pg.1 12 112 = some (11, 12, 47) := rfl
set_option maxRecDepth 20000 in
theorem pq_12_115 : pg.1 12 115 = some (11, 12, 48) := rfl
set_option maxRecDepth 20000 in
theorem pq_12_118 : pg.1 12 118 = some (11, 12, 49) := rfl
set_option maxRecDepth 20000 in
theorem pq_12_121 : pg.1 12 121 = some (11, 12, 51) := rfl
set_option maxRecDepth 20000 in
theorem pq_12_124 : pg.1 12 124 = some (11, 12, 55) := rfl
set_option maxRecDepth 20000 in
theorem pq_12_127 : pg.1 12 127 = some (11, 12, 56) := rfl
set_option maxRecDepth 20000 in
theorem pq_12_130 : pg.1 12 130 = some (11, 12, 57) := rfl
set_option maxRecDepth 20000 in
theorem pq_12_133 : pg.1 12 133 = some (1, 12, 60) := rfl
set_option maxRecDepth 20000 in
theorem pq_12_137 : pg.1 12 137 = some (11, 12, 63) := rfl
set_option maxRecDepth 20000 in
theorem pq_12_140 : pg.1 12 140 = some (11, 12, 64) := rfl
set_option maxRecDepth 20000 in
theorem pq_12_143 : pg.1 12 143 = some (11, 12, 65) := rfl
set_option maxRecDepth 20000 in
theorem pq_12_146 : pg.1 12 146 = some (11, 12, 66) := rfl
set_option maxRecDepth 20000 in
theorem pq_12_149 : pg.1 12 149 = some (11, 12, 67) := rfl
set_option maxRecDepth 20000 in
theorem pq_12_152 : pg.1 12 152 = some (11, 12, 68) := rfl
set_option maxRecDepth 20000 in
theorem pq_12_155 : pg.1 12 155 = some (11, 12, 69) := rfl
set_option maxRecDepth 20000 in
theorem pq_12_158 : pg.1 12 158 = some (11, 12, 70) := rfl
set_option maxRecDepth 20000 in
theorem pq_12_161 : pg.1 12 161 = some (11, 12, 71) := rfl
set_option maxRecDepth 20000 in
theorem pq_12_164 : pg.1 12 164 = some (11, 12, 72) := rfl
set_option maxRecDepth 20000 in
theorem pq_12_167 : pg.1 12 167 = some (11, 12, 73) := rfl
set_option maxRecDepth 20000 in
theorem pq_12_170 : pg.1 12 170 = some (11, 12, 74) := rfl
set_option maxRecDepth 20000 in
theorem pq_12_173 : pg.1 12 173 = some (11, 12, 75) := rfl
set_option maxRecDepth 20000 in
theorem pq_12_176 : pg.1 12 176 = some (11, 12, 76) := rfl
set_option maxRecDepth 20000 in
theorem pq_12_179 : pg.1 12 179 = some (11, 12, 77) := rfl
set_option maxRecDepth 20000 in
theorem pq_12_182 : pg.1 12 182 = some (11, 12, 78) := rfl
set_option maxRecDepth 20000 in
theorem pq_12_185 : pg.1 12 185 = some (11, 12, 79) := rfl
set_option maxRecDepth 20000 in
theorem pq_12_188 : pg.1 12 188 = some (11, 12, 80) := rfl
set_option maxRecDepth 20000 in
theorem pq_12_191 : pg.1 12 191 = some (11, 12, 81) := rfl
set_option maxRecDepth 20000 in
theorem pq_12_194 : pg.1 12 194 = some (11, 12, 82) := rfl
set_option maxRecDepth 20000 in
theorem pq_12_197 : pg.1 12 197 = some (11, 12, 84) := rfl
set_option maxRecDepth 20000 in
theorem pq_12_200 : pg.1 12 200 = some (11, 12, 88) := rfl
set_option maxRecDepth 20000 in
theorem pq_12_203 : pg.1 12 203 = some (11, 12, 92) := rfl
set_option maxRecDepth 20000 in
theorem pq_12_206 : pg.1 12 206 = some (1, 12, 1) := rfl
set_option maxRecDepth 20000 in
theorem pq_12_209 : pg.1 12 209 = some (1, 12, 5) := rfl
set_option maxRecDepth 20000 in
theorem pq_12_212 : pg.1 12 212 = some (1, 12, 6) := rfl
set_option maxRecDepth 20000 in
theorem pq_12_215 : pg.1 12 215 = some (1, 12, 2) := rfl
set_option maxRecDepth 20000 in
theorem pq_12_218 : pg.1 12 218 = some (1, 12, 3) := rfl
set_option maxRecDepth 20000 in
theorem pq_12_221 : pg.1 12 221 = some (2, 175, 1) := rfl
set_option maxRecDepth 20000 in
theorem pq_12_225 : pg.1 12 225 = some (12, 173, 1) := rfl
set_option maxRecDepth 20000 in
theorem pq_12_229 : pg.1 12 229 = some (1, 12, 4) := rfl
set_option maxRecDepth 20000 in
theorem pq_12_232 : pg.1 12 232 = some (2, 176, 2) := rfl
set_option maxRecDepth 20000 in
theorem pq_12_236 : pg.1 12 236 = some (2, 177, 2) := rfl
set_option maxRecDepth 20000 in
theorem pq_12_239 : pg.1 12 239 = some (2, 172, 3) := rfl
set_option maxRecDepth 20000 in
theorem pq_12_243 : pg.1 12 243 = some (2, 179, 2) := rfl
set_option maxRecDepth 20000 in
theorem pq_12_246 : pg.1 12 246 = some (12, 174, 1) := rfl
set_option maxRecDepth 20000 in
theorem pq_12_249 : pg.1 12 249 = some (12, 169, 3) := rfl
set_option maxRecDepth 20000 in
theorem pq_12_253 : pg.1 12 253 = some (2, 182, 1) := rfl
set_option maxRecDepth 20000 in
theorem pq_12_257 : pg.1 12 257 = some (1, 12, 29) := rfl
set_option maxRecDepth 20000 in
theorem pq_12_260 : pg.1 12 260 = some (5, 0, 27) := rfl
set_option maxRecDepth 20000 in
theorem pq_12_262 : pg.1 12 262 = some (5, 0, 97) := rfl
set_option maxRecDepth 20000 in
theorem pq_12_264 : pg.1 12 264 = some (2, 183, 1) := rfl
set_option maxRecDepth 20000 in
theorem pq_12_268 : pg.1 12 268 = some (2, 185, 3) := rfl
set_option maxRecDepth 20000 in
theorem pq_12_272 : pg.1 12 272 = some (2, 184, 4) := rfl
set_option maxRecDepth 20000 in
theorem pq_12_276 : pg.1 12 276 = some (2, 186, 1) := rfl
set_option maxRecDepth 20000 in
theorem pq_12_279 : pg.1 12 279 = some (2, 178, 2) := rfl
set_option maxRecDepth 20000 in
theorem pq_12_283 : pg.1 12 283 = some (2, 181, 3) := rfl
set_option maxRecDepth 20000 in
theorem pq_12_287 : pg.1 12 287 = some (2, 187, 2) := rfl
set_option maxRecDepth 20000 in
theorem pq_12_291 : pg.1 12 291 = some (1, 12, 40) := rfl
set_option maxRecDepth 20000 in
theorem pq_12_294 : pg.1 12 294 = some (1, 12, 42) := rfl
set_option maxRecDepth 20000 in
theorem pq_12_297 : pg.1 12 297 = some (1, 12, 43) := rfl
set_option maxRecDepth 20000 in
theorem pq_12_300 : pg.1 12 300 = some (1, 12, 44) := rfl
set_option maxRecDepth 20000 in
theorem pq_12_303 : pg.1 12 303 = some (2, 205, 1) := rfl
set_option maxRecDepth 20000 in
theorem pq_12_306 : pg.1 12 306 = some (1, 12, 38) := rfl
set_option maxRecDepth 20000 in
theorem pq_12_309 : pg.1 12 309 = some (2, 188, 2) := rfl
set_option maxRecDepth 20000 in
theorem pq_12_313 : pg.1 12 313 = some (2, 189, 2) := rfl
set_option maxRecDepth 20000 in
theorem pq_12_316 : pg.1 12 316 = some (2, 190, 1) := rfl
set_option maxRecDepth 20000 in
theorem pq_12_319 : pg.1 12 319 = some (2, 191, 2) := rfl
set_option maxRecDepth 20000 in
theorem pq_12_322 : pg.1 12 322 = some (2, 192, 3) := rfl
set_option maxRecDepth 20000 in
theorem pq_12_325 : pg.1 12 325 = some (2, 180, 2) := rfl
set_option maxRecDepth 20000 in
theorem pq_12_328 : pg.1 12 328 = some (2, 193, 1) := rfl
set_option maxRecDepth 20000 in
theorem pq_12_331 : pg.1 12 331 = some (1, 12, 7) := rfl
set_option maxRecDepth 20000 in
theorem pq_12_334 : pg.1 12 334 = some (2, 195, 1) := rfl
set_option maxRecDepth 20000 in
theorem pq_12_337 : pg.1 12 337 = some (1, 12, 58) := rfl
set_option maxRecDepth 20000 in
theorem pq_12_340 : pg.1 12 340 = some (1, 12, 61) := rfl
set_option maxRecDepth 20000 in
theorem pq_12_343 : pg.1 12 343 = some (2, 196, 2) := rfl
set_option maxRecDepth 20000 in
theorem pq_12_346 : pg.1 12 346 = some (2, 200, 2) := rfl
set_option maxRecDepth 20000 in
theorem pq_12_349 : pg.1 12 349 = some (2, 199, 1) := rfl
set_option maxRecDepth 20000 in
theorem pq_12_352 : pg.1 12 352 = some (2, 197, 3) := rfl
set_option maxRecDepth 20000 in
theorem pq_12_355 : pg.1 12 355 = some (2, 201, 1) := rfl
set_option maxRecDepth 20000 in
theorem pq_12_358 : pg.1 12 358 = some (2, 202, 1) := rfl
set_option maxRecDepth 20000 in
theorem pq_12_361 : pg.1 12 361 = some (2, 198, 2) := rfl
set_option maxRecDepth 20000 in
theorem pq_12_364 : pg.1 12 364 = some (2, 203, 1) := rfl
set_option maxRecDepth 20000 in
theorem pq_12_367 : pg.1 12 367 = some (2, 204, 1) := rfl
set_option maxRecDepth 20000 in
theorem pq_12_370 : pg.1 12 370 = some (5, 0, 1000000) := rfl
set_option maxRecDepth 20000 in
theorem pq_12_372 : pg.1 12 372 = some (5, 0, (-1000000)) := rfl
set_option maxRecDepth 20000 in
theorem pq_12_374 : pg.1 12 374 = some (1, 12, 46) := rfl
set_option maxRecDepth 20000 in
theorem pq_12_377 : pg.1 12 377 = some (12, 207, 1) := rfl
set_option maxRecDepth 20000 in
theorem pq_12_381 : pg.1 12 381 = some (2, 209, 2) := rfl
set_option maxRecDepth 20000 in
theorem pq_12_385 : pg.1 12 385 = some (12, 208, 2) := rfl
set_option maxRecDepth 20000 in
theorem pq_12_389 : pg.1 12 389 = some (2, 211, 1) := rfl
set_option maxRecDepth 20000 in
theorem pq_12_392 : pg.1 12 392 = some (2, 212, 1) := rfl
set_option maxRecDepth 20000 in
theorem pq_12_395 : pg.1 12 395 = some (2, 217, 3) := rfl
set_option maxRecDepth 20000 in
theorem pq_12_398 : pg.1 12 398 = some (2, 221, 2) := rfl
set_option maxRecDepth 20000 in
theorem pq_12_401 : pg.1 12 401 = some (2, 216, 2) := rfl
set_option maxRecDepth 20000 in
theorem pq_12_404 : pg.1 12 404 = some (2, 225, 4) := rfl
set_option maxRecDepth 20000 in
theorem pq_12_408 : pg.1 12 408 = some (2, 222, 2) := rfl
set_option maxRecDepth 20000 in
theorem pq_12_411 : pg.1 12 411 = some (2, 223, 2) := rfl
set_option maxRecDepth 20000 in
theorem pq_12_414 : pg.1 12 414 = some (5, 0, 7) := rfl
set_option maxRecDepth 20000 in
theorem pq_12_416 : pg.1 12 416 = some (5, 0, 12) := rfl
set_option maxRecDepth 20000 in
theorem pq_12_418 : pg.1 12 418 = some (2, 210, 2) := rfl
set_option maxRecDepth 20000 in
theorem pq_12_421 : pg.1 12 421 = some (5, 0, 999) := rfl
set_option maxRecDepth 20000 in
theorem pq_12_423 : pg.1 12 423 = some (2, 226, 4) := rfl
set_option maxRecDepth 20000 in
theorem pq_12_426 : pg.1 12 426 = some (2, 227, 5) := rfl
set_option maxRecDepth 20000 in
theorem pq_12_430 : pg.1 12 430 = some (2, 218, 3) := rfl
set_option maxRecDepth 20000 in
theorem pq_12_433 : pg.1 12 433 = some (2, 224, 2) := rfl
set_option maxRecDepth 20000 in
theorem pq_12_436 : pg.1 12 436 = some (2, 213, 1) := rfl
set_option maxRecDepth 20000 in
theorem pq_12_439 : pg.1 12 439 = some (2, 231, 1) := rfl
set_option maxRecDepth 20000 in
theorem pq_12_442 : pg.1 12 442 = some (5, 0, 2) := rfl
set_option maxRecDepth 20000 in
theorem pq_12_444 : pg.1 12 444 = some (5, 0, 5) := rfl
set_option maxRecDepth 20000 in
theorem pq_12_446 : pg.1 12 446 = some (2, 215, 2) := rfl
set_option maxRecDepth 20000 in
theorem pq_12_449 : pg.1 12 449 = some (2, 230, 2) := rfl
set_option maxRecDepth 20000 in
theorem pq_12_452 : pg.1 12 452 = some (2, 214, 2) := rfl
set_option maxRecDepth 20000 in
theorem pq_12_455 : pg.1 12 455 = some (5, 0, 4) := rfl
set_option maxRecDepth 20000 in
theorem pq_12_457 : pg.1 12 457 = some (1, 12, 50) := rfl
set_option maxRecDepth 20000 in
theorem pq_12_460 : pg.1 12 460 = some (2, 219, 3) := rfl
set_option maxRecDepth 20000 in
theorem pq_12_463 : pg.1 12 463 = some (2, 228, 5) := rfl
set_option maxRecDepth 20000 in
theorem pq_12_467 : pg.1 12 467 = some (5, 0, 199) := rfl
set_option maxRecDepth 20000 in
theorem pq_12_469 : pg.1 12 469 = some (2, 237, 2) := rfl
set_option maxRecDepth 20000 in
theorem pq_12_472 : pg.1 12 472 = some (5, 0, 200) := rfl
set_option maxRecDepth 20000 in
theorem pq_12_474 : pg.1 12 474 = some (2, 241, 3) := rfl
set_option maxRecDepth 20000 in
theorem pq_12_478 : pg.1 12 478 = some (2, 242, 2) := rfl
set_option maxRecDepth 20000 in
theorem pq_12_482 : pg.1 12 482 = some (1, 12, 52) := rfl
set_option maxRecDepth 20000 in
theorem pq_12_485 : pg.1 12 485 = some (1, 12, 54) := rfl
set_option maxRecDepth 20000 in
theorem pq_12_488 : pg.1 12 488 = some (2, 244, 5) := rfl
set_option maxRecDepth 20000 in
theorem pq_12_492 : pg.1 12 492 = some (1, 12, 53) := rfl
set_option maxRecDepth 20000 in
theorem pq_12_495 : pg.1 12 495 = some (2, 245, 3) := rfl
set_option maxRecDepth 20000 in
theorem pq_12_498 : pg.1 12 498 = some (2, 246, 2) := rfl
set_option maxRecDepth 20000 in
theorem pq_12_501 : pg.1 12 501 = some (12, 250, 1) := rfl
set_option maxRecDepth 20000 in
theorem pq_12_504 : pg.1 12 504 = some (2, 251, 3) := rfl
set_option maxRecDepth 20000 in
theorem pq_12_507 : pg.1 12 507 = some (2, 253, 1) := rfl
set_option maxRecDepth 20000 in
theorem pq_12_510 : pg.1 12 510 = some (2, 258, 3) := rfl
set_option maxRecDepth 20000 in
theorem pq_12_513 : pg.1 12 513 = some (2, 259, 3) := rfl
set_option maxRecDepth 20000 in
theorem pq_12_516 : pg.1 12 516 = some (2, 260, 3) := rfl
set_option maxRecDepth 20000 in
theorem pq_12_519 : pg.1 12 519 = some (2, 256, 2) := rfl
set_option maxRecDepth 20000 in
theorem pq_12_523 : pg.1 12 523 = some (2, 257, 6) := rfl
set_option maxRecDepth 20000 in
theorem pq_12_527 : pg.1 12 527 = some (5, 0, 3) := rfl
set_option maxRecDepth 20000 in
theorem pq_12_529 : pg.1 12 529 = some (2, 255, 4) := rfl
set_option maxRecDepth 20000 in
theorem pq_12_532 : pg.1 12 532 = some (2, 229, 2) := rfl
set_option maxRecDepth 20000 in
theorem pq_12_535 : pg.1 12 535 = some (5, 0, 100) := rfl
set_option maxRecDepth 20000 in
theorem pq_12_537 : pg.1 12 537 = some (2, 262, 4) := rfl
set_option maxRecDepth 20000 in
theorem pq_12_541 : pg.1 12 541 = some (5, 0, 1000) := rfl
set_option maxRecDepth 20000 in
theorem pq_12_543 : pg.1 12 543 = some (1, 12, 59) := rfl
set_option maxRecDepth 20000 in
theorem pq_12_546 : pg.1 12 546 = some (2, 266, 1) := rfl
set_option maxRecDepth 20000 in
theorem pq_12_549 : pg.1 12 549 = some (2, 264, 1) := rfl
set_option maxRecDepth 20000 in
theorem pq_12_552 : pg.1 12 552 = some (2, 220, 3) := rfl
set_option maxRecDepth 20000 in
theorem pq_12_555 : pg.1 12 555 = some (5, 0, (-1)) := rfl
set_option maxRecDepth 20000 in
theorem pq_12_557 : pg.1 12 557 = some (5, 0, 1103515245) := rfl
set_option maxRecDepth 20000 in
theorem pq_12_559 : pg.1 12 559 = some (5, 0, 12345) := rfl
set_option maxRecDepth 20000 in
theorem pq_12_561 : pg.1 12 561 = some (5, 0, 2147483648) := rfl
set_option maxRecDepth 20000 in
theorem pq_12_563 : pg.1 12 563 = some (5, 0, 64) := rfl
set_option maxRecDepth 20000 in
theorem pq_12_565 : pg.1 12 565 = some (2, 272, 2) := rfl
set_option maxRecDepth 20000 in
theorem pq_12_568 : pg.1 12 568 = some (5, 0, 20) := rfl
set_option maxRecDepth 20000 in
theorem pq_12_570 : pg.1 12 570 = some (1, 12, 62) := rfl
set_option maxRecDepth 20000 in
theorem pq_12_573 : pg.1 12 573 = some (2, 275, 3) := rfl
set_option maxRecDepth 20000 in
theorem pq_12_576 : pg.1 12 576 = some (1, 12, 83) := rfl
set_option maxRecDepth 20000 in
theorem pq_12_579 : pg.1 12 579 = some (1, 12, 86) := rfl
set_option maxRecDepth 20000 in
theorem pq_12_582 : pg.1 12 582 = some (1, 12, 85) := rfl
set_option maxRecDepth 20000 in
theorem pq_12_585 : pg.1 12 585 = some (2, 277, 2) := rfl
set_option maxRecDepth 20000 in
theorem pq_12_588 : pg.1 12 588 = some (1, 12, 87) := rfl
set_option maxRecDepth 20000 in
theorem pq_12_591 : pg.1 12 591 = some (12, 281, 1) := rfl
set_option maxRecDepth 20000 in
theorem pq_12_594 : pg.1 12 594 = some (2, 280, 1) := rfl
set_option maxRecDepth 20000 in
theorem pq_12_597 : pg.1 12 597 = some (2, 284, 1) := rfl
set_option maxRecDepth 20000 in
theorem pq_12_600 : pg.1 12 600 = some (2, 285, 3) := rfl
set_option maxRecDepth 20000 in
theorem pq_12_603 : pg.1 12 603 = some (2, 278, 3) := rfl
set_option maxRecDepth 20000 in
theorem pq_12_606 : pg.1 12 606 = some (2, 286, 2) := rfl
set_option maxRecDepth 20000 in
theorem pq_12_609 : pg.1 12 609 = some (2, 287, 1) := rfl
set_option maxRecDepth 20000 in
theorem pq_12_612 : pg.1 12 612 = some (2, 282, 1) := rfl
set_option maxRecDepth 20000 in
theorem pq_12_615 : pg.1 12 615 = some (2, 283, 1) := rfl
set_option maxRecDepth 20000 in
theorem pq_12_618 : pg.1 12 618 = some (2, 279, 2) := rfl
set_option maxRecDepth 20000 in
theorem pq_12_621 : pg.1 12 621 = some (2, 288, 1) := rfl
set_option maxRecDepth 20000 in
theorem pq_12_624 : pg.1 12 624 = some (2, 289, 1) := rfl
set_option maxRecDepth 20000 in
theorem pq_12_627 : pg.1 12 627 = some (2, 290, 1) := rfl
set_option maxRecDepth 20000 in
theorem pq_12_630 : pg.1 12 630 = some (2, 291, 1) := rfl
set_option maxRecDepth 20000 in
theorem pq_12_633 : pg.1 12 633 = some (2, 293, 1) := rfl
set_option maxRecDepth 20000 in
theorem pq_12_636 : pg.1 12 636 = some (2, 295, 1) := rfl
set_option maxRecDepth 20000 in
theorem pq_12_639 : pg.1 12 639 = some (2, 292, 1) := rfl
set_option maxRecDepth 20000 in
theorem pq_12_642 : pg.1 12 642 = some (1, 12, 89) := rfl
set_option maxRecDepth 20000 in
theorem pq_12_645 : pg.1 12 645 = some (12, 296, 1) := rfl
set_option maxRecDepth 20000 in
theorem pq_12_648 : pg.1 12 648 = some (2, 298, 2) := rfl
set_option maxRecDepth 20000 in
theorem pq_12_651 : pg.1 12 651 = some (12, 297, 2) := rfl
set_option maxRecDepth 20000 in
theorem pq_12_654 : pg.1 12 654 = some (2, 306, 2) := rfl
set_option maxRecDepth 20000 in
theorem pq_12_658 : pg.1 12 658 = some (2, 301, 4) := rfl
set_option maxRecDepth 20000 in
theorem pq_12_662 : pg.1 12 662 = some (2, 300, 3) := rfl
set_option maxRecDepth 20000 in
theorem pq_12_666 : pg.1 12 666 = some (2, 299, 2) := rfl
set_option maxRecDepth 20000 in
theorem pq_12_669 : pg.1 12 669 = some (1, 12, 90) := rfl
set_option maxRecDepth 20000 in
theorem pq_12_672 : pg.1 12 672 = some (1, 12, 91) := rfl
set_option maxRecDepth 20000 in
theorem pq_12_676 : pg.1 12 676 = some (5, 0, (-1000000000000000)) := rfl
set_option maxRecDepth 20000 in
theorem pq_12_678 : pg.1 12 678 = some (2, 303, 1) := rfl
set_option maxRecDepth 20000 in
theorem pq_12_681 : pg.1 12 681 = some (2, 294, 1) := rfl
set_option maxRecDepth 20000 in
theorem pq_12_684 : pg.1 12 684 = some (2, 302, 2) := rfl
set_option maxRecDepth 20000 in
theorem pq_12_687 : pg.1 12 687 = some (2, 304, 4) := rfl
set_option maxRecDepth 20000 in
theorem pq_12_691 : pg.1 12 691 = some (1, 12, 93) := rfl
set_option maxRecDepth 20000 in
theorem pq_12_694 : pg.1 12 694 = some (2, 308, 2) := rfl
set_option maxRecDepth 20000 in
theorem pq_12_697 : pg.1 12 697 = some (12, 307, 2) := rfl
set_option maxRecDepth 20000 in
theorem pq_12_701 : pg.1 12 701 = some (2, 311, 2) := rfl
set_option maxRecDepth 20000 in
theorem pq_13_7 : pg.1 13 7 = some (3, 11, 0) := rfl
set_option maxRecDepth 20000 in
theorem pq_13_9 : pg.1 13 9 = some (13, 125, 1) := rfl
set_option maxRecDepth 20000 in
theorem pq_13_10 : pg.1 13 10 = some (3, 12, 0) := rfl
set_option maxRecDepth 20000 in
theorem pq_13_12 : pg.1 13 12 = some (13, 168, 1) := rfl
set_option maxRecDepth 20000 in
theorem pq_13_13 : pg.1 13 13 = some (2, 126, 6) := rfl
set_option maxRecDepth 20000 in
theorem pq_13_17 : pg.1 13 17 = some (2, 170, 6) := rfl
set_option maxRecDepth 20000 in
theorem pq_13_18 : pg.1 13 18 = some (2, 127, 2) := rfl
set_option maxRecDepth 20000 in
theorem pq_13_22 : pg.1 13 22 = some (2, 171, 2) := rfl
set_option maxRecDepth 20000 in
theorem pq_13_23 : pg.1 13 23 = some (2, 128, 1) := rfl
set_option maxRecDepth 20000 in
theorem pq_13_27 : pg.1 13 27 = some (2, 194, 1) := rfl
set_option maxRecDepth 20000 in
theorem pq_13_28 : pg.1 13 28 = some (2, 129, 2) := rfl
set_option maxRecDepth 20000 in
theorem pq_13_32 : pg.1 13 32 = some (2, 206, 2) := rfl
set_option maxRecDepth 20000 in
theorem pq_13_33 : pg.1 13 33 = some (2, 130, 2) := rfl
set_option maxRecDepth 20000 in
theorem pq_13_36 : pg.1 13 36 = some (2, 232, 2) := rfl
set_option maxRecDepth 20000 in
theorem pq_13_37 : pg.1 13 37 = some (2, 131, 4) := rfl
set_option maxRecDepth 20000 in
theorem pq_13_41 : pg.1 13 41 = some (2, 233, 4) := rfl
set_option maxRecDepth 20000 in
theorem pq_13_42 : pg.1 13 42 = some (2, 132, 3) := rfl
set_option maxRecDepth 20000 in
theorem pq_13_46 : pg.1 13 46 = some (2, 234, 3) := rfl
set_option maxRecDepth 20000 in
theorem pq_13_47 : pg.1 13 47 = some (2, 133, 4) := rfl
set_option maxRecDepth 20000 in
theorem pq_13_50 : pg.1 13 50 = some (2, 235, 4) := rfl
set_option maxRecDepth 20000 in
theorem pq_13_51 : pg.1 13 51 = some (2, 134, 2) := rfl
set_option maxRecDepth 20000 in
theorem pq_13_54 : pg.1 13 54 = some (2, 236, 2) := rfl
set_option maxRecDepth 20000 in
theorem pq_13_55 : pg.1 13 55 = some (2, 135, 3) := rfl
set_option maxRecDepth 20000 in
theorem pq_13_58 : pg.1 13 58 = some (2, 238, 3) := rfl
set_option maxRecDepth 20000 in
theorem pq_13_59 : pg.1 13 59 = some (2, 136, 4) := rfl
set_option maxRecDepth 20000 in
theorem pq_13_62 : pg.1 13 62 = some (2, 239, 4) := rfl
set_option maxRecDepth 20000 in
theorem pq_13_63 : pg.1 13 63 = some (2, 137, 2) := rfl
set_option maxRecDepth 20000 in
theorem pq_13_66 : pg.1 13 66 = some (2, 240, 2) := rfl
set_option maxRecDepth 20000 in
theorem pq_13_67 : pg.1 13 67 = some (2, 138, 3) := rfl
set_option maxRecDepth 20000 in
theorem pq_13_70 : pg.1 13 70 = some (2, 243, 3) := rfl
set_option maxRecDepth 20000 in
theorem pq_13_71 : pg.1 13 71 = some (2, 139, 3) := rfl
set_option maxRecDepth 20000 in
theorem pq_13_74 : pg.1 13 74 = some (2, 247, 3) := rfl
set_option maxRecDepth 20000 in
theorem pq_13_75 : pg.1 13 75 = some (2, 140, 3) := rfl
set_option maxRecDepth 20000 in
theorem pq_13_78 : pg.1 13 78 = some (2, 248, 3) := rfl
set_option maxRecDepth 20000 in
theorem pq_13_79 : pg.1 13 79 = some (2, 141, 3) := rfl
set_option maxRecDepth 20000 in
theorem pq_13_82 : pg.1 13 82 = some (2, 249, 3) := rfl
set_option maxRecDepth 20000 in
theorem pq_13_83 : pg.1 13 83 = some (2, 142, 4) := rfl
set_option maxRecDepth 20000 in
theorem pq_13_86 : pg.1 13 86 = some (2, 252, 4) := rfl
set_option maxRecDepth 20000 in
theorem pq_13_87 : pg.1 13 87 = some (2, 143, 4) := rfl
set_option maxRecDepth 20000 in
theorem pq_13_90 : pg.1 13 90 = some (2, 254, 4) := rfl
set_option maxRecDepth 20000 in
theorem pq_13_91 : pg.1 13 91 = some (2, 144, 3) := rfl
set_option maxRecDepth 20000 in
theorem pq_13_94 : pg.1 13 94 = some (2, 261, 3) := rfl
set_option maxRecDepth 20000 in
theorem pq_13_95 : pg.1 13 95 = some (2, 145, 3) := rfl
set_option maxRecDepth 20000 in
theorem pq_13_98 : pg.1 13 98 = some (2, 263, 3) := rfl
set_option maxRecDepth 20000 in
theorem pq_13_99 : pg.1 13 99 = some (2, 146, 3) := rfl
set_option maxRecDepth 20000 in
theorem pq_13_103 : pg.1 13 103 = some (2, 267, 3) := rfl
set_option maxRecDepth 20000 in
theorem pq_13_104 : pg.1 13 104 = some (2, 147, 3) := rfl
set_option maxRecDepth 20000 in
theorem pq_13_107 : pg.1 13 107 = some (2, 268, 3) := rfl
set_option maxRecDepth 20000 in
theorem pq_13_108 : pg.1 13 108 = some (2, 148, 3) := rfl
set_option maxRecDepth 20000 in
theorem pq_13_112 : pg.1 13 112 = some (2, 269, 3) := rfl
set_option maxRecDepth 20000 in
theorem pq_13_113 : pg.1 13 113 = some (2, 149, 4) := rfl
set_option maxRecDepth 20000 in
theorem pq_13_116 : pg.1 13 116 = some (2, 270, 4) := rfl
set_option maxRecDepth 20000 in
theorem pq_13_117 : pg.1 13 117 = some (2, 150, 3) := rfl
set_option maxRecDepth 20000 in
theorem pq_13_120 : pg.1 13 120 = some (2, 273, 3) := rfl
set_option maxRecDepth 20000 in
theorem pq_13_121 : pg.1 13 121 = some (2, 151, 1) := rfl
set_option maxRecDepth 20000 in
theorem pq_13_125 : pg.1 13 125 = some (2, 265, 1) := rfl
set_option maxRecDepth 20000 in
theorem pq_13_126 : pg.1 13 126 = some (2, 152, 2) := rfl
set_option maxRecDepth 20000 in
theorem pq_13_129 : pg.1 13 129 = some (2, 271, 2) := rfl
set_option maxRecDepth 20000 in
theorem pq_13_130 : pg.1 13 130 = some (2, 153, 2) := rfl
set_option maxRecDepth 20000 in
theorem pq_13_133 : pg.1 13 133 = some (2, 274, 2) := rfl
set_option maxRecDepth 20000 in
theorem pq_13_134 : pg.1 13 134 = some (2, 154, 3) := rfl
set_option maxRecDepth 20000 in
theorem pq_13_137 : pg.1 13 137 = some (2, 276, 3) := rfl
set_option maxRecDepth 20000 in
theorem pq_13_138 : pg.1 13 138 = some (2, 155, 2) := rfl
set_option maxRecDepth 20000 in
theorem pq_13_142 : pg.1 13 142 = some (2, 305, 2) := rfl
set_option maxRecDepth 20000 in
theorem pq_13_143 : pg.1 13 143 = some (2, 156, 1) := rfl
set_option maxRecDepth 20000 in
theorem pq_13_146 : pg.1 13 146 = some (2, 309, 1) := rfl
set_option maxRecDepth 20000 in
theorem pq_13_147 : pg.1 13 147 = some (2, 157, 2) := rfl
set_option maxRecDepth 20000 in
theorem pq_13_150 : pg.1 13 150 = some (2, 310, 2) := rfl
set_option maxRecDepth 20000 in
theorem pq_13_151 : pg.1 13 151 = some (2, 158, 1) := rfl
set_option maxRecDepth 20000 in
theorem pq_13_154 : pg.1 13 154 = some (2, 312, 1) := rfl
set_option maxRecDepth 20000 in
theorem pq_13_155 : pg.1 13 155 = some (2, 159, 2) := rfl
set_option maxRecDepth 20000 in
theorem pq_13_158 : pg.1 13 158 = some (2, 313, 2) := rfl
set_option maxRecDepth 20000 in
theorem pq_15_265 : pg.1 15 265 = some (4, 0, 1431655765) := rfl
set_option maxRecDepth 20000 in
theorem pq_15_266 : pg.1 15 266 = some (4, 0, 858993459) := rfl
set_option maxRecDepth 20000 in
theorem pq_15_267 : pg.1 15 267 = some (4, 0, 252645135) := rfl
