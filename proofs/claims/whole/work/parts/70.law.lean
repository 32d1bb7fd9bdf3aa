/-! THE LAW over the small machine: written by program -/
def tb_lawh : List IR := [
  (18, .iload_n 3, 1, 19, []), (19, .aload_n 0, 1, 20, []), (20, .arraylength, 1, 21, []), (21, .bipush 6, 2, 23, []), (23, .isub, 1, 24, []), (24, .if_icmp .gt 1371, 3, 27, [(0, 1395)]), (27, .aload_n 0, 1, 28, []),
  (28, .iload_n 3, 1, 29, []), (29, .iaload, 1, 30, []), (30, .bipush 63, 2, 32, []), (32, .iand, 1, 33, []), (33, .tableswitch 1356 0 39 #[175, 208, 231, 254, 277, 300, 333, 376, 409, 442, 475, 508, 531, 554, 577, 590, 613, 626, 669, 702, 735, 768, 811, 844, 897, 910, 933, 946, 979, 1022, 1035, 1048, 1061, 1104, 1127, 1180, 1223, 1286, 1319, 1342], 175, 208, [(0, 1389), (0, 208), (1, 241), (2, 264), (3, 287), (4, 310), (5, 333), (6, 366), (7, 409), (8, 442), (9, 475), (10, 508), (11, 541), (12, 564), (13, 587), (14, 610), (15, 623), (16, 646), (17, 659), (18, 702), (19, 735), (20, 768), (21, 801), (22, 844), (23, 877), (24, 930), (25, 943), (26, 966), (27, 979), (28, 1012), (29, 1055), (30, 1068), (31, 1081), (32, 1094), (33, 1137), (34, 1160), (35, 1213), (36, 1256), (37, 1319), (38, 1352), (39, 1375)]),
  (1389, .iinc 3 6, 3, 1392, []), (1392, .goto (-1374), 3, 1395, [(0, 18)]), (1395, .iconst 1, 1, 1396, []), (1396, .ireturn, 1, 1397, [])]
def tb_law_0 : List IR := [
  (208, .aload_n 1, 1, 209, []), (209, .aload_n 0, 1, 210, []), (210, .iload_n 3, 1, 211, []), (211, .iconst 1, 1, 212, []), (212, .iadd, 1, 213, []), (213, .iaload, 1, 214, []), (214, .aload_n 0, 1, 215, []),
  (215, .iload_n 3, 1, 216, []), (216, .iconst 2, 1, 217, []), (217, .iadd, 1, 218, []), (218, .iaload, 1, 219, []), (219, .invokevirtual 13, 3, 222, []), (222, .aload_n 2, 1, 223, []), (223, .aload_n 0, 1, 224, []),
  (224, .iload_n 3, 1, 225, []), (225, .iconst 1, 1, 226, []), (226, .iadd, 1, 227, []), (227, .iaload, 1, 228, []), (228, .aload_n 0, 1, 229, []), (229, .iload_n 3, 1, 230, []), (230, .iconst 2, 1, 231, []),
  (231, .iadd, 1, 232, []), (232, .iaload, 1, 233, []), (233, .invokevirtual 17, 3, 236, []), (236, .if_icmp .eq 1153, 3, 239, [(0, 1389)]), (239, .iconst 0, 1, 240, []), (240, .ireturn, 1, 241, [])]
def tb_law_1 : List IR := [
  (241, .aload_n 1, 1, 242, []), (242, .aload_n 0, 1, 243, []), (243, .iload_n 3, 1, 244, []), (244, .iconst 1, 1, 245, []), (245, .iadd, 1, 246, []), (246, .iaload, 1, 247, []), (247, .invokevirtual 18, 3, 250, []),
  (250, .aload_n 2, 1, 251, []), (251, .aload_n 0, 1, 252, []), (252, .iload_n 3, 1, 253, []), (253, .iconst 1, 1, 254, []), (254, .iadd, 1, 255, []), (255, .iaload, 1, 256, []), (256, .invokevirtual 22, 3, 259, []),
  (259, .if_icmp .eq 1130, 3, 262, [(0, 1389)]), (262, .iconst 0, 1, 263, []), (263, .ireturn, 1, 264, [])]
def tb_law_2 : List IR := [
  (264, .aload_n 1, 1, 265, []), (265, .aload_n 0, 1, 266, []), (266, .iload_n 3, 1, 267, []), (267, .iconst 1, 1, 268, []), (268, .iadd, 1, 269, []), (269, .iaload, 1, 270, []), (270, .invokevirtual 23, 3, 273, []),
  (273, .aload_n 2, 1, 274, []), (274, .aload_n 0, 1, 275, []), (275, .iload_n 3, 1, 276, []), (276, .iconst 1, 1, 277, []), (277, .iadd, 1, 278, []), (278, .iaload, 1, 279, []), (279, .invokevirtual 26, 3, 282, []),
  (282, .if_icmp .eq 1107, 3, 285, [(0, 1389)]), (285, .iconst 0, 1, 286, []), (286, .ireturn, 1, 287, [])]
def tb_law_3 : List IR := [
  (287, .aload_n 1, 1, 288, []), (288, .aload_n 0, 1, 289, []), (289, .iload_n 3, 1, 290, []), (290, .iconst 1, 1, 291, []), (291, .iadd, 1, 292, []), (292, .iaload, 1, 293, []), (293, .invokevirtual 27, 3, 296, []),
  (296, .aload_n 2, 1, 297, []), (297, .aload_n 0, 1, 298, []), (298, .iload_n 3, 1, 299, []), (299, .iconst 1, 1, 300, []), (300, .iadd, 1, 301, []), (301, .iaload, 1, 302, []), (302, .invokevirtual 30, 3, 305, []),
  (305, .if_icmp .eq 1084, 3, 308, [(0, 1389)]), (308, .iconst 0, 1, 309, []), (309, .ireturn, 1, 310, [])]
def tb_law_4 : List IR := [
  (310, .aload_n 1, 1, 311, []), (311, .aload_n 0, 1, 312, []), (312, .iload_n 3, 1, 313, []), (313, .iconst 1, 1, 314, []), (314, .iadd, 1, 315, []), (315, .iaload, 1, 316, []), (316, .invokevirtual 31, 3, 319, []),
  (319, .aload_n 2, 1, 320, []), (320, .aload_n 0, 1, 321, []), (321, .iload_n 3, 1, 322, []), (322, .iconst 1, 1, 323, []), (323, .iadd, 1, 324, []), (324, .iaload, 1, 325, []), (325, .invokevirtual 34, 3, 328, []),
  (328, .if_icmp .eq 1061, 3, 331, [(0, 1389)]), (331, .iconst 0, 1, 332, []), (332, .ireturn, 1, 333, [])]
def tb_law_5 : List IR := [
  (333, .aload_n 1, 1, 334, []), (334, .aload_n 0, 1, 335, []), (335, .iload_n 3, 1, 336, []), (336, .iconst 1, 1, 337, []), (337, .iadd, 1, 338, []), (338, .iaload, 1, 339, []), (339, .aload_n 0, 1, 340, []),
  (340, .iload_n 3, 1, 341, []), (341, .iconst 2, 1, 342, []), (342, .iadd, 1, 343, []), (343, .iaload, 1, 344, []), (344, .invokevirtual 35, 3, 347, []), (347, .aload_n 2, 1, 348, []), (348, .aload_n 0, 1, 349, []),
  (349, .iload_n 3, 1, 350, []), (350, .iconst 1, 1, 351, []), (351, .iadd, 1, 352, []), (352, .iaload, 1, 353, []), (353, .aload_n 0, 1, 354, []), (354, .iload_n 3, 1, 355, []), (355, .iconst 2, 1, 356, []),
  (356, .iadd, 1, 357, []), (357, .iaload, 1, 358, []), (358, .invokevirtual 38, 3, 361, []), (361, .if_icmp .eq 1028, 3, 364, [(0, 1389)]), (364, .iconst 0, 1, 365, []), (365, .ireturn, 1, 366, [])]
def tb_law_6 : List IR := [
  (366, .aload_n 1, 1, 367, []), (367, .aload_n 0, 1, 368, []), (368, .iload_n 3, 1, 369, []), (369, .iconst 1, 1, 370, []), (370, .iadd, 1, 371, []), (371, .iaload, 1, 372, []), (372, .aload_n 0, 1, 373, []),
  (373, .iload_n 3, 1, 374, []), (374, .iconst 2, 1, 375, []), (375, .iadd, 1, 376, []), (376, .iaload, 1, 377, []), (377, .aload_n 0, 1, 378, []), (378, .iload_n 3, 1, 379, []), (379, .iconst 3, 1, 380, []),
  (380, .iadd, 1, 381, []), (381, .iaload, 1, 382, []), (382, .invokevirtual 39, 3, 385, []), (385, .aload_n 2, 1, 386, []), (386, .aload_n 0, 1, 387, []), (387, .iload_n 3, 1, 388, []), (388, .iconst 1, 1, 389, []),
  (389, .iadd, 1, 390, []), (390, .iaload, 1, 391, []), (391, .aload_n 0, 1, 392, []), (392, .iload_n 3, 1, 393, []), (393, .iconst 2, 1, 394, []), (394, .iadd, 1, 395, []), (395, .iaload, 1, 396, []),
  (396, .aload_n 0, 1, 397, []), (397, .iload_n 3, 1, 398, []), (398, .iconst 3, 1, 399, []), (399, .iadd, 1, 400, []), (400, .iaload, 1, 401, []), (401, .invokevirtual 43, 3, 404, []), (404, .if_icmp .eq 985, 3, 407, [(0, 1389)]),
  (407, .iconst 0, 1, 408, []), (408, .ireturn, 1, 409, [])]
def tb_law_7 : List IR := [
  (409, .aload_n 1, 1, 410, []), (410, .aload_n 0, 1, 411, []), (411, .iload_n 3, 1, 412, []), (412, .iconst 1, 1, 413, []), (413, .iadd, 1, 414, []), (414, .iaload, 1, 415, []), (415, .aload_n 0, 1, 416, []),
  (416, .iload_n 3, 1, 417, []), (417, .iconst 2, 1, 418, []), (418, .iadd, 1, 419, []), (419, .iaload, 1, 420, []), (420, .invokevirtual 44, 3, 423, []), (423, .aload_n 2, 1, 424, []), (424, .aload_n 0, 1, 425, []),
  (425, .iload_n 3, 1, 426, []), (426, .iconst 1, 1, 427, []), (427, .iadd, 1, 428, []), (428, .iaload, 1, 429, []), (429, .aload_n 0, 1, 430, []), (430, .iload_n 3, 1, 431, []), (431, .iconst 2, 1, 432, []),
  (432, .iadd, 1, 433, []), (433, .iaload, 1, 434, []), (434, .invokevirtual 47, 3, 437, []), (437, .if_icmp .eq 952, 3, 440, [(0, 1389)]), (440, .iconst 0, 1, 441, []), (441, .ireturn, 1, 442, [])]
def tb_law_8 : List IR := [
  (442, .aload_n 1, 1, 443, []), (443, .aload_n 0, 1, 444, []), (444, .iload_n 3, 1, 445, []), (445, .iconst 1, 1, 446, []), (446, .iadd, 1, 447, []), (447, .iaload, 1, 448, []), (448, .aload_n 0, 1, 449, []),
  (449, .iload_n 3, 1, 450, []), (450, .iconst 2, 1, 451, []), (451, .iadd, 1, 452, []), (452, .iaload, 1, 453, []), (453, .invokevirtual 48, 3, 456, []), (456, .aload_n 2, 1, 457, []), (457, .aload_n 0, 1, 458, []),
  (458, .iload_n 3, 1, 459, []), (459, .iconst 1, 1, 460, []), (460, .iadd, 1, 461, []), (461, .iaload, 1, 462, []), (462, .aload_n 0, 1, 463, []), (463, .iload_n 3, 1, 464, []), (464, .iconst 2, 1, 465, []),
  (465, .iadd, 1, 466, []), (466, .iaload, 1, 467, []), (467, .invokevirtual 51, 3, 470, []), (470, .if_icmp .eq 919, 3, 473, [(0, 1389)]), (473, .iconst 0, 1, 474, []), (474, .ireturn, 1, 475, [])]
def tb_law_9 : List IR := [
  (475, .aload_n 1, 1, 476, []), (476, .aload_n 0, 1, 477, []), (477, .iload_n 3, 1, 478, []), (478, .iconst 1, 1, 479, []), (479, .iadd, 1, 480, []), (480, .iaload, 1, 481, []), (481, .aload_n 0, 1, 482, []),
  (482, .iload_n 3, 1, 483, []), (483, .iconst 2, 1, 484, []), (484, .iadd, 1, 485, []), (485, .iaload, 1, 486, []), (486, .invokevirtual 52, 3, 489, []), (489, .aload_n 2, 1, 490, []), (490, .aload_n 0, 1, 491, []),
  (491, .iload_n 3, 1, 492, []), (492, .iconst 1, 1, 493, []), (493, .iadd, 1, 494, []), (494, .iaload, 1, 495, []), (495, .aload_n 0, 1, 496, []), (496, .iload_n 3, 1, 497, []), (497, .iconst 2, 1, 498, []),
  (498, .iadd, 1, 499, []), (499, .iaload, 1, 500, []), (500, .invokevirtual 55, 3, 503, []), (503, .if_icmp .eq 886, 3, 506, [(0, 1389)]), (506, .iconst 0, 1, 507, []), (507, .ireturn, 1, 508, [])]
def tb_law_10 : List IR := [
  (508, .aload_n 1, 1, 509, []), (509, .aload_n 0, 1, 510, []), (510, .iload_n 3, 1, 511, []), (511, .iconst 1, 1, 512, []), (512, .iadd, 1, 513, []), (513, .iaload, 1, 514, []), (514, .aload_n 0, 1, 515, []),
  (515, .iload_n 3, 1, 516, []), (516, .iconst 2, 1, 517, []), (517, .iadd, 1, 518, []), (518, .iaload, 1, 519, []), (519, .invokevirtual 56, 3, 522, []), (522, .aload_n 2, 1, 523, []), (523, .aload_n 0, 1, 524, []),
  (524, .iload_n 3, 1, 525, []), (525, .iconst 1, 1, 526, []), (526, .iadd, 1, 527, []), (527, .iaload, 1, 528, []), (528, .aload_n 0, 1, 529, []), (529, .iload_n 3, 1, 530, []), (530, .iconst 2, 1, 531, []),
  (531, .iadd, 1, 532, []), (532, .iaload, 1, 533, []), (533, .invokevirtual 59, 3, 536, []), (536, .if_icmp .eq 853, 3, 539, [(0, 1389)]), (539, .iconst 0, 1, 540, []), (540, .ireturn, 1, 541, [])]
def tb_law_11 : List IR := [
  (541, .aload_n 1, 1, 542, []), (542, .aload_n 0, 1, 543, []), (543, .iload_n 3, 1, 544, []), (544, .iconst 1, 1, 545, []), (545, .iadd, 1, 546, []), (546, .iaload, 1, 547, []), (547, .invokevirtual 60, 3, 550, []),
  (550, .aload_n 2, 1, 551, []), (551, .aload_n 0, 1, 552, []), (552, .iload_n 3, 1, 553, []), (553, .iconst 1, 1, 554, []), (554, .iadd, 1, 555, []), (555, .iaload, 1, 556, []), (556, .invokevirtual 63, 3, 559, []),
  (559, .if_icmp .eq 830, 3, 562, [(0, 1389)]), (562, .iconst 0, 1, 563, []), (563, .ireturn, 1, 564, [])]
def tb_law_12 : List IR := [
  (564, .aload_n 1, 1, 565, []), (565, .aload_n 0, 1, 566, []), (566, .iload_n 3, 1, 567, []), (567, .iconst 1, 1, 568, []), (568, .iadd, 1, 569, []), (569, .iaload, 1, 570, []), (570, .invokevirtual 64, 3, 573, []),
  (573, .aload_n 2, 1, 574, []), (574, .aload_n 0, 1, 575, []), (575, .iload_n 3, 1, 576, []), (576, .iconst 1, 1, 577, []), (577, .iadd, 1, 578, []), (578, .iaload, 1, 579, []), (579, .invokevirtual 67, 3, 582, []),
  (582, .if_icmp .eq 807, 3, 585, [(0, 1389)]), (585, .iconst 0, 1, 586, []), (586, .ireturn, 1, 587, [])]
def tb_law_13 : List IR := [
  (587, .aload_n 1, 1, 588, []), (588, .aload_n 0, 1, 589, []), (589, .iload_n 3, 1, 590, []), (590, .iconst 1, 1, 591, []), (591, .iadd, 1, 592, []), (592, .iaload, 1, 593, []), (593, .invokevirtual 68, 3, 596, []),
  (596, .aload_n 2, 1, 597, []), (597, .aload_n 0, 1, 598, []), (598, .iload_n 3, 1, 599, []), (599, .iconst 1, 1, 600, []), (600, .iadd, 1, 601, []), (601, .iaload, 1, 602, []), (602, .invokevirtual 71, 3, 605, []),
  (605, .if_icmp .eq 784, 3, 608, [(0, 1389)]), (608, .iconst 0, 1, 609, []), (609, .ireturn, 1, 610, [])]
def tb_law_14 : List IR := [
  (610, .aload_n 1, 1, 611, []), (611, .invokevirtual 72, 3, 614, []), (614, .aload_n 2, 1, 615, []), (615, .invokevirtual 76, 3, 618, []), (618, .if_icmp .eq 771, 3, 621, [(0, 1389)]), (621, .iconst 0, 1, 622, []),
  (622, .ireturn, 1, 623, [])]
def tb_law_15 : List IR := [
  (623, .aload_n 1, 1, 624, []), (624, .aload_n 0, 1, 625, []), (625, .iload_n 3, 1, 626, []), (626, .iconst 1, 1, 627, []), (627, .iadd, 1, 628, []), (628, .iaload, 1, 629, []), (629, .invokevirtual 77, 3, 632, []),
  (632, .aload_n 2, 1, 633, []), (633, .aload_n 0, 1, 634, []), (634, .iload_n 3, 1, 635, []), (635, .iconst 1, 1, 636, []), (636, .iadd, 1, 637, []), (637, .iaload, 1, 638, []), (638, .invokevirtual 80, 3, 641, []),
  (641, .if_icmp .eq 748, 3, 644, [(0, 1389)]), (644, .iconst 0, 1, 645, []), (645, .ireturn, 1, 646, [])]
def tb_law_16 : List IR := [
  (646, .aload_n 1, 1, 647, []), (647, .invokevirtual 81, 3, 650, []), (650, .aload_n 2, 1, 651, []), (651, .invokevirtual 84, 3, 654, []), (654, .if_icmp .eq 735, 3, 657, [(0, 1389)]), (657, .iconst 0, 1, 658, []),
  (658, .ireturn, 1, 659, [])]
def tb_law_17 : List IR := [
  (659, .aload_n 1, 1, 660, []), (660, .aload_n 0, 1, 661, []), (661, .iload_n 3, 1, 662, []), (662, .iconst 1, 1, 663, []), (663, .iadd, 1, 664, []), (664, .iaload, 1, 665, []), (665, .aload_n 0, 1, 666, []),
  (666, .iload_n 3, 1, 667, []), (667, .iconst 2, 1, 668, []), (668, .iadd, 1, 669, []), (669, .iaload, 1, 670, []), (670, .aload_n 0, 1, 671, []), (671, .iload_n 3, 1, 672, []), (672, .iconst 3, 1, 673, []),
  (673, .iadd, 1, 674, []), (674, .iaload, 1, 675, []), (675, .invokevirtual 85, 3, 678, []), (678, .aload_n 2, 1, 679, []), (679, .aload_n 0, 1, 680, []), (680, .iload_n 3, 1, 681, []), (681, .iconst 1, 1, 682, []),
  (682, .iadd, 1, 683, []), (683, .iaload, 1, 684, []), (684, .aload_n 0, 1, 685, []), (685, .iload_n 3, 1, 686, []), (686, .iconst 2, 1, 687, []), (687, .iadd, 1, 688, []), (688, .iaload, 1, 689, []),
  (689, .aload_n 0, 1, 690, []), (690, .iload_n 3, 1, 691, []), (691, .iconst 3, 1, 692, []), (692, .iadd, 1, 693, []), (693, .iaload, 1, 694, []), (694, .invokevirtual 88, 3, 697, []), (697, .if_icmp .eq 692, 3, 700, [(0, 1389)]),
  (700, .iconst 0, 1, 701, []), (701, .ireturn, 1, 702, [])]
def tb_law_18 : List IR := [
  (702, .aload_n 1, 1, 703, []), (703, .aload_n 0, 1, 704, []), (704, .iload_n 3, 1, 705, []), (705, .iconst 1, 1, 706, []), (706, .iadd, 1, 707, []), (707, .iaload, 1, 708, []), (708, .aload_n 0, 1, 709, []),
  (709, .iload_n 3, 1, 710, []), (710, .iconst 2, 1, 711, []), (711, .iadd, 1, 712, []), (712, .iaload, 1, 713, []), (713, .invokevirtual 89, 3, 716, []), (716, .aload_n 2, 1, 717, []), (717, .aload_n 0, 1, 718, []),
  (718, .iload_n 3, 1, 719, []), (719, .iconst 1, 1, 720, []), (720, .iadd, 1, 721, []), (721, .iaload, 1, 722, []), (722, .aload_n 0, 1, 723, []), (723, .iload_n 3, 1, 724, []), (724, .iconst 2, 1, 725, []),
  (725, .iadd, 1, 726, []), (726, .iaload, 1, 727, []), (727, .invokevirtual 92, 3, 730, []), (730, .if_icmp .eq 659, 3, 733, [(0, 1389)]), (733, .iconst 0, 1, 734, []), (734, .ireturn, 1, 735, [])]
def tb_law_19 : List IR := [
  (735, .aload_n 1, 1, 736, []), (736, .aload_n 0, 1, 737, []), (737, .iload_n 3, 1, 738, []), (738, .iconst 1, 1, 739, []), (739, .iadd, 1, 740, []), (740, .iaload, 1, 741, []), (741, .aload_n 0, 1, 742, []),
  (742, .iload_n 3, 1, 743, []), (743, .iconst 2, 1, 744, []), (744, .iadd, 1, 745, []), (745, .iaload, 1, 746, []), (746, .invokevirtual 93, 3, 749, []), (749, .aload_n 2, 1, 750, []), (750, .aload_n 0, 1, 751, []),
  (751, .iload_n 3, 1, 752, []), (752, .iconst 1, 1, 753, []), (753, .iadd, 1, 754, []), (754, .iaload, 1, 755, []), (755, .aload_n 0, 1, 756, []), (756, .iload_n 3, 1, 757, []), (757, .iconst 2, 1, 758, []),
  (758, .iadd, 1, 759, []), (759, .iaload, 1, 760, []), (760, .invokevirtual 96, 3, 763, []), (763, .if_icmp .eq 626, 3, 766, [(0, 1389)]), (766, .iconst 0, 1, 767, []), (767, .ireturn, 1, 768, [])]
def tb_law_20 : List IR := [
  (768, .aload_n 1, 1, 769, []), (769, .aload_n 0, 1, 770, []), (770, .iload_n 3, 1, 771, []), (771, .iconst 1, 1, 772, []), (772, .iadd, 1, 773, []), (773, .iaload, 1, 774, []), (774, .aload_n 0, 1, 775, []),
  (775, .iload_n 3, 1, 776, []), (776, .iconst 2, 1, 777, []), (777, .iadd, 1, 778, []), (778, .iaload, 1, 779, []), (779, .invokevirtual 97, 3, 782, []), (782, .aload_n 2, 1, 783, []), (783, .aload_n 0, 1, 784, []),
  (784, .iload_n 3, 1, 785, []), (785, .iconst 1, 1, 786, []), (786, .iadd, 1, 787, []), (787, .iaload, 1, 788, []), (788, .aload_n 0, 1, 789, []), (789, .iload_n 3, 1, 790, []), (790, .iconst 2, 1, 791, []),
  (791, .iadd, 1, 792, []), (792, .iaload, 1, 793, []), (793, .invokevirtual 100, 3, 796, []), (796, .if_icmp .eq 593, 3, 799, [(0, 1389)]), (799, .iconst 0, 1, 800, []), (800, .ireturn, 1, 801, [])]
def tb_law_21 : List IR := [
  (801, .aload_n 1, 1, 802, []), (802, .aload_n 0, 1, 803, []), (803, .iload_n 3, 1, 804, []), (804, .iconst 1, 1, 805, []), (805, .iadd, 1, 806, []), (806, .iaload, 1, 807, []), (807, .aload_n 0, 1, 808, []),
  (808, .iload_n 3, 1, 809, []), (809, .iconst 2, 1, 810, []), (810, .iadd, 1, 811, []), (811, .iaload, 1, 812, []), (812, .aload_n 0, 1, 813, []), (813, .iload_n 3, 1, 814, []), (814, .iconst 3, 1, 815, []),
  (815, .iadd, 1, 816, []), (816, .iaload, 1, 817, []), (817, .invokevirtual 101, 3, 820, []), (820, .aload_n 2, 1, 821, []), (821, .aload_n 0, 1, 822, []), (822, .iload_n 3, 1, 823, []), (823, .iconst 1, 1, 824, []),
  (824, .iadd, 1, 825, []), (825, .iaload, 1, 826, []), (826, .aload_n 0, 1, 827, []), (827, .iload_n 3, 1, 828, []), (828, .iconst 2, 1, 829, []), (829, .iadd, 1, 830, []), (830, .iaload, 1, 831, []),
  (831, .aload_n 0, 1, 832, []), (832, .iload_n 3, 1, 833, []), (833, .iconst 3, 1, 834, []), (834, .iadd, 1, 835, []), (835, .iaload, 1, 836, []), (836, .invokevirtual 104, 3, 839, []), (839, .if_icmp .eq 550, 3, 842, [(0, 1389)]),
  (842, .iconst 0, 1, 843, []), (843, .ireturn, 1, 844, [])]
def tb_law_22 : List IR := [
  (844, .aload_n 1, 1, 845, []), (845, .aload_n 0, 1, 846, []), (846, .iload_n 3, 1, 847, []), (847, .iconst 1, 1, 848, []), (848, .iadd, 1, 849, []), (849, .iaload, 1, 850, []), (850, .aload_n 0, 1, 851, []),
  (851, .iload_n 3, 1, 852, []), (852, .iconst 2, 1, 853, []), (853, .iadd, 1, 854, []), (854, .iaload, 1, 855, []), (855, .invokevirtual 105, 3, 858, []), (858, .aload_n 2, 1, 859, []), (859, .aload_n 0, 1, 860, []),
  (860, .iload_n 3, 1, 861, []), (861, .iconst 1, 1, 862, []), (862, .iadd, 1, 863, []), (863, .iaload, 1, 864, []), (864, .aload_n 0, 1, 865, []), (865, .iload_n 3, 1, 866, []), (866, .iconst 2, 1, 867, []),
  (867, .iadd, 1, 868, []), (868, .iaload, 1, 869, []), (869, .invokevirtual 108, 3, 872, []), (872, .if_icmp .eq 517, 3, 875, [(0, 1389)]), (875, .iconst 0, 1, 876, []), (876, .ireturn, 1, 877, [])]
def tb_law_23 : List IR := [
  (877, .aload_n 1, 1, 878, []), (878, .aload_n 0, 1, 879, []), (879, .iload_n 3, 1, 880, []), (880, .iconst 1, 1, 881, []), (881, .iadd, 1, 882, []), (882, .iaload, 1, 883, []), (883, .aload_n 0, 1, 884, []),
  (884, .iload_n 3, 1, 885, []), (885, .iconst 2, 1, 886, []), (886, .iadd, 1, 887, []), (887, .iaload, 1, 888, []), (888, .aload_n 0, 1, 889, []), (889, .iload_n 3, 1, 890, []), (890, .iconst 3, 1, 891, []),
  (891, .iadd, 1, 892, []), (892, .iaload, 1, 893, []), (893, .aload_n 0, 1, 894, []), (894, .iload_n 3, 1, 895, []), (895, .iconst 4, 1, 896, []), (896, .iadd, 1, 897, []), (897, .iaload, 1, 898, []),
  (898, .invokevirtual 109, 3, 901, []), (901, .aload_n 2, 1, 902, []), (902, .aload_n 0, 1, 903, []), (903, .iload_n 3, 1, 904, []), (904, .iconst 1, 1, 905, []), (905, .iadd, 1, 906, []), (906, .iaload, 1, 907, []),
  (907, .aload_n 0, 1, 908, []), (908, .iload_n 3, 1, 909, []), (909, .iconst 2, 1, 910, []), (910, .iadd, 1, 911, []), (911, .iaload, 1, 912, []), (912, .aload_n 0, 1, 913, []), (913, .iload_n 3, 1, 914, []),
  (914, .iconst 3, 1, 915, []), (915, .iadd, 1, 916, []), (916, .iaload, 1, 917, []), (917, .aload_n 0, 1, 918, []), (918, .iload_n 3, 1, 919, []), (919, .iconst 4, 1, 920, []), (920, .iadd, 1, 921, []),
  (921, .iaload, 1, 922, []), (922, .invokevirtual 113, 3, 925, []), (925, .if_icmp .eq 464, 3, 928, [(0, 1389)]), (928, .iconst 0, 1, 929, []), (929, .ireturn, 1, 930, [])]
def tb_law_24 : List IR := [
  (930, .aload_n 1, 1, 931, []), (931, .invokevirtual 114, 3, 934, []), (934, .aload_n 2, 1, 935, []), (935, .invokevirtual 117, 3, 938, []), (938, .if_icmp .eq 451, 3, 941, [(0, 1389)]), (941, .iconst 0, 1, 942, []),
  (942, .ireturn, 1, 943, [])]
def tb_law_25 : List IR := [
  (943, .aload_n 1, 1, 944, []), (944, .aload_n 0, 1, 945, []), (945, .iload_n 3, 1, 946, []), (946, .iconst 1, 1, 947, []), (947, .iadd, 1, 948, []), (948, .iaload, 1, 949, []), (949, .invokevirtual 118, 3, 952, []),
  (952, .aload_n 2, 1, 953, []), (953, .aload_n 0, 1, 954, []), (954, .iload_n 3, 1, 955, []), (955, .iconst 1, 1, 956, []), (956, .iadd, 1, 957, []), (957, .iaload, 1, 958, []), (958, .invokevirtual 121, 3, 961, []),
  (961, .if_icmp .eq 428, 3, 964, [(0, 1389)]), (964, .iconst 0, 1, 965, []), (965, .ireturn, 1, 966, [])]
def tb_law_26 : List IR := [
  (966, .aload_n 1, 1, 967, []), (967, .invokevirtual 122, 3, 970, []), (970, .aload_n 2, 1, 971, []), (971, .invokevirtual 125, 3, 974, []), (974, .if_icmp .eq 415, 3, 977, [(0, 1389)]), (977, .iconst 0, 1, 978, []),
  (978, .ireturn, 1, 979, [])]
def tb_law_27 : List IR := [
  (979, .aload_n 1, 1, 980, []), (980, .aload_n 0, 1, 981, []), (981, .iload_n 3, 1, 982, []), (982, .iconst 1, 1, 983, []), (983, .iadd, 1, 984, []), (984, .iaload, 1, 985, []), (985, .aload_n 0, 1, 986, []),
  (986, .iload_n 3, 1, 987, []), (987, .iconst 2, 1, 988, []), (988, .iadd, 1, 989, []), (989, .iaload, 1, 990, []), (990, .invokevirtual 126, 3, 993, []), (993, .aload_n 2, 1, 994, []), (994, .aload_n 0, 1, 995, []),
  (995, .iload_n 3, 1, 996, []), (996, .iconst 1, 1, 997, []), (997, .iadd, 1, 998, []), (998, .iaload, 1, 999, []), (999, .aload_n 0, 1, 1000, []), (1000, .iload_n 3, 1, 1001, []), (1001, .iconst 2, 1, 1002, []),
  (1002, .iadd, 1, 1003, []), (1003, .iaload, 1, 1004, []), (1004, .invokevirtual 129, 3, 1007, []), (1007, .if_icmp .eq 382, 3, 1010, [(0, 1389)]), (1010, .iconst 0, 1, 1011, []), (1011, .ireturn, 1, 1012, [])]

def tb_law_28 : List IR := [
  (1012, .aload_n 1, 1, 1013, []), (1013, .aload_n 0, 1, 1014, []), (1014, .iload_n 3, 1, 1015, []), (1015, .iconst 1, 1, 1016, []), (1016, .iadd, 1, 1017, []), (1017, .iaload, 1, 1018, []), (1018, .aload_n 0, 1, 1019, []),
  (1019, .iload_n 3, 1, 1020, []), (1020, .iconst 2, 1, 1021, []), (1021, .iadd, 1, 1022, []), (1022, .iaload, 1, 1023, []), (1023, .aload_n 0, 1, 1024, []), (1024, .iload_n 3, 1, 1025, []), (1025, .iconst 3, 1, 1026, []),
  (1026, .iadd, 1, 1027, []), (1027, .iaload, 1, 1028, []), (1028, .invokevirtual 130, 3, 1031, []), (1031, .aload_n 2, 1, 1032, []), (1032, .aload_n 0, 1, 1033, []), (1033, .iload_n 3, 1, 1034, []), (1034, .iconst 1, 1, 1035, []),
  (1035, .iadd, 1, 1036, []), (1036, .iaload, 1, 1037, []), (1037, .aload_n 0, 1, 1038, []), (1038, .iload_n 3, 1, 1039, []), (1039, .iconst 2, 1, 1040, []), (1040, .iadd, 1, 1041, []), (1041, .iaload, 1, 1042, []),
  (1042, .aload_n 0, 1, 1043, []), (1043, .iload_n 3, 1, 1044, []), (1044, .iconst 3, 1, 1045, []), (1045, .iadd, 1, 1046, []), (1046, .iaload, 1, 1047, []), (1047, .invokevirtual 133, 3, 1050, []), (1050, .if_icmp .eq 339, 3, 1053, [(0, 1389)]),
  (1053, .iconst 0, 1, 1054, []), (1054, .ireturn, 1, 1055, [])]
def tb_law_29 : List IR := [
  (1055, .aload_n 1, 1, 1056, []), (1056, .invokevirtual 134, 3, 1059, []), (1059, .aload_n 2, 1, 1060, []), (1060, .invokevirtual 137, 3, 1063, []), (1063, .if_icmp .eq 326, 3, 1066, [(0, 1389)]), (1066, .iconst 0, 1, 1067, []),
  (1067, .ireturn, 1, 1068, [])]
def tb_law_30 : List IR := [
  (1068, .aload_n 1, 1, 1069, []), (1069, .invokevirtual 138, 3, 1072, []), (1072, .aload_n 2, 1, 1073, []), (1073, .invokevirtual 141, 3, 1076, []), (1076, .if_icmp .eq 313, 3, 1079, [(0, 1389)]), (1079, .iconst 0, 1, 1080, []),
  (1080, .ireturn, 1, 1081, [])]
def tb_law_31 : List IR := [
  (1081, .aload_n 1, 1, 1082, []), (1082, .invokevirtual 142, 3, 1085, []), (1085, .aload_n 2, 1, 1086, []), (1086, .invokevirtual 145, 3, 1089, []), (1089, .if_icmp .eq 300, 3, 1092, [(0, 1389)]), (1092, .iconst 0, 1, 1093, []),
  (1093, .ireturn, 1, 1094, [])]
def tb_law_32 : List IR := [
  (1094, .aload_n 1, 1, 1095, []), (1095, .aload_n 0, 1, 1096, []), (1096, .iload_n 3, 1, 1097, []), (1097, .iconst 1, 1, 1098, []), (1098, .iadd, 1, 1099, []), (1099, .iaload, 1, 1100, []), (1100, .aload_n 0, 1, 1101, []),
  (1101, .iload_n 3, 1, 1102, []), (1102, .iconst 2, 1, 1103, []), (1103, .iadd, 1, 1104, []), (1104, .iaload, 1, 1105, []), (1105, .aload_n 0, 1, 1106, []), (1106, .iload_n 3, 1, 1107, []), (1107, .iconst 3, 1, 1108, []),
  (1108, .iadd, 1, 1109, []), (1109, .iaload, 1, 1110, []), (1110, .invokevirtual 146, 3, 1113, []), (1113, .aload_n 2, 1, 1114, []), (1114, .aload_n 0, 1, 1115, []), (1115, .iload_n 3, 1, 1116, []), (1116, .iconst 1, 1, 1117, []),
  (1117, .iadd, 1, 1118, []), (1118, .iaload, 1, 1119, []), (1119, .aload_n 0, 1, 1120, []), (1120, .iload_n 3, 1, 1121, []), (1121, .iconst 2, 1, 1122, []), (1122, .iadd, 1, 1123, []), (1123, .iaload, 1, 1124, []),
  (1124, .aload_n 0, 1, 1125, []), (1125, .iload_n 3, 1, 1126, []), (1126, .iconst 3, 1, 1127, []), (1127, .iadd, 1, 1128, []), (1128, .iaload, 1, 1129, []), (1129, .invokevirtual 149, 3, 1132, []), (1132, .if_icmp .eq 257, 3, 1135, [(0, 1389)]),
  (1135, .iconst 0, 1, 1136, []), (1136, .ireturn, 1, 1137, [])]
def tb_law_33 : List IR := [
  (1137, .aload_n 1, 1, 1138, []), (1138, .aload_n 0, 1, 1139, []), (1139, .iload_n 3, 1, 1140, []), (1140, .iconst 1, 1, 1141, []), (1141, .iadd, 1, 1142, []), (1142, .iaload, 1, 1143, []), (1143, .invokevirtual 150, 3, 1146, []),
  (1146, .aload_n 2, 1, 1147, []), (1147, .aload_n 0, 1, 1148, []), (1148, .iload_n 3, 1, 1149, []), (1149, .iconst 1, 1, 1150, []), (1150, .iadd, 1, 1151, []), (1151, .iaload, 1, 1152, []), (1152, .invokevirtual 153, 3, 1155, []),
  (1155, .if_icmp .eq 234, 3, 1158, [(0, 1389)]), (1158, .iconst 0, 1, 1159, []), (1159, .ireturn, 1, 1160, [])]
def tb_law_34 : List IR := [
  (1160, .aload_n 1, 1, 1161, []), (1161, .aload_n 0, 1, 1162, []), (1162, .iload_n 3, 1, 1163, []), (1163, .iconst 1, 1, 1164, []), (1164, .iadd, 1, 1165, []), (1165, .iaload, 1, 1166, []), (1166, .aload_n 0, 1, 1167, []),
  (1167, .iload_n 3, 1, 1168, []), (1168, .iconst 2, 1, 1169, []), (1169, .iadd, 1, 1170, []), (1170, .iaload, 1, 1171, []), (1171, .aload_n 0, 1, 1172, []), (1172, .iload_n 3, 1, 1173, []), (1173, .iconst 3, 1, 1174, []),
  (1174, .iadd, 1, 1175, []), (1175, .iaload, 1, 1176, []), (1176, .aload_n 0, 1, 1177, []), (1177, .iload_n 3, 1, 1178, []), (1178, .iconst 4, 1, 1179, []), (1179, .iadd, 1, 1180, []), (1180, .iaload, 1, 1181, []),
  (1181, .invokevirtual 154, 3, 1184, []), (1184, .aload_n 2, 1, 1185, []), (1185, .aload_n 0, 1, 1186, []), (1186, .iload_n 3, 1, 1187, []), (1187, .iconst 1, 1, 1188, []), (1188, .iadd, 1, 1189, []),
  (1189, .iaload, 1, 1190, []), (1190, .aload_n 0, 1, 1191, []), (1191, .iload_n 3, 1, 1192, []), (1192, .iconst 2, 1, 1193, []), (1193, .iadd, 1, 1194, []), (1194, .iaload, 1, 1195, []), (1195, .aload_n 0, 1, 1196, []),
  (1196, .iload_n 3, 1, 1197, []), (1197, .iconst 3, 1, 1198, []), (1198, .iadd, 1, 1199, []), (1199, .iaload, 1, 1200, []), (1200, .aload_n 0, 1, 1201, []), (1201, .iload_n 3, 1, 1202, []), (1202, .iconst 4, 1, 1203, []),
  (1203, .iadd, 1, 1204, []), (1204, .iaload, 1, 1205, []), (1205, .invokevirtual 157, 3, 1208, []), (1208, .if_icmp .eq 181, 3, 1211, [(0, 1389)]), (1211, .iconst 0, 1, 1212, []), (1212, .ireturn, 1, 1213, [])]

def tb_law_35 : List IR := [
  (1213, .aload_n 1, 1, 1214, []), (1214, .aload_n 0, 1, 1215, []), (1215, .iload_n 3, 1, 1216, []), (1216, .iconst 1, 1, 1217, []), (1217, .iadd, 1, 1218, []), (1218, .iaload, 1, 1219, []), (1219, .aload_n 0, 1, 1220, []),
  (1220, .iload_n 3, 1, 1221, []), (1221, .iconst 2, 1, 1222, []), (1222, .iadd, 1, 1223, []), (1223, .iaload, 1, 1224, []), (1224, .aload_n 0, 1, 1225, []), (1225, .iload_n 3, 1, 1226, []), (1226, .iconst 3, 1, 1227, []),
  (1227, .iadd, 1, 1228, []), (1228, .iaload, 1, 1229, []), (1229, .invokevirtual 158, 3, 1232, []), (1232, .aload_n 2, 1, 1233, []), (1233, .aload_n 0, 1, 1234, []), (1234, .iload_n 3, 1, 1235, []), (1235, .iconst 1, 1, 1236, []),
  (1236, .iadd, 1, 1237, []), (1237, .iaload, 1, 1238, []), (1238, .aload_n 0, 1, 1239, []), (1239, .iload_n 3, 1, 1240, []), (1240, .iconst 2, 1, 1241, []), (1241, .iadd, 1, 1242, []), (1242, .iaload, 1, 1243, []),
  (1243, .aload_n 0, 1, 1244, []), (1244, .iload_n 3, 1, 1245, []), (1245, .iconst 3, 1, 1246, []), (1246, .iadd, 1, 1247, []), (1247, .iaload, 1, 1248, []), (1248, .invokevirtual 161, 3, 1251, []), (1251, .if_icmp .eq 138, 3, 1254, [(0, 1389)]),
  (1254, .iconst 0, 1, 1255, []), (1255, .ireturn, 1, 1256, [])]
def tb_law_36 : List IR := [
  (1256, .aload_n 1, 1, 1257, []), (1257, .aload_n 0, 1, 1258, []), (1258, .iload_n 3, 1, 1259, []), (1259, .iconst 1, 1, 1260, []), (1260, .iadd, 1, 1261, []), (1261, .iaload, 1, 1262, []), (1262, .aload_n 0, 1, 1263, []),
  (1263, .iload_n 3, 1, 1264, []), (1264, .iconst 2, 1, 1265, []), (1265, .iadd, 1, 1266, []), (1266, .iaload, 1, 1267, []), (1267, .aload_n 0, 1, 1268, []), (1268, .iload_n 3, 1, 1269, []), (1269, .iconst 3, 1, 1270, []),
  (1270, .iadd, 1, 1271, []), (1271, .iaload, 1, 1272, []), (1272, .aload_n 0, 1, 1273, []), (1273, .iload_n 3, 1, 1274, []), (1274, .iconst 4, 1, 1275, []), (1275, .iadd, 1, 1276, []), (1276, .iaload, 1, 1277, []),
  (1277, .aload_n 0, 1, 1278, []), (1278, .iload_n 3, 1, 1279, []), (1279, .iconst 5, 1, 1280, []), (1280, .iadd, 1, 1281, []), (1281, .iaload, 1, 1282, []), (1282, .invokevirtual 162, 3, 1285, []), (1285, .aload_n 2, 1, 1286, []),
  (1286, .aload_n 0, 1, 1287, []), (1287, .iload_n 3, 1, 1288, []), (1288, .iconst 1, 1, 1289, []), (1289, .iadd, 1, 1290, []), (1290, .iaload, 1, 1291, []), (1291, .aload_n 0, 1, 1292, []), (1292, .iload_n 3, 1, 1293, []),
  (1293, .iconst 2, 1, 1294, []), (1294, .iadd, 1, 1295, []), (1295, .iaload, 1, 1296, []), (1296, .aload_n 0, 1, 1297, []), (1297, .iload_n 3, 1, 1298, []), (1298, .iconst 3, 1, 1299, []), (1299, .iadd, 1, 1300, []),
  (1300, .iaload, 1, 1301, []), (1301, .aload_n 0, 1, 1302, []), (1302, .iload_n 3, 1, 1303, []), (1303, .iconst 4, 1, 1304, []), (1304, .iadd, 1, 1305, []), (1305, .iaload, 1, 1306, []), (1306, .aload_n 0, 1, 1307, []),
  (1307, .iload_n 3, 1, 1308, []), (1308, .iconst 5, 1, 1309, []), (1309, .iadd, 1, 1310, []), (1310, .iaload, 1, 1311, []), (1311, .invokevirtual 166, 3, 1314, []), (1314, .if_icmp .eq 75, 3, 1317, [(0, 1389)]),
  (1317, .iconst 0, 1, 1318, []), (1318, .ireturn, 1, 1319, [])]
def tb_law_37 : List IR := [
  (1319, .aload_n 1, 1, 1320, []), (1320, .aload_n 0, 1, 1321, []), (1321, .iload_n 3, 1, 1322, []), (1322, .iconst 1, 1, 1323, []), (1323, .iadd, 1, 1324, []), (1324, .iaload, 1, 1325, []), (1325, .aload_n 0, 1, 1326, []),
  (1326, .iload_n 3, 1, 1327, []), (1327, .iconst 2, 1, 1328, []), (1328, .iadd, 1, 1329, []), (1329, .iaload, 1, 1330, []), (1330, .invokevirtual 167, 3, 1333, []), (1333, .aload_n 2, 1, 1334, []), (1334, .aload_n 0, 1, 1335, []),
  (1335, .iload_n 3, 1, 1336, []), (1336, .iconst 1, 1, 1337, []), (1337, .iadd, 1, 1338, []), (1338, .iaload, 1, 1339, []), (1339, .aload_n 0, 1, 1340, []), (1340, .iload_n 3, 1, 1341, []), (1341, .iconst 2, 1, 1342, []),
  (1342, .iadd, 1, 1343, []), (1343, .iaload, 1, 1344, []), (1344, .invokevirtual 170, 3, 1347, []), (1347, .if_icmp .eq 42, 3, 1350, [(0, 1389)]), (1350, .iconst 0, 1, 1351, []), (1351, .ireturn, 1, 1352, [])]

def tb_law_38 : List IR := [
  (1352, .aload_n 1, 1, 1353, []), (1353, .aload_n 0, 1, 1354, []), (1354, .iload_n 3, 1, 1355, []), (1355, .iconst 1, 1, 1356, []), (1356, .iadd, 1, 1357, []), (1357, .iaload, 1, 1358, []), (1358, .invokevirtual 171, 3, 1361, []),
  (1361, .aload_n 2, 1, 1362, []), (1362, .aload_n 0, 1, 1363, []), (1363, .iload_n 3, 1, 1364, []), (1364, .iconst 1, 1, 1365, []), (1365, .iadd, 1, 1366, []), (1366, .iaload, 1, 1367, []), (1367, .invokevirtual 174, 3, 1370, []),
  (1370, .if_icmp .eq 19, 3, 1373, [(0, 1389)]), (1373, .iconst 0, 1, 1374, []), (1374, .ireturn, 1, 1375, [])]
def tb_law_39 : List IR := [
  (1375, .aload_n 1, 1, 1376, []), (1376, .invokevirtual 175, 3, 1379, []), (1379, .aload_n 2, 1, 1380, []), (1380, .invokevirtual 179, 3, 1383, []), (1383, .lcmp, 1, 1384, []), (1384, .ifCond .eq 5, 3, 1387, [(0, 1389)]),
  (1387, .iconst 0, 1, 1388, []), (1388, .ireturn, 1, 1389, [])]
def tb_law : List IR := tb_lawh ++ (tb_law_0 ++ (tb_law_1 ++ (tb_law_2 ++ (tb_law_3 ++ (tb_law_4 ++ (tb_law_5 ++ (tb_law_6 ++ (tb_law_7 ++ (tb_law_8 ++ (tb_law_9 ++ (tb_law_10 ++ (tb_law_11 ++ (tb_law_12 ++ (tb_law_13 ++ (tb_law_14 ++ (tb_law_15 ++ (tb_law_16 ++ (tb_law_17 ++ (tb_law_18 ++ (tb_law_19 ++ (tb_law_20 ++ (tb_law_21 ++ (tb_law_22 ++ (tb_law_23 ++ (tb_law_24 ++ (tb_law_25 ++ (tb_law_26 ++ (tb_law_27 ++ (tb_law_28 ++ (tb_law_29 ++ (tb_law_30 ++ (tb_law_31 ++ (tb_law_32 ++ (tb_law_33 ++ (tb_law_34 ++ (tb_law_35 ++ (tb_law_36 ++ (tb_law_37 ++ (tb_law_38 ++ (tb_law_39))))))))))))))))))))))))))))))))))))))))
def lkc (L : Nat) (xs : Int → Int) : Nat → Int × (Int → Int) := fun c => match c with
  | 2 => ((L : Int), xs)
  | c => oh_kc c
def ca_law : List (Nat × Nat × Tr) := [(100013, 3, T_X4_type), (100017, 3, T_X5_type), (100018, 2, T_X4_wipe), (100022, 2, T_X5_wipe), (100023, 2, T_X4_undo), (100026, 2, T_X5_undo), (100027, 2, T_X4_fault), (100030, 2, T_X5_fault), (100031, 2, T_X4_setLaw), (100034, 2, T_X5_setLaw), (100035, 3, T_X4_home), (100038, 3, T_X5_home), (100039, 4, T_X4_worth), (100043, 4, T_X5_worth), (100044, 3, T_X4_read), (100047, 3, T_X5_read), (100048, 3, T_X4_owns), (100051, 3, T_X5_owns), (100052, 3, T_X4_acts), (100055, 3, T_X5_acts), (100056, 3, T_X4_deep), (100059, 3, T_X5_deep), (100060, 2, T_X4_free), (100063, 2, T_X5_free), (100064, 2, T_X4_holds), (100067, 2, T_X5_holds), (100068, 2, T_X4_wronged), (100071, 2, T_X5_wronged), (100072, 1, T_X4_gentlest), (100076, 1, T_X5_gentlest), (100077, 2, T_X4_done), (100080, 2, T_X5_done), (100081, 1, T_X4_judged), (100084, 1, T_X5_judged), (100085, 4, T_X4_body), (100088, 4, T_X5_body), (100089, 3, T_X4_met), (100092, 3, T_X5_met), (100093, 3, T_X4_slips), (100096, 3, T_X5_slips), (100097, 3, T_X4_soonest), (100100, 3, T_X5_soonest), (100101, 4, T_X4_fewest), (100104, 4, T_X5_fewest), (100105, 3, T_X4_run), (100108, 3, T_X5_run), (100109, 5, T_X4_trade), (100113, 5, T_X5_trade), (100114, 1, T_X4_trades), (100117, 1, T_X5_trades), (100118, 2, T_X4_frees), (100121, 2, T_X5_frees), (100122, 1, T_X4_word), (100125, 1, T_X5_word), (100126, 3, T_X4_heir), (100129, 3, T_X5_heir), (100130, 4, T_X4_seen), (100133, 4, T_X5_seen), (100134, 1, T_X4_forget), (100137, 1, T_X5_forget), (100138, 1, T_X4_suspects), (100141, 1, T_X5_suspects), (100142, 1, T_X4_likely), (100145, 1, T_X5_likely), (100146, 4, T_X4_sheet), (100149, 4, T_X5_sheet), (100150, 2, T_X4_lose), (100153, 2, T_X5_lose), (100154, 5, T_X4_lay), (100157, 5, T_X5_lay), (100158, 4, T_X4_get), (100161, 4, T_X5_get), (100162, 6, T_X4_copy), (100166, 6, T_X5_copy), (100167, 3, T_X4_write), (100170, 3, T_X5_write), (100171, 2, T_X4_count), (100174, 2, T_X5_count), (100175, 1, T_X4_digest), (100179, 1, T_X5_digest)]
def pg_law (L : Nat) (xs : Int → Int) : PG := (tb_law, [], [], [], ca_law, true, lkc L xs)
def lawP : Po := fun r _ => r = some (oI 1)
theorem RepM_Fr {A : Ab} {μ μ1 : Mem} (h : RepM A μ) (k : FrC μ μ1) : RepM A μ1 := by
  unfold RepM RMh RMt RMo RMw RMv RMs at h ⊢
  rw [k 22 0 (by omega), k 28 0 (by omega), k 27 0 (by omega), k 32 0 (by omega), k 33 0 (by omega), k 41 0 (by omega), k 23 0 (by omega), k 24 0 (by omega), k 25 0 (by omega), k 40 0 (by omega)]
  exact h
theorem RepC_Fr {A : Ab} {μ μ1 : Mem} (h : RepC A μ) (k : FrM μ μ1) : RepC A μ1 := RepC_keep h (fun s m hs _ => k s m (Nat.lt_succ_of_le hs))
theorem oh_cmp_eq (x : Int) : oh_cmp x x = 0 := by
  unfold oh_cmp
  rw [if_neg (by omega), if_pos rfl]
set_option maxRecDepth 100000 in
theorem law_c0 {L : Nat} {xs : Int → Int} {G : Kt} (hG : oh_Cl (pg_law L xs) lawP G) {i : Int} {A : Ab} {μ : Mem} (h0 : 0 ≤ i) (h1 : i ≤ (L : Int) - 6) (hL : L ≤ 384) (hC : RepC A μ) (hM : RepM A μ) (ih : ∀ A μ, RepC A μ → RepM A μ → G 18 [some (oK 2), some (oR 13 0), some (oR 22 0), some (oI (i + 6))] [] μ) : G 208 [some (oK 2), some (oR 13 0), some (oR 22 0), some (oI i)] [] μ := by
  refine oh_go hG [(18, 4)] 60 ?_
  refine And.intro (by omega) ?_
  refine And.intro (show 0 ≤ i + 1 ∧ i + 1 < (L : Int) by omega) ?_
  refine And.intro (by omega) ?_
  refine And.intro (show 0 ≤ i + 2 ∧ i + 2 < (L : Int) by omega) ?_
  refine And.intro ⟨A, hC, fun μ1 k1 k2 => ?_⟩ trivial
  refine And.intro (by omega) ?_
  refine And.intro (show 0 ≤ i + 1 ∧ i + 1 < (L : Int) by omega) ?_
  refine And.intro (by omega) ?_
  refine And.intro (show 0 ≤ i + 2 ∧ i + 2 < (L : Int) by omega) ?_
  refine And.intro ⟨A, RepC_val hC, RepM_Fr hM k2, fun μ2 k3 k4 => ?_⟩ trivial
  refine And.intro (fun _ => ?_) (fun q => absurd rfl q)
  refine And.intro (by omega) ?_
  exact ih _ μ2 (RepC_Fr k1 k4) k3
set_option maxRecDepth 100000 in
theorem law_c1 {L : Nat} {xs : Int → Int} {G : Kt} (hG : oh_Cl (pg_law L xs) lawP G) {i : Int} {A : Ab} {μ : Mem} (h0 : 0 ≤ i) (h1 : i ≤ (L : Int) - 6) (hL : L ≤ 384) (hC : RepC A μ) (hM : RepM A μ) (ih : ∀ A μ, RepC A μ → RepM A μ → G 18 [some (oK 2), some (oR 13 0), some (oR 22 0), some (oI (i + 6))] [] μ) : G 241 [some (oK 2), some (oR 13 0), some (oR 22 0), some (oI i)] [] μ := by
  refine oh_go hG [(18, 4)] 60 ?_
  refine And.intro (by omega) ?_
  refine And.intro (show 0 ≤ i + 1 ∧ i + 1 < (L : Int) by omega) ?_
  refine And.intro ⟨A, hC, fun μ1 k1 k2 => ?_⟩ trivial
  refine And.intro (by omega) ?_
  refine And.intro (show 0 ≤ i + 1 ∧ i + 1 < (L : Int) by omega) ?_
  refine And.intro ⟨A, RepC_val hC, RepM_Fr hM k2, fun μ2 k3 k4 => ?_⟩ trivial
  refine And.intro (fun _ => ?_) (fun q => absurd rfl q)
  refine And.intro (by omega) ?_
  exact ih _ μ2 (RepC_Fr k1 k4) k3
set_option maxRecDepth 100000 in
theorem law_c2 {L : Nat} {xs : Int → Int} {G : Kt} (hG : oh_Cl (pg_law L xs) lawP G) {i : Int} {A : Ab} {μ : Mem} (h0 : 0 ≤ i) (h1 : i ≤ (L : Int) - 6) (hL : L ≤ 384) (hC : RepC A μ) (hM : RepM A μ) (ih : ∀ A μ, RepC A μ → RepM A μ → G 18 [some (oK 2), some (oR 13 0), some (oR 22 0), some (oI (i + 6))] [] μ) : G 264 [some (oK 2), some (oR 13 0), some (oR 22 0), some (oI i)] [] μ := by
  refine oh_go hG [(18, 4)] 60 ?_
  refine And.intro (by omega) ?_
  refine And.intro (show 0 ≤ i + 1 ∧ i + 1 < (L : Int) by omega) ?_
  refine And.intro ⟨A, hC, fun μ1 k1 k2 => ?_⟩ trivial
  refine And.intro (by omega) ?_
  refine And.intro (show 0 ≤ i + 1 ∧ i + 1 < (L : Int) by omega) ?_
  refine And.intro ⟨A, RepC_val hC, RepM_Fr hM k2, fun μ2 k3 k4 => ?_⟩ trivial
  refine And.intro (fun _ => ?_) (fun q => absurd rfl q)
  refine And.intro (by omega) ?_
  exact ih _ μ2 (RepC_Fr k1 k4) k3
set_option maxRecDepth 100000 in
theorem law_c3 {L : Nat} {xs : Int → Int} {G : Kt} (hG : oh_Cl (pg_law L xs) lawP G) {i : Int} {A : Ab} {μ : Mem} (h0 : 0 ≤ i) (h1 : i ≤ (L : Int) - 6) (hL : L ≤ 384) (hC : RepC A μ) (hM : RepM A μ) (ih : ∀ A μ, RepC A μ → RepM A μ → G 18 [some (oK 2), some (oR 13 0), some (oR 22 0), some (oI (i + 6))] [] μ) : G 287 [some (oK 2), some (oR 13 0), some (oR 22 0), some (oI i)] [] μ := by
  refine oh_go hG [(18, 4)] 60 ?_
  refine And.intro (by omega) ?_
  refine And.intro (show 0 ≤ i + 1 ∧ i + 1 < (L : Int) by omega) ?_
  refine And.intro ⟨A, hC, fun μ1 k1 k2 => ?_⟩ trivial
  refine And.intro (by omega) ?_
  refine And.intro (show 0 ≤ i + 1 ∧ i + 1 < (L : Int) by omega) ?_
  refine And.intro ⟨A, RepC_val hC, RepM_Fr hM k2, fun μ2 k3 k4 => ?_⟩ trivial
  refine And.intro (fun _ => ?_) (fun q => absurd rfl q)
  refine And.intro (by omega) ?_
  exact ih _ μ2 (RepC_Fr k1 k4) k3
set_option maxRecDepth 100000 in
theorem law_c4 {L : Nat} {xs : Int → Int} {G : Kt} (hG : oh_Cl (pg_law L xs) lawP G) {i : Int} {A : Ab} {μ : Mem} (h0 : 0 ≤ i) (h1 : i ≤ (L : Int) - 6) (hL : L ≤ 384) (hC : RepC A μ) (hM : RepM A μ) (ih : ∀ A μ, RepC A μ → RepM A μ → G 18 [some (oK 2), some (oR 13 0), some (oR 22 0), some (oI (i + 6))] [] μ) : G 310 [some (oK 2), some (oR 13 0), some (oR 22 0), some (oI i)] [] μ := by
  refine oh_go hG [(18, 4)] 60 ?_
  refine And.intro (by omega) ?_
  refine And.intro (show 0 ≤ i + 1 ∧ i + 1 < (L : Int) by omega) ?_
  refine And.intro ⟨A, hC, fun μ1 k1 k2 => ?_⟩ trivial
  refine And.intro (by omega) ?_
  refine And.intro (show 0 ≤ i + 1 ∧ i + 1 < (L : Int) by omega) ?_
  refine And.intro ⟨A, RepC_val hC, RepM_Fr hM k2, fun μ2 k3 k4 => ?_⟩ trivial
  refine And.intro (fun _ => ?_) (fun q => absurd rfl q)
  refine And.intro (by omega) ?_
  exact ih _ μ2 (RepC_Fr k1 k4) k3
set_option maxRecDepth 100000 in
theorem law_c5 {L : Nat} {xs : Int → Int} {G : Kt} (hG : oh_Cl (pg_law L xs) lawP G) {i : Int} {A : Ab} {μ : Mem} (h0 : 0 ≤ i) (h1 : i ≤ (L : Int) - 6) (hL : L ≤ 384) (hC : RepC A μ) (hM : RepM A μ) (ih : ∀ A μ, RepC A μ → RepM A μ → G 18 [some (oK 2), some (oR 13 0), some (oR 22 0), some (oI (i + 6))] [] μ) : G 333 [some (oK 2), some (oR 13 0), some (oR 22 0), some (oI i)] [] μ := by
  refine oh_go hG [(18, 4)] 60 ?_
  refine And.intro (by omega) ?_
  refine And.intro (show 0 ≤ i + 1 ∧ i + 1 < (L : Int) by omega) ?_
  refine And.intro (by omega) ?_
  refine And.intro (show 0 ≤ i + 2 ∧ i + 2 < (L : Int) by omega) ?_
  refine And.intro ⟨A, hC, fun μ1 k1 k2 => ?_⟩ trivial
  refine And.intro (by omega) ?_
  refine And.intro (show 0 ≤ i + 1 ∧ i + 1 < (L : Int) by omega) ?_
  refine And.intro (by omega) ?_
  refine And.intro (show 0 ≤ i + 2 ∧ i + 2 < (L : Int) by omega) ?_
  refine And.intro ⟨A, RepC_val hC, RepM_Fr hM k2, fun μ2 k3 k4 => ?_⟩ trivial
  refine And.intro (fun _ => ?_) (fun q => absurd rfl q)
  refine And.intro (by omega) ?_
  exact ih _ μ2 (RepC_Fr k1 k4) k3
set_option maxRecDepth 100000 in
theorem law_c6 {L : Nat} {xs : Int → Int} {G : Kt} (hG : oh_Cl (pg_law L xs) lawP G) {i : Int} {A : Ab} {μ : Mem} (h0 : 0 ≤ i) (h1 : i ≤ (L : Int) - 6) (hL : L ≤ 384) (hC : RepC A μ) (hM : RepM A μ) (ih : ∀ A μ, RepC A μ → RepM A μ → G 18 [some (oK 2), some (oR 13 0), some (oR 22 0), some (oI (i + 6))] [] μ) : G 366 [some (oK 2), some (oR 13 0), some (oR 22 0), some (oI i)] [] μ := by
  refine oh_go hG [(18, 4)] 60 ?_
  refine And.intro (by omega) ?_
  refine And.intro (show 0 ≤ i + 1 ∧ i + 1 < (L : Int) by omega) ?_
  refine And.intro (by omega) ?_
  refine And.intro (show 0 ≤ i + 2 ∧ i + 2 < (L : Int) by omega) ?_
  refine And.intro (by omega) ?_
  refine And.intro (show 0 ≤ i + 3 ∧ i + 3 < (L : Int) by omega) ?_
  refine And.intro ⟨A, hC, fun μ1 k1 k2 => ?_⟩ trivial
  refine And.intro (by omega) ?_
  refine And.intro (show 0 ≤ i + 1 ∧ i + 1 < (L : Int) by omega) ?_
  refine And.intro (by omega) ?_
  refine And.intro (show 0 ≤ i + 2 ∧ i + 2 < (L : Int) by omega) ?_
  refine And.intro (by omega) ?_
  refine And.intro (show 0 ≤ i + 3 ∧ i + 3 < (L : Int) by omega) ?_
  refine And.intro ⟨A, RepC_val hC, RepM_Fr hM k2, fun μ2 k3 k4 => ?_⟩ trivial
  refine And.intro (fun _ => ?_) (fun q => absurd rfl q)
  refine And.intro (by omega) ?_
  exact ih _ μ2 (RepC_Fr k1 k4) k3
set_option maxRecDepth 100000 in
theorem law_c7 {L : Nat} {xs : Int → Int} {G : Kt} (hG : oh_Cl (pg_law L xs) lawP G) {i : Int} {A : Ab} {μ : Mem} (h0 : 0 ≤ i) (h1 : i ≤ (L : Int) - 6) (hL : L ≤ 384) (hC : RepC A μ) (hM : RepM A μ) (ih : ∀ A μ, RepC A μ → RepM A μ → G 18 [some (oK 2), some (oR 13 0), some (oR 22 0), some (oI (i + 6))] [] μ) : G 409 [some (oK 2), some (oR 13 0), some (oR 22 0), some (oI i)] [] μ := by
  refine oh_go hG [(18, 4)] 60 ?_
  refine And.intro (by omega) ?_
  refine And.intro (show 0 ≤ i + 1 ∧ i + 1 < (L : Int) by omega) ?_
  refine And.intro (by omega) ?_
  refine And.intro (show 0 ≤ i + 2 ∧ i + 2 < (L : Int) by omega) ?_
  refine And.intro ⟨A, hC, fun μ1 k1 k2 => ?_⟩ trivial
  refine And.intro (by omega) ?_
  refine And.intro (show 0 ≤ i + 1 ∧ i + 1 < (L : Int) by omega) ?_
  refine And.intro (by omega) ?_
  refine And.intro (show 0 ≤ i + 2 ∧ i + 2 < (L : Int) by omega) ?_
  refine And.intro ⟨A, RepC_val hC, RepM_Fr hM k2, fun μ2 k3 k4 => ?_⟩ trivial
  refine And.intro (fun _ => ?_) (fun q => absurd rfl q)
  refine And.intro (by omega) ?_
  exact ih _ μ2 (RepC_Fr k1 k4) k3
set_option maxRecDepth 100000 in
theorem law_c8 {L : Nat} {xs : Int → Int} {G : Kt} (hG : oh_Cl (pg_law L xs) lawP G) {i : Int} {A : Ab} {μ : Mem} (h0 : 0 ≤ i) (h1 : i ≤ (L : Int) - 6) (hL : L ≤ 384) (hC : RepC A μ) (hM : RepM A μ) (ih : ∀ A μ, RepC A μ → RepM A μ → G 18 [some (oK 2), some (oR 13 0), some (oR 22 0), some (oI (i + 6))] [] μ) : G 442 [some (oK 2), some (oR 13 0), some (oR 22 0), some (oI i)] [] μ := by
  refine oh_go hG [(18, 4)] 60 ?_
  refine And.intro (by omega) ?_
  refine And.intro (show 0 ≤ i + 1 ∧ i + 1 < (L : Int) by omega) ?_
  refine And.intro (by omega) ?_
  refine And.intro (show 0 ≤ i + 2 ∧ i + 2 < (L : Int) by omega) ?_
  refine And.intro ⟨A, hC, fun μ1 k1 k2 => ?_⟩ trivial
  refine And.intro (by omega) ?_
  refine And.intro (show 0 ≤ i + 1 ∧ i + 1 < (L : Int) by omega) ?_
  refine And.intro (by omega) ?_
  refine And.intro (show 0 ≤ i + 2 ∧ i + 2 < (L : Int) by omega) ?_
  refine And.intro ⟨A, RepC_val hC, RepM_Fr hM k2, fun μ2 k3 k4 => ?_⟩ trivial
  refine And.intro (fun _ => ?_) (fun q => absurd rfl q)
  refine And.intro (by omega) ?_
  exact ih _ μ2 (RepC_Fr k1 k4) k3
set_option maxRecDepth 100000 in
theorem law_c9 {L : Nat} {xs : Int → Int} {G : Kt} (hG : oh_Cl (pg_law L xs) lawP G) {i : Int} {A : Ab} {μ : Mem} (h0 : 0 ≤ i) (h1 : i ≤ (L : Int) - 6) (hL : L ≤ 384) (hC : RepC A μ) (hM : RepM A μ) (ih : ∀ A μ, RepC A μ → RepM A μ → G 18 [some (oK 2), some (oR 13 0), some (oR 22 0), some (oI (i + 6))] [] μ) : G 475 [some (oK 2), some (oR 13 0), some (oR 22 0), some (oI i)] [] μ := by
  refine oh_go hG [(18, 4)] 60 ?_
  refine And.intro (by omega) ?_
  refine And.intro (show 0 ≤ i + 1 ∧ i + 1 < (L : Int) by omega) ?_
  refine And.intro (by omega) ?_
  refine And.intro (show 0 ≤ i + 2 ∧ i + 2 < (L : Int) by omega) ?_
  refine And.intro ⟨A, hC, fun μ1 k1 k2 => ?_⟩ trivial
  refine And.intro (by omega) ?_
  refine And.intro (show 0 ≤ i + 1 ∧ i + 1 < (L : Int) by omega) ?_
  refine And.intro (by omega) ?_
  refine And.intro (show 0 ≤ i + 2 ∧ i + 2 < (L : Int) by omega) ?_
  refine And.intro ⟨A, RepC_val hC, RepM_Fr hM k2, fun μ2 k3 k4 => ?_⟩ trivial
  refine And.intro (fun _ => ?_) (fun q => absurd rfl q)
  refine And.intro (by omega) ?_
  exact ih _ μ2 (RepC_Fr k1 k4) k3
set_option maxRecDepth 100000 in
theorem law_c10 {L : Nat} {xs : Int → Int} {G : Kt} (hG : oh_Cl (pg_law L xs) lawP G) {i : Int} {A : Ab} {μ : Mem} (h0 : 0 ≤ i) (h1 : i ≤ (L : Int) - 6) (hL : L ≤ 384) (hC : RepC A μ) (hM : RepM A μ) (ih : ∀ A μ, RepC A μ → RepM A μ → G 18 [some (oK 2), some (oR 13 0), some (oR 22 0), some (oI (i + 6))] [] μ) : G 508 [some (oK 2), some (oR 13 0), some (oR 22 0), some (oI i)] [] μ := by
  refine oh_go hG [(18, 4)] 60 ?_
  refine And.intro (by omega) ?_
  refine And.intro (show 0 ≤ i + 1 ∧ i + 1 < (L : Int) by omega) ?_
  refine And.intro (by omega) ?_
  refine And.intro (show 0 ≤ i + 2 ∧ i + 2 < (L : Int) by omega) ?_
  refine And.intro ⟨A, hC, fun μ1 k1 k2 => ?_⟩ trivial
  refine And.intro (by omega) ?_
  refine And.intro (show 0 ≤ i + 1 ∧ i + 1 < (L : Int) by omega) ?_
  refine And.intro (by omega) ?_
  refine And.intro (show 0 ≤ i + 2 ∧ i + 2 < (L : Int) by omega) ?_
  refine And.intro ⟨A, RepC_val hC, RepM_Fr hM k2, fun μ2 k3 k4 => ?_⟩ trivial
  refine And.intro (fun _ => ?_) (fun q => absurd rfl q)
  refine And.intro (by omega) ?_
  exact ih _ μ2 (RepC_Fr k1 k4) k3
set_option maxRecDepth 100000 in
theorem law_c11 {L : Nat} {xs : Int → Int} {G : Kt} (hG : oh_Cl (pg_law L xs) lawP G) {i : Int} {A : Ab} {μ : Mem} (h0 : 0 ≤ i) (h1 : i ≤ (L : Int) - 6) (hL : L ≤ 384) (hC : RepC A μ) (hM : RepM A μ) (ih : ∀ A μ, RepC A μ → RepM A μ → G 18 [some (oK 2), some (oR 13 0), some (oR 22 0), some (oI (i + 6))] [] μ) : G 541 [some (oK 2), some (oR 13 0), some (oR 22 0), some (oI i)] [] μ := by
  refine oh_go hG [(18, 4)] 60 ?_
  refine And.intro (by omega) ?_
  refine And.intro (show 0 ≤ i + 1 ∧ i + 1 < (L : Int) by omega) ?_
  refine And.intro ⟨A, hC, fun μ1 k1 k2 => ?_⟩ trivial
  refine And.intro (by omega) ?_
  refine And.intro (show 0 ≤ i + 1 ∧ i + 1 < (L : Int) by omega) ?_
  refine And.intro ⟨A, RepC_val hC, RepM_Fr hM k2, fun μ2 k3 k4 => ?_⟩ trivial
  refine And.intro (fun _ => ?_) (fun q => absurd rfl q)
  refine And.intro (by omega) ?_
  exact ih _ μ2 (RepC_Fr k1 k4) k3
set_option maxRecDepth 100000 in
theorem law_c12 {L : Nat} {xs : Int → Int} {G : Kt} (hG : oh_Cl (pg_law L xs) lawP G) {i : Int} {A : Ab} {μ : Mem} (h0 : 0 ≤ i) (h1 : i ≤ (L : Int) - 6) (hL : L ≤ 384) (hC : RepC A μ) (hM : RepM A μ) (ih : ∀ A μ, RepC A μ → RepM A μ → G 18 [some (oK 2), some (oR 13 0), some (oR 22 0), some (oI (i + 6))] [] μ) : G 564 [some (oK 2), some (oR 13 0), some (oR 22 0), some (oI i)] [] μ := by
  refine oh_go hG [(18, 4)] 60 ?_
  refine And.intro (by omega) ?_
  refine And.intro (show 0 ≤ i + 1 ∧ i + 1 < (L : Int) by omega) ?_
  refine And.intro ⟨A, hC, fun μ1 k1 k2 => ?_⟩ trivial
  refine And.intro (by omega) ?_
  refine And.intro (show 0 ≤ i + 1 ∧ i + 1 < (L : Int) by omega) ?_
  refine And.intro ⟨A, RepC_val hC, RepM_Fr hM k2, fun μ2 k3 k4 => ?_⟩ trivial
  refine And.intro (fun _ => ?_) (fun q => absurd rfl q)
  refine And.intro (by omega) ?_
  exact ih _ μ2 (RepC_Fr k1 k4) k3
set_option maxRecDepth 100000 in
theorem law_c13 {L : Nat} {xs : Int → Int} {G : Kt} (hG : oh_Cl (pg_law L xs) lawP G) {i : Int} {A : Ab} {μ : Mem} (h0 : 0 ≤ i) (h1 : i ≤ (L : Int) - 6) (hL : L ≤ 384) (hC : RepC A μ) (hM : RepM A μ) (ih : ∀ A μ, RepC A μ → RepM A μ → G 18 [some (oK 2), some (oR 13 0), some (oR 22 0), some (oI (i + 6))] [] μ) : G 587 [some (oK 2), some (oR 13 0), some (oR 22 0), some (oI i)] [] μ := by
  refine oh_go hG [(18, 4)] 60 ?_
  refine And.intro (by omega) ?_
  refine And.intro (show 0 ≤ i + 1 ∧ i + 1 < (L : Int) by omega) ?_
  refine And.intro ⟨A, hC, fun μ1 k1 k2 => ?_⟩ trivial
  refine And.intro (by omega) ?_
  refine And.intro (show 0 ≤ i + 1 ∧ i + 1 < (L : Int) by omega) ?_
  refine And.intro ⟨A, RepC_val hC, RepM_Fr hM k2, fun μ2 k3 k4 => ?_⟩ trivial
  refine And.intro (fun _ => ?_) (fun q => absurd rfl q)
  refine And.intro (by omega) ?_
  exact ih _ μ2 (RepC_Fr k1 k4) k3
set_option maxRecDepth 100000 in
theorem law_c14 {L : Nat} {xs : Int → Int} {G : Kt} (hG : oh_Cl (pg_law L xs) lawP G) {i : Int} {A : Ab} {μ : Mem} (h0 : 0 ≤ i) (h1 : i ≤ (L : Int) - 6) (hL : L ≤ 384) (hC : RepC A μ) (hM : RepM A μ) (ih : ∀ A μ, RepC A μ → RepM A μ → G 18 [some (oK 2), some (oR 13 0), some (oR 22 0), some (oI (i + 6))] [] μ) : G 610 [some (oK 2), some (oR 13 0), some (oR 22 0), some (oI i)] [] μ := by
  refine oh_go hG [(18, 4)] 60 ?_
  refine And.intro ⟨A, hC, fun μ1 k1 k2 => ?_⟩ trivial
  refine And.intro ⟨A, RepC_val hC, RepM_Fr hM k2, fun μ2 k3 k4 => ?_⟩ trivial
  refine And.intro (fun _ => ?_) (fun q => absurd rfl q)
  refine And.intro (by omega) ?_
  exact ih _ μ2 (RepC_Fr k1 k4) k3
set_option maxRecDepth 100000 in
theorem law_c15 {L : Nat} {xs : Int → Int} {G : Kt} (hG : oh_Cl (pg_law L xs) lawP G) {i : Int} {A : Ab} {μ : Mem} (h0 : 0 ≤ i) (h1 : i ≤ (L : Int) - 6) (hL : L ≤ 384) (hC : RepC A μ) (hM : RepM A μ) (ih : ∀ A μ, RepC A μ → RepM A μ → G 18 [some (oK 2), some (oR 13 0), some (oR 22 0), some (oI (i + 6))] [] μ) : G 623 [some (oK 2), some (oR 13 0), some (oR 22 0), some (oI i)] [] μ := by
  refine oh_go hG [(18, 4)] 60 ?_
  refine And.intro (by omega) ?_
  refine And.intro (show 0 ≤ i + 1 ∧ i + 1 < (L : Int) by omega) ?_
  refine And.intro ⟨A, hC, fun μ1 k1 k2 => ?_⟩ trivial
  refine And.intro (by omega) ?_
  refine And.intro (show 0 ≤ i + 1 ∧ i + 1 < (L : Int) by omega) ?_
  refine And.intro ⟨A, RepC_val hC, RepM_Fr hM k2, fun μ2 k3 k4 => ?_⟩ trivial
  refine And.intro (fun _ => ?_) (fun q => absurd rfl q)
  refine And.intro (by omega) ?_
  exact ih _ μ2 (RepC_Fr k1 k4) k3
set_option maxRecDepth 100000 in
theorem law_c16 {L : Nat} {xs : Int → Int} {G : Kt} (hG : oh_Cl (pg_law L xs) lawP G) {i : Int} {A : Ab} {μ : Mem} (h0 : 0 ≤ i) (h1 : i ≤ (L : Int) - 6) (hL : L ≤ 384) (hC : RepC A μ) (hM : RepM A μ) (ih : ∀ A μ, RepC A μ → RepM A μ → G 18 [some (oK 2), some (oR 13 0), some (oR 22 0), some (oI (i + 6))] [] μ) : G 646 [some (oK 2), some (oR 13 0), some (oR 22 0), some (oI i)] [] μ := by
  refine oh_go hG [(18, 4)] 60 ?_
  refine And.intro ⟨A, hC, fun μ1 k1 k2 => ?_⟩ trivial
  refine And.intro ⟨A, RepC_val hC, RepM_Fr hM k2, fun μ2 k3 k4 k5 => ?_⟩ trivial
  refine And.intro (fun _ => ?_) (fun q => absurd rfl q)
  refine And.intro (by omega) ?_
  exact ih A μ2 (RepC_Fr k1 k5) k3.2.1
set_option maxRecDepth 100000 in
theorem law_c17 {L : Nat} {xs : Int → Int} {G : Kt} (hG : oh_Cl (pg_law L xs) lawP G) {i : Int} {A : Ab} {μ : Mem} (h0 : 0 ≤ i) (h1 : i ≤ (L : Int) - 6) (hL : L ≤ 384) (hC : RepC A μ) (hM : RepM A μ) (ih : ∀ A μ, RepC A μ → RepM A μ → G 18 [some (oK 2), some (oR 13 0), some (oR 22 0), some (oI (i + 6))] [] μ) : G 659 [some (oK 2), some (oR 13 0), some (oR 22 0), some (oI i)] [] μ := by
  refine oh_go hG [(18, 4)] 60 ?_
  refine And.intro (by omega) ?_
  refine And.intro (show 0 ≤ i + 1 ∧ i + 1 < (L : Int) by omega) ?_
  refine And.intro (by omega) ?_
  refine And.intro (show 0 ≤ i + 2 ∧ i + 2 < (L : Int) by omega) ?_
  refine And.intro (by omega) ?_
  refine And.intro (show 0 ≤ i + 3 ∧ i + 3 < (L : Int) by omega) ?_
  refine And.intro ⟨A, hC, fun μ1 k1 k2 => ?_⟩ trivial
  refine And.intro (by omega) ?_
  refine And.intro (show 0 ≤ i + 1 ∧ i + 1 < (L : Int) by omega) ?_
  refine And.intro (by omega) ?_
  refine And.intro (show 0 ≤ i + 2 ∧ i + 2 < (L : Int) by omega) ?_
  refine And.intro (by omega) ?_
  refine And.intro (show 0 ≤ i + 3 ∧ i + 3 < (L : Int) by omega) ?_
  refine And.intro ⟨A, RepC_val hC, RepM_Fr hM k2, fun μ2 k3 k4 => ?_⟩ trivial
  refine And.intro (fun _ => ?_) (fun q => absurd rfl q)
  refine And.intro (by omega) ?_
  exact ih _ μ2 (RepC_Fr k1 k4) k3
set_option maxRecDepth 100000 in
theorem law_c18 {L : Nat} {xs : Int → Int} {G : Kt} (hG : oh_Cl (pg_law L xs) lawP G) {i : Int} {A : Ab} {μ : Mem} (h0 : 0 ≤ i) (h1 : i ≤ (L : Int) - 6) (hL : L ≤ 384) (hC : RepC A μ) (hM : RepM A μ) (ih : ∀ A μ, RepC A μ → RepM A μ → G 18 [some (oK 2), some (oR 13 0), some (oR 22 0), some (oI (i + 6))] [] μ) : G 702 [some (oK 2), some (oR 13 0), some (oR 22 0), some (oI i)] [] μ := by
  refine oh_go hG [(18, 4)] 60 ?_
  refine And.intro (by omega) ?_
  refine And.intro (show 0 ≤ i + 1 ∧ i + 1 < (L : Int) by omega) ?_
  refine And.intro (by omega) ?_
  refine And.intro (show 0 ≤ i + 2 ∧ i + 2 < (L : Int) by omega) ?_
  refine And.intro ⟨A, hC, fun μ1 k1 k2 => ?_⟩ trivial
  refine And.intro (by omega) ?_
  refine And.intro (show 0 ≤ i + 1 ∧ i + 1 < (L : Int) by omega) ?_
  refine And.intro (by omega) ?_
  refine And.intro (show 0 ≤ i + 2 ∧ i + 2 < (L : Int) by omega) ?_
  refine And.intro ⟨A, RepC_val hC, RepM_Fr hM k2, fun μ2 k3 k4 => ?_⟩ trivial
  refine And.intro (fun _ => ?_) (fun q => absurd rfl q)
  refine And.intro (by omega) ?_
  exact ih _ μ2 (RepC_Fr k1 k4) k3
set_option maxRecDepth 100000 in
theorem law_c19 {L : Nat} {xs : Int → Int} {G : Kt} (hG : oh_Cl (pg_law L xs) lawP G) {i : Int} {A : Ab} {μ : Mem} (h0 : 0 ≤ i) (h1 : i ≤ (L : Int) - 6) (hL : L ≤ 384) (hC : RepC A μ) (hM : RepM A μ) (ih : ∀ A μ, RepC A μ → RepM A μ → G 18 [some (oK 2), some (oR 13 0), some (oR 22 0), some (oI (i + 6))] [] μ) : G 735 [some (oK 2), some (oR 13 0), some (oR 22 0), some (oI i)] [] μ := by
  refine oh_go hG [(18, 4)] 60 ?_
  refine And.intro (by omega) ?_
  refine And.intro (show 0 ≤ i + 1 ∧ i + 1 < (L : Int) by omega) ?_
  refine And.intro (by omega) ?_
  refine And.intro (show 0 ≤ i + 2 ∧ i + 2 < (L : Int) by omega) ?_
  refine And.intro ⟨A, hC, fun μ1 k1 k2 => ?_⟩ trivial
  refine And.intro (by omega) ?_
  refine And.intro (show 0 ≤ i + 1 ∧ i + 1 < (L : Int) by omega) ?_
  refine And.intro (by omega) ?_
  refine And.intro (show 0 ≤ i + 2 ∧ i + 2 < (L : Int) by omega) ?_
  refine And.intro ⟨A, RepC_val hC, RepM_Fr hM k2, fun μ2 k3 k4 => ?_⟩ trivial
  refine And.intro (fun _ => ?_) (fun q => absurd rfl q)
  refine And.intro (by omega) ?_
  exact ih _ μ2 (RepC_Fr k1 k4) k3
set_option maxRecDepth 100000 in
theorem law_c20 {L : Nat} {xs : Int → Int} {G : Kt} (hG : oh_Cl (pg_law L xs) lawP G) {i : Int} {A : Ab} {μ : Mem} (h0 : 0 ≤ i) (h1 : i ≤ (L : Int) - 6) (hL : L ≤ 384) (hC : RepC A μ) (hM : RepM A μ) (ih : ∀ A μ, RepC A μ → RepM A μ → G 18 [some (oK 2), some (oR 13 0), some (oR 22 0), some (oI (i + 6))] [] μ) : G 768 [some (oK 2), some (oR 13 0), some (oR 22 0), some (oI i)] [] μ := by
  refine oh_go hG [(18, 4)] 60 ?_
  refine And.intro (by omega) ?_
  refine And.intro (show 0 ≤ i + 1 ∧ i + 1 < (L : Int) by omega) ?_
  refine And.intro (by omega) ?_
  refine And.intro (show 0 ≤ i + 2 ∧ i + 2 < (L : Int) by omega) ?_
  refine And.intro ⟨A, hC, fun μ1 k1 k2 => ?_⟩ trivial
  refine And.intro (by omega) ?_
  refine And.intro (show 0 ≤ i + 1 ∧ i + 1 < (L : Int) by omega) ?_
  refine And.intro (by omega) ?_
  refine And.intro (show 0 ≤ i + 2 ∧ i + 2 < (L : Int) by omega) ?_
  refine And.intro ⟨A, RepC_val hC, RepM_Fr hM k2, fun μ2 k3 k4 => ?_⟩ trivial
  refine And.intro (fun _ => ?_) (fun q => absurd rfl q)
  refine And.intro (by omega) ?_
  exact ih _ μ2 (RepC_Fr k1 k4) k3
set_option maxRecDepth 100000 in
theorem law_c21 {L : Nat} {xs : Int → Int} {G : Kt} (hG : oh_Cl (pg_law L xs) lawP G) {i : Int} {A : Ab} {μ : Mem} (h0 : 0 ≤ i) (h1 : i ≤ (L : Int) - 6) (hL : L ≤ 384) (hC : RepC A μ) (hM : RepM A μ) (ih : ∀ A μ, RepC A μ → RepM A μ → G 18 [some (oK 2), some (oR 13 0), some (oR 22 0), some (oI (i + 6))] [] μ) : G 801 [some (oK 2), some (oR 13 0), some (oR 22 0), some (oI i)] [] μ := by
  refine oh_go hG [(18, 4)] 60 ?_
  refine And.intro (by omega) ?_
  refine And.intro (show 0 ≤ i + 1 ∧ i + 1 < (L : Int) by omega) ?_
  refine And.intro (by omega) ?_
  refine And.intro (show 0 ≤ i + 2 ∧ i + 2 < (L : Int) by omega) ?_
  refine And.intro (by omega) ?_
  refine And.intro (show 0 ≤ i + 3 ∧ i + 3 < (L : Int) by omega) ?_
  refine And.intro ⟨A, hC, fun μ1 k1 k2 => ?_⟩ trivial
  refine And.intro (by omega) ?_
  refine And.intro (show 0 ≤ i + 1 ∧ i + 1 < (L : Int) by omega) ?_
  refine And.intro (by omega) ?_
  refine And.intro (show 0 ≤ i + 2 ∧ i + 2 < (L : Int) by omega) ?_
  refine And.intro (by omega) ?_
  refine And.intro (show 0 ≤ i + 3 ∧ i + 3 < (L : Int) by omega) ?_
  refine And.intro ⟨A, RepC_val hC, RepM_Fr hM k2, fun μ2 k3 k4 => ?_⟩ trivial
  refine And.intro (fun _ => ?_) (fun q => absurd rfl q)
  refine And.intro (by omega) ?_
  exact ih _ μ2 (RepC_Fr k1 k4) k3
set_option maxRecDepth 100000 in
theorem law_c22 {L : Nat} {xs : Int → Int} {G : Kt} (hG : oh_Cl (pg_law L xs) lawP G) {i : Int} {A : Ab} {μ : Mem} (h0 : 0 ≤ i) (h1 : i ≤ (L : Int) - 6) (hL : L ≤ 384) (hC : RepC A μ) (hM : RepM A μ) (ih : ∀ A μ, RepC A μ → RepM A μ → G 18 [some (oK 2), some (oR 13 0), some (oR 22 0), some (oI (i + 6))] [] μ) : G 844 [some (oK 2), some (oR 13 0), some (oR 22 0), some (oI i)] [] μ := by
  refine oh_go hG [(18, 4)] 60 ?_
  refine And.intro (by omega) ?_
  refine And.intro (show 0 ≤ i + 1 ∧ i + 1 < (L : Int) by omega) ?_
  refine And.intro (by omega) ?_
  refine And.intro (show 0 ≤ i + 2 ∧ i + 2 < (L : Int) by omega) ?_
  refine And.intro ⟨A, hC, fun μ1 k1 k2 => ?_⟩ trivial
  refine And.intro (by omega) ?_
  refine And.intro (show 0 ≤ i + 1 ∧ i + 1 < (L : Int) by omega) ?_
  refine And.intro (by omega) ?_
  refine And.intro (show 0 ≤ i + 2 ∧ i + 2 < (L : Int) by omega) ?_
  refine And.intro ⟨A, RepC_val hC, RepM_Fr hM k2, fun μ2 k3 k4 => ?_⟩ trivial
  refine And.intro (fun _ => ?_) (fun q => absurd rfl q)
  refine And.intro (by omega) ?_
  exact ih _ μ2 (RepC_Fr k1 k4) k3
set_option maxRecDepth 100000 in
theorem law_c23 {L : Nat} {xs : Int → Int} {G : Kt} (hG : oh_Cl (pg_law L xs) lawP G) {i : Int} {A : Ab} {μ : Mem} (h0 : 0 ≤ i) (h1 : i ≤ (L : Int) - 6) (hL : L ≤ 384) (hC : RepC A μ) (hM : RepM A μ) (ih : ∀ A μ, RepC A μ → RepM A μ → G 18 [some (oK 2), some (oR 13 0), some (oR 22 0), some (oI (i + 6))] [] μ) : G 877 [some (oK 2), some (oR 13 0), some (oR 22 0), some (oI i)] [] μ := by
  refine oh_go hG [(18, 4)] 60 ?_
  refine And.intro (by omega) ?_
  refine And.intro (show 0 ≤ i + 1 ∧ i + 1 < (L : Int) by omega) ?_
  refine And.intro (by omega) ?_
  refine And.intro (show 0 ≤ i + 2 ∧ i + 2 < (L : Int) by omega) ?_
  refine And.intro (by omega) ?_
  refine And.intro (show 0 ≤ i + 3 ∧ i + 3 < (L : Int) by omega) ?_
  refine And.intro (by omega) ?_
  refine And.intro (show 0 ≤ i + 4 ∧ i + 4 < (L : Int) by omega) ?_
  refine And.intro ⟨A, hC, fun μ1 k1 k2 => ?_⟩ trivial
  refine And.intro (by omega) ?_
  refine And.intro (show 0 ≤ i + 1 ∧ i + 1 < (L : Int) by omega) ?_
  refine And.intro (by omega) ?_
  refine And.intro (show 0 ≤ i + 2 ∧ i + 2 < (L : Int) by omega) ?_
  refine And.intro (by omega) ?_
  refine And.intro (show 0 ≤ i + 3 ∧ i + 3 < (L : Int) by omega) ?_
  refine And.intro (by omega) ?_
  refine And.intro (show 0 ≤ i + 4 ∧ i + 4 < (L : Int) by omega) ?_
  refine And.intro ⟨A, RepC_val hC, RepM_Fr hM k2, fun μ2 k3 k4 => ?_⟩ trivial
  refine And.intro (fun _ => ?_) (fun q => absurd rfl q)
  refine And.intro (by omega) ?_
  exact ih _ μ2 (RepC_Fr k1 k4) k3
set_option maxRecDepth 100000 in
theorem law_c24 {L : Nat} {xs : Int → Int} {G : Kt} (hG : oh_Cl (pg_law L xs) lawP G) {i : Int} {A : Ab} {μ : Mem} (h0 : 0 ≤ i) (h1 : i ≤ (L : Int) - 6) (hL : L ≤ 384) (hC : RepC A μ) (hM : RepM A μ) (ih : ∀ A μ, RepC A μ → RepM A μ → G 18 [some (oK 2), some (oR 13 0), some (oR 22 0), some (oI (i + 6))] [] μ) : G 930 [some (oK 2), some (oR 13 0), some (oR 22 0), some (oI i)] [] μ := by
  refine oh_go hG [(18, 4)] 60 ?_
  refine And.intro ⟨A, hC, fun μ1 k1 k2 => ?_⟩ trivial
  refine And.intro ⟨A, RepC_val hC, RepM_Fr hM k2, fun μ2 k3 k4 => ?_⟩ trivial
  refine And.intro (fun _ => ?_) (fun q => absurd rfl q)
  refine And.intro (by omega) ?_
  exact ih _ μ2 (RepC_Fr k1 k4) k3
set_option maxRecDepth 100000 in
theorem law_c25 {L : Nat} {xs : Int → Int} {G : Kt} (hG : oh_Cl (pg_law L xs) lawP G) {i : Int} {A : Ab} {μ : Mem} (h0 : 0 ≤ i) (h1 : i ≤ (L : Int) - 6) (hL : L ≤ 384) (hC : RepC A μ) (hM : RepM A μ) (ih : ∀ A μ, RepC A μ → RepM A μ → G 18 [some (oK 2), some (oR 13 0), some (oR 22 0), some (oI (i + 6))] [] μ) : G 943 [some (oK 2), some (oR 13 0), some (oR 22 0), some (oI i)] [] μ := by
  refine oh_go hG [(18, 4)] 60 ?_
  refine And.intro (by omega) ?_
  refine And.intro (show 0 ≤ i + 1 ∧ i + 1 < (L : Int) by omega) ?_
  refine And.intro ⟨A, hC, fun μ1 k1 k2 => ?_⟩ trivial
  refine And.intro (by omega) ?_
  refine And.intro (show 0 ≤ i + 1 ∧ i + 1 < (L : Int) by omega) ?_
  refine And.intro ⟨A, RepC_val hC, RepM_Fr hM k2, fun μ2 k3 k4 => ?_⟩ trivial
  refine And.intro (fun _ => ?_) (fun q => absurd rfl q)
  refine And.intro (by omega) ?_
  exact ih _ μ2 (RepC_Fr k1 k4) k3
set_option maxRecDepth 100000 in
theorem law_c26 {L : Nat} {xs : Int → Int} {G : Kt} (hG : oh_Cl (pg_law L xs) lawP G) {i : Int} {A : Ab} {μ : Mem} (h0 : 0 ≤ i) (h1 : i ≤ (L : Int) - 6) (hL : L ≤ 384) (hC : RepC A μ) (hM : RepM A μ) (ih : ∀ A μ, RepC A μ → RepM A μ → G 18 [some (oK 2), some (oR 13 0), some (oR 22 0), some (oI (i + 6))] [] μ) : G 966 [some (oK 2), some (oR 13 0), some (oR 22 0), some (oI i)] [] μ := by
  refine oh_go hG [(18, 4)] 60 ?_
  refine And.intro ⟨A, hC, fun μ1 k1 k2 => ?_⟩ trivial
  refine And.intro ⟨A, RepC_val hC, RepM_Fr hM k2, fun μ2 k3 k4 => ?_⟩ trivial
  refine And.intro (fun _ => ?_) (fun q => absurd rfl q)
  refine And.intro (by omega) ?_
  exact ih _ μ2 (RepC_Fr k1 k4) k3
set_option maxRecDepth 100000 in
theorem law_c27 {L : Nat} {xs : Int → Int} {G : Kt} (hG : oh_Cl (pg_law L xs) lawP G) {i : Int} {A : Ab} {μ : Mem} (h0 : 0 ≤ i) (h1 : i ≤ (L : Int) - 6) (hL : L ≤ 384) (hC : RepC A μ) (hM : RepM A μ) (ih : ∀ A μ, RepC A μ → RepM A μ → G 18 [some (oK 2), some (oR 13 0), some (oR 22 0), some (oI (i + 6))] [] μ) : G 979 [some (oK 2), some (oR 13 0), some (oR 22 0), some (oI i)] [] μ := by
  refine oh_go hG [(18, 4)] 60 ?_
  refine And.intro (by omega) ?_
  refine And.intro (show 0 ≤ i + 1 ∧ i + 1 < (L : Int) by omega) ?_
  refine And.intro (by omega) ?_
  refine And.intro (show 0 ≤ i + 2 ∧ i + 2 < (L : Int) by omega) ?_
  refine And.intro ⟨A, hC, fun μ1 k1 k2 => ?_⟩ trivial
  refine And.intro (by omega) ?_
  refine And.intro (show 0 ≤ i + 1 ∧ i + 1 < (L : Int) by omega) ?_
  refine And.intro (by omega) ?_
  refine And.intro (show 0 ≤ i + 2 ∧ i + 2 < (L : Int) by omega) ?_
  refine And.intro ⟨A, RepC_val hC, RepM_Fr hM k2, fun μ2 k3 k4 => ?_⟩ trivial
  refine And.intro (fun _ => ?_) (fun q => absurd rfl q)
  refine And.intro (by omega) ?_
  exact ih _ μ2 (RepC_Fr k1 (kM_Fr (kR_k k4))) (by rw [q_heir]; exact k3.2.1)
set_option maxRecDepth 100000 in
theorem law_c28 {L : Nat} {xs : Int → Int} {G : Kt} (hG : oh_Cl (pg_law L xs) lawP G) {i : Int} {A : Ab} {μ : Mem} (h0 : 0 ≤ i) (h1 : i ≤ (L : Int) - 6) (hL : L ≤ 384) (hC : RepC A μ) (hM : RepM A μ) (ih : ∀ A μ, RepC A μ → RepM A μ → G 18 [some (oK 2), some (oR 13 0), some (oR 22 0), some (oI (i + 6))] [] μ) : G 1012 [some (oK 2), some (oR 13 0), some (oR 22 0), some (oI i)] [] μ := by
  refine oh_go hG [(18, 4)] 60 ?_
  refine And.intro (by omega) ?_
  refine And.intro (show 0 ≤ i + 1 ∧ i + 1 < (L : Int) by omega) ?_
  refine And.intro (by omega) ?_
  refine And.intro (show 0 ≤ i + 2 ∧ i + 2 < (L : Int) by omega) ?_
  refine And.intro (by omega) ?_
  refine And.intro (show 0 ≤ i + 3 ∧ i + 3 < (L : Int) by omega) ?_
  refine And.intro ⟨A, hC, fun μ1 k1 k2 => ?_⟩ trivial
  refine And.intro (by omega) ?_
  refine And.intro (show 0 ≤ i + 1 ∧ i + 1 < (L : Int) by omega) ?_
  refine And.intro (by omega) ?_
  refine And.intro (show 0 ≤ i + 2 ∧ i + 2 < (L : Int) by omega) ?_
  refine And.intro (by omega) ?_
  refine And.intro (show 0 ≤ i + 3 ∧ i + 3 < (L : Int) by omega) ?_
  refine And.intro ⟨A, RepC_val hC, RepM_Fr hM k2, fun μ2 k3 k4 => ?_⟩ trivial
  refine And.intro (fun _ => ?_) (fun q => absurd rfl q)
  refine And.intro (by omega) ?_
  exact ih _ μ2 (RepC_Fr k1 k4) k3
set_option maxRecDepth 100000 in
theorem law_c29 {L : Nat} {xs : Int → Int} {G : Kt} (hG : oh_Cl (pg_law L xs) lawP G) {i : Int} {A : Ab} {μ : Mem} (h0 : 0 ≤ i) (h1 : i ≤ (L : Int) - 6) (hL : L ≤ 384) (hC : RepC A μ) (hM : RepM A μ) (ih : ∀ A μ, RepC A μ → RepM A μ → G 18 [some (oK 2), some (oR 13 0), some (oR 22 0), some (oI (i + 6))] [] μ) : G 1055 [some (oK 2), some (oR 13 0), some (oR 22 0), some (oI i)] [] μ := by
  refine oh_go hG [(18, 4)] 60 ?_
  refine And.intro ⟨A, hC, fun μ1 k1 k2 => ?_⟩ trivial
  refine And.intro ⟨A, RepC_val hC, RepM_Fr hM k2, fun μ2 k3 k4 => ?_⟩ trivial
  refine And.intro (fun _ => ?_) (fun q => absurd rfl q)
  refine And.intro (by omega) ?_
  exact ih _ μ2 (RepC_Fr k1 k4) k3
set_option maxRecDepth 100000 in
theorem law_c30 {L : Nat} {xs : Int → Int} {G : Kt} (hG : oh_Cl (pg_law L xs) lawP G) {i : Int} {A : Ab} {μ : Mem} (h0 : 0 ≤ i) (h1 : i ≤ (L : Int) - 6) (hL : L ≤ 384) (hC : RepC A μ) (hM : RepM A μ) (ih : ∀ A μ, RepC A μ → RepM A μ → G 18 [some (oK 2), some (oR 13 0), some (oR 22 0), some (oI (i + 6))] [] μ) : G 1068 [some (oK 2), some (oR 13 0), some (oR 22 0), some (oI i)] [] μ := by
  refine oh_go hG [(18, 4)] 60 ?_
  refine And.intro ⟨A, hC, fun μ1 k1 k2 => ?_⟩ trivial
  refine And.intro ⟨A, RepC_val hC, RepM_Fr hM k2, fun μ2 k3 k4 => ?_⟩ trivial
  refine And.intro (fun _ => ?_) (fun q => absurd rfl q)
  refine And.intro (by omega) ?_
  exact ih _ μ2 (RepC_Fr k1 k4) k3
set_option maxRecDepth 100000 in
theorem law_c31 {L : Nat} {xs : Int → Int} {G : Kt} (hG : oh_Cl (pg_law L xs) lawP G) {i : Int} {A : Ab} {μ : Mem} (h0 : 0 ≤ i) (h1 : i ≤ (L : Int) - 6) (hL : L ≤ 384) (hC : RepC A μ) (hM : RepM A μ) (ih : ∀ A μ, RepC A μ → RepM A μ → G 18 [some (oK 2), some (oR 13 0), some (oR 22 0), some (oI (i + 6))] [] μ) : G 1081 [some (oK 2), some (oR 13 0), some (oR 22 0), some (oI i)] [] μ := by
  refine oh_go hG [(18, 4)] 60 ?_
  refine And.intro ⟨A, hC, fun μ1 k1 k2 => ?_⟩ trivial
  refine And.intro ⟨A, RepC_val hC, RepM_Fr hM k2, fun μ2 k3 k4 => ?_⟩ trivial
  refine And.intro (fun _ => ?_) (fun q => absurd rfl q)
  refine And.intro (by omega) ?_
  exact ih _ μ2 (RepC_Fr k1 k4) k3
set_option maxRecDepth 100000 in
theorem law_c32 {L : Nat} {xs : Int → Int} {G : Kt} (hG : oh_Cl (pg_law L xs) lawP G) {i : Int} {A : Ab} {μ : Mem} (h0 : 0 ≤ i) (h1 : i ≤ (L : Int) - 6) (hL : L ≤ 384) (hC : RepC A μ) (hM : RepM A μ) (ih : ∀ A μ, RepC A μ → RepM A μ → G 18 [some (oK 2), some (oR 13 0), some (oR 22 0), some (oI (i + 6))] [] μ) : G 1094 [some (oK 2), some (oR 13 0), some (oR 22 0), some (oI i)] [] μ := by
  refine oh_go hG [(18, 4)] 60 ?_
  refine And.intro (by omega) ?_
  refine And.intro (show 0 ≤ i + 1 ∧ i + 1 < (L : Int) by omega) ?_
  refine And.intro (by omega) ?_
  refine And.intro (show 0 ≤ i + 2 ∧ i + 2 < (L : Int) by omega) ?_
  refine And.intro (by omega) ?_
  refine And.intro (show 0 ≤ i + 3 ∧ i + 3 < (L : Int) by omega) ?_
  refine And.intro ⟨A, hC, fun μ1 k1 k2 => ?_⟩ trivial
  refine And.intro (by omega) ?_
  refine And.intro (show 0 ≤ i + 1 ∧ i + 1 < (L : Int) by omega) ?_
  refine And.intro (by omega) ?_
  refine And.intro (show 0 ≤ i + 2 ∧ i + 2 < (L : Int) by omega) ?_
  refine And.intro (by omega) ?_
  refine And.intro (show 0 ≤ i + 3 ∧ i + 3 < (L : Int) by omega) ?_
  refine And.intro ⟨A, RepC_val hC, RepM_Fr hM k2, fun μ2 k3 k4 => ?_⟩ trivial
  refine And.intro (fun _ => ?_) (fun q => absurd rfl q)
  refine And.intro (by omega) ?_
  exact ih _ μ2 (RepC_Fr k1 k4) k3
set_option maxRecDepth 100000 in
theorem law_c33 {L : Nat} {xs : Int → Int} {G : Kt} (hG : oh_Cl (pg_law L xs) lawP G) {i : Int} {A : Ab} {μ : Mem} (h0 : 0 ≤ i) (h1 : i ≤ (L : Int) - 6) (hL : L ≤ 384) (hC : RepC A μ) (hM : RepM A μ) (ih : ∀ A μ, RepC A μ → RepM A μ → G 18 [some (oK 2), some (oR 13 0), some (oR 22 0), some (oI (i + 6))] [] μ) : G 1137 [some (oK 2), some (oR 13 0), some (oR 22 0), some (oI i)] [] μ := by
  refine oh_go hG [(18, 4)] 60 ?_
  refine And.intro (by omega) ?_
  refine And.intro (show 0 ≤ i + 1 ∧ i + 1 < (L : Int) by omega) ?_
  refine And.intro ⟨A, hC, fun μ1 k1 k2 => ?_⟩ trivial
  refine And.intro (by omega) ?_
  refine And.intro (show 0 ≤ i + 1 ∧ i + 1 < (L : Int) by omega) ?_
  refine And.intro ⟨A, RepC_val hC, RepM_Fr hM k2, fun μ2 k3 k4 => ?_⟩ trivial
  refine And.intro (fun _ => ?_) (fun q => absurd rfl q)
  refine And.intro (by omega) ?_
  exact ih _ μ2 (RepC_Fr k1 k4) k3
set_option maxRecDepth 100000 in
theorem law_c34 {L : Nat} {xs : Int → Int} {G : Kt} (hG : oh_Cl (pg_law L xs) lawP G) {i : Int} {A : Ab} {μ : Mem} (h0 : 0 ≤ i) (h1 : i ≤ (L : Int) - 6) (hL : L ≤ 384) (hC : RepC A μ) (hM : RepM A μ) (ih : ∀ A μ, RepC A μ → RepM A μ → G 18 [some (oK 2), some (oR 13 0), some (oR 22 0), some (oI (i + 6))] [] μ) : G 1160 [some (oK 2), some (oR 13 0), some (oR 22 0), some (oI i)] [] μ := by
  refine oh_go hG [(18, 4)] 60 ?_
  refine And.intro (by omega) ?_
  refine And.intro (show 0 ≤ i + 1 ∧ i + 1 < (L : Int) by omega) ?_
  refine And.intro (by omega) ?_
  refine And.intro (show 0 ≤ i + 2 ∧ i + 2 < (L : Int) by omega) ?_
  refine And.intro (by omega) ?_
  refine And.intro (show 0 ≤ i + 3 ∧ i + 3 < (L : Int) by omega) ?_
  refine And.intro (by omega) ?_
  refine And.intro (show 0 ≤ i + 4 ∧ i + 4 < (L : Int) by omega) ?_
  refine And.intro ⟨A, hC, fun μ1 k1 k2 => ?_⟩ trivial
  refine And.intro (by omega) ?_
  refine And.intro (show 0 ≤ i + 1 ∧ i + 1 < (L : Int) by omega) ?_
  refine And.intro (by omega) ?_
  refine And.intro (show 0 ≤ i + 2 ∧ i + 2 < (L : Int) by omega) ?_
  refine And.intro (by omega) ?_
  refine And.intro (show 0 ≤ i + 3 ∧ i + 3 < (L : Int) by omega) ?_
  refine And.intro (by omega) ?_
  refine And.intro (show 0 ≤ i + 4 ∧ i + 4 < (L : Int) by omega) ?_
  refine And.intro ⟨A, RepC_val hC, RepM_Fr hM k2, fun μ2 k3 k4 => ?_⟩ trivial
  refine And.intro (fun _ => ?_) (fun q => absurd rfl q)
  refine And.intro (by omega) ?_
  exact ih _ μ2 (RepC_Fr k1 k4) k3
set_option maxRecDepth 100000 in
theorem law_c35 {L : Nat} {xs : Int → Int} {G : Kt} (hG : oh_Cl (pg_law L xs) lawP G) {i : Int} {A : Ab} {μ : Mem} (h0 : 0 ≤ i) (h1 : i ≤ (L : Int) - 6) (hL : L ≤ 384) (hC : RepC A μ) (hM : RepM A μ) (ih : ∀ A μ, RepC A μ → RepM A μ → G 18 [some (oK 2), some (oR 13 0), some (oR 22 0), some (oI (i + 6))] [] μ) : G 1213 [some (oK 2), some (oR 13 0), some (oR 22 0), some (oI i)] [] μ := by
  refine oh_go hG [(18, 4)] 60 ?_
  refine And.intro (by omega) ?_
  refine And.intro (show 0 ≤ i + 1 ∧ i + 1 < (L : Int) by omega) ?_
  refine And.intro (by omega) ?_
  refine And.intro (show 0 ≤ i + 2 ∧ i + 2 < (L : Int) by omega) ?_
  refine And.intro (by omega) ?_
  refine And.intro (show 0 ≤ i + 3 ∧ i + 3 < (L : Int) by omega) ?_
  refine And.intro ⟨A, hC, fun μ1 k1 k2 => ?_⟩ trivial
  refine And.intro (by omega) ?_
  refine And.intro (show 0 ≤ i + 1 ∧ i + 1 < (L : Int) by omega) ?_
  refine And.intro (by omega) ?_
  refine And.intro (show 0 ≤ i + 2 ∧ i + 2 < (L : Int) by omega) ?_
  refine And.intro (by omega) ?_
  refine And.intro (show 0 ≤ i + 3 ∧ i + 3 < (L : Int) by omega) ?_
  refine And.intro ⟨A, RepC_val hC, RepM_Fr hM k2, fun μ2 k3 k4 => ?_⟩ trivial
  refine And.intro (fun _ => ?_) (fun q => absurd rfl q)
  refine And.intro (by omega) ?_
  exact ih _ μ2 (RepC_Fr k1 k4) k3
set_option maxRecDepth 100000 in
theorem law_c36 {L : Nat} {xs : Int → Int} {G : Kt} (hG : oh_Cl (pg_law L xs) lawP G) {i : Int} {A : Ab} {μ : Mem} (h0 : 0 ≤ i) (h1 : i ≤ (L : Int) - 6) (hL : L ≤ 384) (hC : RepC A μ) (hM : RepM A μ) (ih : ∀ A μ, RepC A μ → RepM A μ → G 18 [some (oK 2), some (oR 13 0), some (oR 22 0), some (oI (i + 6))] [] μ) : G 1256 [some (oK 2), some (oR 13 0), some (oR 22 0), some (oI i)] [] μ := by
  refine oh_go hG [(18, 4)] 60 ?_
  refine And.intro (by omega) ?_
  refine And.intro (show 0 ≤ i + 1 ∧ i + 1 < (L : Int) by omega) ?_
  refine And.intro (by omega) ?_
  refine And.intro (show 0 ≤ i + 2 ∧ i + 2 < (L : Int) by omega) ?_
  refine And.intro (by omega) ?_
  refine And.intro (show 0 ≤ i + 3 ∧ i + 3 < (L : Int) by omega) ?_
  refine And.intro (by omega) ?_
  refine And.intro (show 0 ≤ i + 4 ∧ i + 4 < (L : Int) by omega) ?_
  refine And.intro (by omega) ?_
  refine And.intro (show 0 ≤ i + 5 ∧ i + 5 < (L : Int) by omega) ?_
  refine And.intro ⟨A, hC, fun μ1 k1 k2 => ?_⟩ trivial
  refine And.intro (by omega) ?_
  refine And.intro (show 0 ≤ i + 1 ∧ i + 1 < (L : Int) by omega) ?_
  refine And.intro (by omega) ?_
  refine And.intro (show 0 ≤ i + 2 ∧ i + 2 < (L : Int) by omega) ?_
  refine And.intro (by omega) ?_
  refine And.intro (show 0 ≤ i + 3 ∧ i + 3 < (L : Int) by omega) ?_
  refine And.intro (by omega) ?_
  refine And.intro (show 0 ≤ i + 4 ∧ i + 4 < (L : Int) by omega) ?_
  refine And.intro (by omega) ?_
  refine And.intro (show 0 ≤ i + 5 ∧ i + 5 < (L : Int) by omega) ?_
  refine And.intro ⟨A, RepC_val hC, RepM_Fr hM k2, fun μ2 k3 k4 => ?_⟩ trivial
  refine And.intro (fun _ => ?_) (fun q => absurd rfl q)
  refine And.intro (by omega) ?_
  exact ih _ μ2 (RepC_Fr k1 k4) k3
set_option maxRecDepth 100000 in
theorem law_c37 {L : Nat} {xs : Int → Int} {G : Kt} (hG : oh_Cl (pg_law L xs) lawP G) {i : Int} {A : Ab} {μ : Mem} (h0 : 0 ≤ i) (h1 : i ≤ (L : Int) - 6) (hL : L ≤ 384) (hC : RepC A μ) (hM : RepM A μ) (ih : ∀ A μ, RepC A μ → RepM A μ → G 18 [some (oK 2), some (oR 13 0), some (oR 22 0), some (oI (i + 6))] [] μ) : G 1319 [some (oK 2), some (oR 13 0), some (oR 22 0), some (oI i)] [] μ := by
  refine oh_go hG [(18, 4)] 60 ?_
  refine And.intro (by omega) ?_
  refine And.intro (show 0 ≤ i + 1 ∧ i + 1 < (L : Int) by omega) ?_
  refine And.intro (by omega) ?_
  refine And.intro (show 0 ≤ i + 2 ∧ i + 2 < (L : Int) by omega) ?_
  refine And.intro ⟨A, hC, fun μ1 k1 k2 => ?_⟩ trivial
  refine And.intro (by omega) ?_
  refine And.intro (show 0 ≤ i + 1 ∧ i + 1 < (L : Int) by omega) ?_
  refine And.intro (by omega) ?_
  refine And.intro (show 0 ≤ i + 2 ∧ i + 2 < (L : Int) by omega) ?_
  refine And.intro ⟨A, RepC_val hC, RepM_Fr hM k2, fun μ2 k3 k4 => ?_⟩ trivial
  refine And.intro (fun _ => ?_) (fun q => absurd rfl q)
  refine And.intro (by omega) ?_
  exact ih _ μ2 (RepC_Fr k1 k4) k3
set_option maxRecDepth 100000 in
theorem law_c38 {L : Nat} {xs : Int → Int} {G : Kt} (hG : oh_Cl (pg_law L xs) lawP G) {i : Int} {A : Ab} {μ : Mem} (h0 : 0 ≤ i) (h1 : i ≤ (L : Int) - 6) (hL : L ≤ 384) (hC : RepC A μ) (hM : RepM A μ) (ih : ∀ A μ, RepC A μ → RepM A μ → G 18 [some (oK 2), some (oR 13 0), some (oR 22 0), some (oI (i + 6))] [] μ) : G 1352 [some (oK 2), some (oR 13 0), some (oR 22 0), some (oI i)] [] μ := by
  refine oh_go hG [(18, 4)] 60 ?_
  refine And.intro (by omega) ?_
  refine And.intro (show 0 ≤ i + 1 ∧ i + 1 < (L : Int) by omega) ?_
  refine And.intro ⟨A, hC, fun μ1 k1 k2 => ?_⟩ trivial
  refine And.intro (by omega) ?_
  refine And.intro (show 0 ≤ i + 1 ∧ i + 1 < (L : Int) by omega) ?_
  refine And.intro ⟨A, RepC_val hC, RepM_Fr hM k2, fun μ2 k3 k4 => ?_⟩ trivial
  refine And.intro (fun _ => ?_) (fun q => absurd rfl q)
  refine And.intro (by omega) ?_
  exact ih _ μ2 (RepC_Fr k1 k4) k3
set_option maxRecDepth 100000 in
theorem law_c39 {L : Nat} {xs : Int → Int} {G : Kt} (hG : oh_Cl (pg_law L xs) lawP G) {i : Int} {A : Ab} {μ : Mem} (h0 : 0 ≤ i) (h1 : i ≤ (L : Int) - 6) (hL : L ≤ 384) (hC : RepC A μ) (hM : RepM A μ) (ih : ∀ A μ, RepC A μ → RepM A μ → G 18 [some (oK 2), some (oR 13 0), some (oR 22 0), some (oI (i + 6))] [] μ) : G 1375 [some (oK 2), some (oR 13 0), some (oR 22 0), some (oI i)] [] μ := by
  refine oh_go hG [(18, 4)] 60 ?_
  refine And.intro ⟨A, hC, fun μ1 k1 k2 => ?_⟩ trivial
  refine And.intro ⟨A, RepC_val hC, RepM_Fr hM k2, fun μ2 k3 k4 => ?_⟩ trivial
  refine And.intro (fun _ => ?_) (fun q => absurd (oh_cmp_eq _) q)
  refine And.intro (by omega) ?_
  exact ih _ μ2 (RepC_Fr k1 k4) k3
set_option maxRecDepth 100000 in
theorem law_ok {L : Nat} {xs : Int → Int} {G : Kt} (hG : oh_Cl (pg_law L xs) lawP G) (hL : L ≤ 384) : ∀ (m : Nat) (i : Int) (A : Ab) (μ : Mem), 0 ≤ i → i ≤ 390 → (L : Int) - i ≤ m → RepC A μ → RepM A μ → G 18 [some (oK 2), some (oR 13 0), some (oR 22 0), some (oI i)] [] μ := by
  intro m
  induction m with
  | zero =>
    intro i A μ h0 h9 h1 hC hM
    refine oh_go hG [(21, 4)] 10 ?_
    show G 21 [some (oK 2), some (oR 13 0), some (oR 22 0), some (oI i)] [oI (L : Int), oI i] μ
    refine oh_go hG [(208, 4), (241, 4), (264, 4), (287, 4), (310, 4), (333, 4), (366, 4), (409, 4), (442, 4), (475, 4), (508, 4), (541, 4), (564, 4), (587, 4), (610, 4), (623, 4), (646, 4), (659, 4), (702, 4), (735, 4), (768, 4), (801, 4), (844, 4), (877, 4), (930, 4), (943, 4), (966, 4), (979, 4), (1012, 4), (1055, 4), (1068, 4), (1081, 4), (1094, 4), (1137, 4), (1160, 4), (1213, 4), (1256, 4), (1319, 4), (1352, 4), (1375, 4), (1389, 4)] 60 ?_
    refine And.intro (by omega) ?_
    refine And.intro (fun _ => ⟨by omega, rfl⟩) (fun q => absurd (by omega) q)
  | succ m ih =>
    intro i A μ h0 h9 h1 hC hM
    refine oh_go hG [(21, 4)] 10 ?_
    show G 21 [some (oK 2), some (oR 13 0), some (oR 22 0), some (oI i)] [oI (L : Int), oI i] μ
    refine oh_go hG [(208, 4), (241, 4), (264, 4), (287, 4), (310, 4), (333, 4), (366, 4), (409, 4), (442, 4), (475, 4), (508, 4), (541, 4), (564, 4), (587, 4), (610, 4), (623, 4), (646, 4), (659, 4), (702, 4), (735, 4), (768, 4), (801, 4), (844, 4), (877, 4), (930, 4), (943, 4), (966, 4), (979, 4), (1012, 4), (1055, 4), (1068, 4), (1081, 4), (1094, 4), (1137, 4), (1160, 4), (1213, 4), (1256, 4), (1319, 4), (1352, 4), (1375, 4), (1389, 4)] 60 ?_
    refine And.intro (by omega) ?_
    refine And.intro (fun _ => ⟨by omega, rfl⟩) (fun q => ?_)
    have h2 : i ≤ (L : Int) - 6 := by omega
    have ih : ∀ A μ, RepC A μ → RepM A μ → G 18 [some (oK 2), some (oR 13 0), some (oR 22 0), some (oI (i + 6))] [] μ := fun A μ a b => ih (i + 6) A μ (by omega) (by omega) (by omega) a b
    refine And.intro (show 0 ≤ i ∧ i < (L : Int) by omega) ?_
    refine And.intro (fun _ => ?_) ?_
    · refine oh_go hG [(18, 4)] 10 ?_
      refine And.intro (by omega) ?_
      exact ih A μ hC hM
    refine And.intro (fun _ => law_c0 hG h0 h2 hL hC hM ih) ?_
    refine And.intro (fun _ => law_c1 hG h0 h2 hL hC hM ih) ?_
    refine And.intro (fun _ => law_c2 hG h0 h2 hL hC hM ih) ?_
    refine And.intro (fun _ => law_c3 hG h0 h2 hL hC hM ih) ?_
    refine And.intro (fun _ => law_c4 hG h0 h2 hL hC hM ih) ?_
    refine And.intro (fun _ => law_c5 hG h0 h2 hL hC hM ih) ?_
    refine And.intro (fun _ => law_c6 hG h0 h2 hL hC hM ih) ?_
    refine And.intro (fun _ => law_c7 hG h0 h2 hL hC hM ih) ?_
    refine And.intro (fun _ => law_c8 hG h0 h2 hL hC hM ih) ?_
    refine And.intro (fun _ => law_c9 hG h0 h2 hL hC hM ih) ?_
    refine And.intro (fun _ => law_c10 hG h0 h2 hL hC hM ih) ?_
    refine And.intro (fun _ => law_c11 hG h0 h2 hL hC hM ih) ?_
    refine And.intro (fun _ => law_c12 hG h0 h2 hL hC hM ih) ?_
    refine And.intro (fun _ => law_c13 hG h0 h2 hL hC hM ih) ?_
    refine And.intro (fun _ => law_c14 hG h0 h2 hL hC hM ih) ?_
    refine And.intro (fun _ => law_c15 hG h0 h2 hL hC hM ih) ?_
    refine And.intro (fun _ => law_c16 hG h0 h2 hL hC hM ih) ?_
    refine And.intro (fun _ => law_c17 hG h0 h2 hL hC hM ih) ?_
    refine And.intro (fun _ => law_c18 hG h0 h2 hL hC hM ih) ?_
    refine And.intro (fun _ => law_c19 hG h0 h2 hL hC hM ih) ?_
    refine And.intro (fun _ => law_c20 hG h0 h2 hL hC hM ih) ?_
    refine And.intro (fun _ => law_c21 hG h0 h2 hL hC hM ih) ?_
    refine And.intro (fun _ => law_c22 hG h0 h2 hL hC hM ih) ?_
    refine And.intro (fun _ => law_c23 hG h0 h2 hL hC hM ih) ?_
    refine And.intro (fun _ => law_c24 hG h0 h2 hL hC hM ih) ?_
    refine And.intro (fun _ => law_c25 hG h0 h2 hL hC hM ih) ?_
    refine And.intro (fun _ => law_c26 hG h0 h2 hL hC hM ih) ?_
    refine And.intro (fun _ => law_c27 hG h0 h2 hL hC hM ih) ?_
    refine And.intro (fun _ => law_c28 hG h0 h2 hL hC hM ih) ?_
    refine And.intro (fun _ => law_c29 hG h0 h2 hL hC hM ih) ?_
    refine And.intro (fun _ => law_c30 hG h0 h2 hL hC hM ih) ?_
    refine And.intro (fun _ => law_c31 hG h0 h2 hL hC hM ih) ?_
    refine And.intro (fun _ => law_c32 hG h0 h2 hL hC hM ih) ?_
    refine And.intro (fun _ => law_c33 hG h0 h2 hL hC hM ih) ?_
    refine And.intro (fun _ => law_c34 hG h0 h2 hL hC hM ih) ?_
    refine And.intro (fun _ => law_c35 hG h0 h2 hL hC hM ih) ?_
    refine And.intro (fun _ => law_c36 hG h0 h2 hL hC hM ih) ?_
    refine And.intro (fun _ => law_c37 hG h0 h2 hL hC hM ih) ?_
    refine And.intro (fun _ => law_c38 hG h0 h2 hL hC hM ih) ?_
    refine And.intro (fun _ => law_c39 hG h0 h2 hL hC hM ih) ?_
    trivial
