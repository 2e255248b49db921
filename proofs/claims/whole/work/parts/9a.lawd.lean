/-! THE LAW, 4: its own table -/
def tb_Lw_law (X : xX) : List (Nat × xOp) := [(0, o_new 0 12 [.null, .int 0, .null, .int 0, .null, .int 0, .int 0, .null, .null, .null, .null, .null] 3),
  (3, o_dup 4),
  (4, o_callI X.l X.D X.P 8 1 y_Sc_init 7),
  (7, o_ast 1 8),
  (8, o_new 13 85 [.int 0, .null, .int 0, .null, .int 0, .int 0, .int 0, .null, .int 0, .int 0, .int 0, .int 0, .null, .null, .null, .null, .null, .null, .null, .null, .null, .null, .null, .null, .null, .null, .null, .null, .null, .null, .null, .null, .int 0, .null, .null, .null, .null, .int 0, .int 0, .int 0, .int 0, .null, .int 0, .null, .int 0, .int 0, .int 0, .int 0, .int 0, .int 0, .int 0, .int 0, .int 0, .null, .null, .null, .null, .null, .null, .null, .null, .null, .null, .null, .null, .null, .null, .null, .int 0, .int 0, .null, .null, .null, .null, .null, .null, .null, .null, .null, .int 0, .null, .null, .null, .null, .int 0] 11),
  (11, o_dup 12),
  (12, o_callI X.l X.D X.P 1 1 y_Mo_init 15),
  (15, o_ast 2 16),
  (16, o_ic 1 17),
  (17, o_newa 2 (.long 0) 19),
  (19, o_ast 3 20),
  (20, o_ic 0 21),
  (21, o_ist 4 23),
  (23, o_ild 4 25),
  (25, o_ald 0 26),
  (26, o_len 27),
  (27, o_ic 6 29),
  (29, o_isub 30),
  (30, o_icgt 906 33),
  (33, o_ald 0 34),
  (34, o_ild 4 36),
  (36, o_ld 0 37),
  (37, o_ic 15 39),
  (39, o_iand 40),
  (40, o_sw [(0, 112), (1, 216), (2, 272), (3, 316), (4, 360), (5, 373), (6, 429), (7, 485), (8, 529), (9, 585), (10, 653), (11, 721), (12, 789), (13, 844)] 900),
  (112, o_ald 1 113),
  (113, o_ald 0 114),
  (114, o_ild 4 116),
  (116, o_ic 1 117),
  (117, o_iadd 118),
  (118, o_ld 0 119),
  (119, o_ald 0 120),
  (120, o_ild 4 122),
  (122, o_ic 2 123),
  (123, o_iadd 124),
  (124, o_ld 0 125),
  (125, o_ald 0 126),
  (126, o_ild 4 128),
  (128, o_ic 3 129),
  (129, o_iadd 130),
  (130, o_ld 0 131),
  (131, o_ald 0 132),
  (132, o_ild 4 134),
  (134, o_ic 4 135),
  (135, o_iadd 136),
  (136, o_ld 0 137),
  (137, o_ald 0 138),
  (138, o_ild 4 140),
  (140, o_ic 5 141),
  (141, o_iadd 142),
  (142, o_ld 0 143),
  (143, o_ald 3 144),
  (144, o_callS X.l X.D X.P 7 7 y_Lw_feed 147),
  (147, o_ist 5 149),
  (149, o_ald 2 150),
  (150, o_ald 0 151),
  (151, o_ild 4 153),
  (153, o_ic 1 154),
  (154, o_iadd 155),
  (155, o_ld 0 156),
  (156, o_ald 0 157),
  (157, o_ild 4 159),
  (159, o_ic 2 160),
  (160, o_iadd 161),
  (161, o_ld 0 162),
  (162, o_ald 0 163),
  (163, o_ild 4 165),
  (165, o_ic 3 166),
  (166, o_iadd 167),
  (167, o_ld 0 168),
  (168, o_ald 0 169),
  (169, o_ild 4 171),
  (171, o_ic 4 172),
  (172, o_iadd 173),
  (173, o_ld 0 174),
  (174, o_ald 0 175),
  (175, o_ild 4 177),
  (177, o_ic 5 178),
  (178, o_iadd 179),
  (179, o_ld 0 180),
  (180, o_callV X.l X.D X.P 13 1 6 y_Mo_feed 183),
  (183, o_ist 6 185),
  (185, o_ald 2 186),
  (186, o_callV X.l X.D X.P 13 0 1 y_Mo_thrown 189),
  (189, o_ild 5 191),
  (191, o_iceq 196 194),
  (194, o_ic 0 195),
  (195, o_zret .boolean X.P),
  (196, o_ild 5 198),
  (198, o_ifne 213 201),
  (201, o_ald 3 202),
  (202, o_ic 0 203),
  (203, o_ld 2 204),
  (204, o_ild 6 206),
  (206, o_i2l 207),
  (207, o_lcmp 208),
  (208, o_ifeq 213 211),
  (211, o_ic 0 212),
  (212, o_zret .boolean X.P),
  (213, o_goto 900),
  (216, o_ald 1 217),
  (217, o_ald 0 218),
  (218, o_ild 4 220),
  (220, o_ic 1 221),
  (221, o_iadd 222),
  (222, o_ld 0 223),
  (223, o_ald 3 224),
  (224, o_callS X.l X.D X.P 7 3 y_Lw_end 227),
  (227, o_ist 5 229),
  (229, o_ald 2 230),
  (230, o_ald 0 231),
  (231, o_ild 4 233),
  (233, o_ic 1 234),
  (234, o_iadd 235),
  (235, o_ld 0 236),
  (236, o_callV X.l X.D X.P 13 1 2 y_Mo_end 239),
  (239, o_ist 6 241),
  (241, o_ald 2 242),
  (242, o_callV X.l X.D X.P 13 0 1 y_Mo_thrown 245),
  (245, o_ild 5 247),
  (247, o_iceq 252 250),
  (250, o_ic 0 251),
  (251, o_zret .boolean X.P),
  (252, o_ild 5 254),
  (254, o_ifne 269 257),
  (257, o_ald 3 258),
  (258, o_ic 0 259),
  (259, o_ld 2 260),
  (260, o_ild 6 262),
  (262, o_i2l 263),
  (263, o_lcmp 264),
  (264, o_ifeq 269 267),
  (267, o_ic 0 268),
  (268, o_zret .boolean X.P),
  (269, o_goto 900),
  (272, o_ald 1 273),
  (273, o_ald 3 274),
  (274, o_callS X.l X.D X.P 13 2 y_Lw_source 277),
  (277, o_ist 5 279),
  (279, o_ald 2 280),
  (280, o_callV X.l X.D X.P 13 5 1 y_Mo_source 283),
  (283, o_ist 6 285),
  (285, o_ald 2 286),
  (286, o_callV X.l X.D X.P 13 0 1 y_Mo_thrown 289),
  (289, o_ild 5 291),
  (291, o_iceq 296 294),
  (294, o_ic 0 295),
  (295, o_zret .boolean X.P),
  (296, o_ild 5 298),
  (298, o_ifne 313 301),
  (301, o_ald 3 302),
  (302, o_ic 0 303),
  (303, o_ld 2 304),
  (304, o_ild 6 306),
  (306, o_i2l 307),
  (307, o_lcmp 308),
  (308, o_ifeq 313 311),
  (311, o_ic 0 312),
  (312, o_zret .boolean X.P),
  (313, o_goto 900),
  (316, o_ald 1 317),
  (317, o_ald 3 318),
  (318, o_callS X.l X.D X.P 13 2 y_Lw_style 321),
  (321, o_ist 5 323),
  (323, o_ald 2 324),
  (324, o_callV X.l X.D X.P 13 7 1 y_Mo_style 327),
  (327, o_ist 6 329),
  (329, o_ald 2 330),
  (330, o_callV X.l X.D X.P 13 0 1 y_Mo_thrown 333),
  (333, o_ild 5 335),
  (335, o_iceq 340 338),
  (338, o_ic 0 339),
  (339, o_zret .boolean X.P),
  (340, o_ild 5 342),
  (342, o_ifne 357 345),
  (345, o_ald 3 346),
  (346, o_ic 0 347),
  (347, o_ld 2 348),
  (348, o_ild 6 350),
  (350, o_i2l 351),
  (351, o_lcmp 352),
  (352, o_ifeq 357 355),
  (355, o_ic 0 356),
  (356, o_zret .boolean X.P),
  (357, o_goto 900),
  (360, o_ald 1 361),
  (361, o_callV X.l X.D X.P 0 0 1 y_Sc_place 364),
  (364, o_ald 2 365),
  (365, o_callV X.l X.D X.P 13 0 1 y_Mo_place 368),
  (368, o_iceq 900 371),
  (371, o_ic 0 372),
  (372, o_zret .boolean X.P),
  (373, o_ald 1 374),
  (374, o_ald 0 375),
  (375, o_ild 4 377),
  (377, o_ic 1 378),
  (378, o_iadd 379),
  (379, o_ld 0 380),
  (380, o_ald 3 381),
  (381, o_callS X.l X.D X.P 10 3 y_Lw_property 384),
  (384, o_ist 5 386),
  (386, o_ald 2 387),
  (387, o_ald 0 388),
  (388, o_ild 4 390),
  (390, o_ic 1 391),
  (391, o_iadd 392),
  (392, o_ld 0 393),
  (393, o_callV X.l X.D X.P 13 6 2 y_Mo_property 396),
  (396, o_ist 6 398),
  (398, o_ald 2 399),
  (399, o_callV X.l X.D X.P 13 0 1 y_Mo_thrown 402),
  (402, o_ild 5 404),
  (404, o_iceq 409 407),
  (407, o_ic 0 408),
  (408, o_zret .boolean X.P),
  (409, o_ild 5 411),
  (411, o_ifne 426 414),
  (414, o_ald 3 415),
  (415, o_ic 0 416),
  (416, o_ld 2 417),
  (417, o_ild 6 419),
  (419, o_i2l 420),
  (420, o_lcmp 421),
  (421, o_ifeq 426 424),
  (424, o_ic 0 425),
  (425, o_zret .boolean X.P),
  (426, o_goto 900),
  (429, o_ald 1 430),
  (430, o_ald 0 431),
  (431, o_ild 4 433),
  (433, o_ic 1 434),
  (434, o_iadd 435),
  (435, o_ld 0 436),
  (436, o_ald 3 437),
  (437, o_callS X.l X.D X.P 10 3 y_Lw_by 440),
  (440, o_ist 5 442),
  (442, o_ald 2 443),
  (443, o_ald 0 444),
  (444, o_ild 4 446),
  (446, o_ic 1 447),
  (447, o_iadd 448),
  (448, o_ld 0 449),
  (449, o_callV X.l X.D X.P 13 6 2 y_Mo_by 452),
  (452, o_ist 6 454),
  (454, o_ald 2 455),
  (455, o_callV X.l X.D X.P 13 0 1 y_Mo_thrown 458),
  (458, o_ild 5 460),
  (460, o_iceq 465 463),
  (463, o_ic 0 464),
  (464, o_zret .boolean X.P),
  (465, o_ild 5 467),
  (467, o_ifne 482 470),
  (470, o_ald 3 471),
  (471, o_ic 0 472),
  (472, o_ld 2 473),
  (473, o_ild 6 475),
  (475, o_i2l 476),
  (476, o_lcmp 477),
  (477, o_ifeq 482 480),
  (480, o_ic 0 481),
  (481, o_zret .boolean X.P),
  (482, o_goto 900),
  (485, o_ald 1 486),
  (486, o_ald 3 487),
  (487, o_callS X.l X.D X.P 12 2 y_Lw_select 490),
  (490, o_ist 5 492),
  (492, o_ald 2 493),
  (493, o_callV X.l X.D X.P 13 6 1 y_Mo_select 496),
  (496, o_ist 6 498),
  (498, o_ald 2 499),
  (499, o_callV X.l X.D X.P 13 0 1 y_Mo_thrown 502),
  (502, o_ild 5 504),
  (504, o_iceq 509 507),
  (507, o_ic 0 508),
  (508, o_zret .boolean X.P),
  (509, o_ild 5 511),
  (511, o_ifne 526 514),
  (514, o_ald 3 515),
  (515, o_ic 0 516),
  (516, o_ld 2 517),
  (517, o_ild 6 519),
  (519, o_i2l 520),
  (520, o_lcmp 521),
  (521, o_ifeq 526 524),
  (524, o_ic 0 525),
  (525, o_zret .boolean X.P),
  (526, o_goto 900),
  (529, o_ald 1 530),
  (530, o_ald 0 531),
  (531, o_ild 4 533),
  (533, o_ic 1 534),
  (534, o_iadd 535),
  (535, o_ld 0 536),
  (536, o_ald 3 537),
  (537, o_callS X.l X.D X.P 7 3 y_Lw_found 540),
  (540, o_ist 5 542),
  (542, o_ald 2 543),
  (543, o_ald 0 544),
  (544, o_ild 4 546),
  (546, o_ic 1 547),
  (547, o_iadd 548),
  (548, o_ld 0 549),
  (549, o_callV X.l X.D X.P 13 1 2 y_Mo_found 552),
  (552, o_ist 6 554),
  (554, o_ald 2 555),
  (555, o_callV X.l X.D X.P 13 0 1 y_Mo_thrown 558),
  (558, o_ild 5 560),
  (560, o_iceq 565 563),
  (563, o_ic 0 564),
  (564, o_zret .boolean X.P),
  (565, o_ild 5 567),
  (567, o_ifne 582 570),
  (570, o_ald 3 571),
  (571, o_ic 0 572),
  (572, o_ld 2 573),
  (573, o_ild 6 575),
  (575, o_i2l 576),
  (576, o_lcmp 577),
  (577, o_ifeq 582 580),
  (580, o_ic 0 581),
  (581, o_zret .boolean X.P),
  (582, o_goto 900),
  (585, o_ald 1 586),
  (586, o_ald 0 587),
  (587, o_ild 4 589),
  (589, o_ic 1 590),
  (590, o_iadd 591),
  (591, o_ld 0 592),
  (592, o_ald 0 593),
  (593, o_ild 4 595),
  (595, o_ic 2 596),
  (596, o_iadd 597),
  (597, o_ld 0 598),
  (598, o_ald 3 599),
  (599, o_callS X.l X.D X.P 8 4 y_Lw_fits 602),
  (602, o_ist 5 604),
  (604, o_ald 2 605),
  (605, o_ald 0 606),
  (606, o_ild 4 608),
  (608, o_ic 1 609),
  (609, o_iadd 610),
  (610, o_ld 0 611),
  (611, o_ald 0 612),
  (612, o_ild 4 614),
  (614, o_ic 2 615),
  (615, o_iadd 616),
  (616, o_ld 0 617),
  (617, o_callV X.l X.D X.P 13 5 3 y_Mo_fits 620),
  (620, o_ist 6 622),
  (622, o_ald 2 623),
  (623, o_callV X.l X.D X.P 13 0 1 y_Mo_thrown 626),
  (626, o_ild 5 628),
  (628, o_iceq 633 631),
  (631, o_ic 0 632),
  (632, o_zret .boolean X.P),
  (633, o_ild 5 635),
  (635, o_ifne 650 638),
  (638, o_ald 3 639),
  (639, o_ic 0 640),
  (640, o_ld 2 641),
  (641, o_ild 6 643),
  (643, o_i2l 644),
  (644, o_lcmp 645),
  (645, o_ifeq 650 648),
  (648, o_ic 0 649),
  (649, o_zret .boolean X.P),
  (650, o_goto 900),
  (653, o_ald 1 654),
  (654, o_ald 0 655),
  (655, o_ild 4 657),
  (657, o_ic 1 658),
  (658, o_iadd 659),
  (659, o_ld 0 660),
  (660, o_ald 0 661),
  (661, o_ild 4 663),
  (663, o_ic 2 664),
  (664, o_iadd 665),
  (665, o_ld 0 666),
  (666, o_ald 3 667),
  (667, o_callS X.l X.D X.P 8 4 y_Lw_element 670),
  (670, o_ist 5 672),
  (672, o_ald 2 673),
  (673, o_ald 0 674),
  (674, o_ild 4 676),
  (676, o_ic 1 677),
  (677, o_iadd 678),
  (678, o_ld 0 679),
  (679, o_ald 0 680),
  (680, o_ild 4 682),
  (682, o_ic 2 683),
  (683, o_iadd 684),
  (684, o_ld 0 685),
  (685, o_callV X.l X.D X.P 13 2 3 y_Mo_element 688),
  (688, o_ist 6 690),
  (690, o_ald 2 691),
  (691, o_callV X.l X.D X.P 13 0 1 y_Mo_thrown 694),
  (694, o_ild 5 696),
  (696, o_iceq 701 699),
  (699, o_ic 0 700),
  (700, o_zret .boolean X.P),
  (701, o_ild 5 703),
  (703, o_ifne 718 706),
  (706, o_ald 3 707),
  (707, o_ic 0 708),
  (708, o_ld 2 709),
  (709, o_ild 6 711),
  (711, o_i2l 712),
  (712, o_lcmp 713),
  (713, o_ifeq 718 716),
  (716, o_ic 0 717),
  (717, o_zret .boolean X.P),
  (718, o_goto 900),
  (721, o_ald 1 722),
  (722, o_ald 0 723),
  (723, o_ild 4 725),
  (725, o_ic 1 726),
  (726, o_iadd 727),
  (727, o_ld 0 728),
  (728, o_ald 0 729),
  (729, o_ild 4 731),
  (731, o_ic 2 732),
  (732, o_iadd 733),
  (733, o_ld 0 734),
  (734, o_ald 3 735),
  (735, o_callS X.l X.D X.P 8 4 y_Lw_tell 738),
  (738, o_ist 5 740),
  (740, o_ald 2 741),
  (741, o_ald 0 742),
  (742, o_ild 4 744),
  (744, o_ic 1 745),
  (745, o_iadd 746),
  (746, o_ld 0 747),
  (747, o_ald 0 748),
  (748, o_ild 4 750),
  (750, o_ic 2 751),
  (751, o_iadd 752),
  (752, o_ld 0 753),
  (753, o_callV X.l X.D X.P 13 2 3 y_Mo_tell 756),
  (756, o_ist 6 758),
  (758, o_ald 2 759),
  (759, o_callV X.l X.D X.P 13 0 1 y_Mo_thrown 762),
  (762, o_ild 5 764),
  (764, o_iceq 769 767),
  (767, o_ic 0 768),
  (768, o_zret .boolean X.P),
  (769, o_ild 5 771),
  (771, o_ifne 786 774),
  (774, o_ald 3 775),
  (775, o_ic 0 776),
  (776, o_ld 2 777),
  (777, o_ild 6 779),
  (779, o_i2l 780),
  (780, o_lcmp 781),
  (781, o_ifeq 786 784),
  (784, o_ic 0 785),
  (785, o_zret .boolean X.P),
  (786, o_goto 900),
  (789, o_ald 1 790),
  (790, o_ald 0 791),
  (791, o_ild 4 793),
  (793, o_ic 1 794),
  (794, o_iadd 795),
  (795, o_ld 0 796),
  (796, o_ald 3 797),
  (797, o_callS X.l X.D X.P 7 3 y_Lw_word 800),
  (800, o_ist 5 802),
  (802, o_ald 2 803),
  (803, o_ald 0 804),
  (804, o_ild 4 806),
  (806, o_ic 1 807),
  (807, o_iadd 808),
  (808, o_ld 0 809),
  (809, o_callV X.l X.D X.P 13 1 2 y_Mo_word 812),
  (812, o_lst 6 814),
  (814, o_ald 2 815),
  (815, o_callV X.l X.D X.P 13 0 1 y_Mo_thrown 818),
  (818, o_ild 5 820),
  (820, o_iceq 825 823),
  (823, o_ic 0 824),
  (824, o_zret .boolean X.P),
  (825, o_ild 5 827),
  (827, o_ifne 841 830),
  (830, o_ald 3 831),
  (831, o_ic 0 832),
  (832, o_ld 2 833),
  (833, o_lld 6 835),
  (835, o_lcmp 836),
  (836, o_ifeq 841 839),
  (839, o_ic 0 840),
  (840, o_zret .boolean X.P),
  (841, o_goto 900),
  (844, o_ald 1 845),
  (845, o_ald 0 846),
  (846, o_ild 4 848),
  (848, o_ic 1 849),
  (849, o_iadd 850),
  (850, o_ld 0 851),
  (851, o_ald 3 852),
  (852, o_callS X.l X.D X.P 7 3 y_Lw_count 855),
  (855, o_ist 5 857),
  (857, o_ald 2 858),
  (858, o_ald 0 859),
  (859, o_ild 4 861),
  (861, o_ic 1 862),
  (862, o_iadd 863),
  (863, o_ld 0 864),
  (864, o_callV X.l X.D X.P 13 1 2 y_Mo_count 867),
  (867, o_ist 6 869),
  (869, o_ald 2 870),
  (870, o_callV X.l X.D X.P 13 0 1 y_Mo_thrown 873),
  (873, o_ild 5 875),
  (875, o_iceq 880 878),
  (878, o_ic 0 879),
  (879, o_zret .boolean X.P),
  (880, o_ild 5 882),
  (882, o_ifne 897 885),
  (885, o_ald 3 886),
  (886, o_ic 0 887),
  (887, o_ld 2 888),
  (888, o_ild 6 890),
  (890, o_i2l 891),
  (891, o_lcmp 892),
  (892, o_ifeq 897 895),
  (895, o_ic 0 896),
  (896, o_zret .boolean X.P),
  (897, o_goto 900),
  (900, o_inc 4 6 903),
  (903, o_goto 23),
  (906, o_ic 1 907),
  (907, o_zret .boolean X.P)]
theorem tk_Lw_law {X : xX} (hC : xCx X code "StyleCourtLaw" 8 14) (hr : X.meth.sig.returnType = (some .boolean)) (hnh : X.c.exceptionTable.isEmpty = true) (hin : X.meth.name = "law") : xAll X (tb_Lw_law X) := by
  refine xA (ok_new hC (show decode code 0 = .ok (.new 8, 3) by decide +kernel) (by decide) (r0 := ("StyleCourt", xF0, 12)) rfl (by decide) w_100 w_101 w_69) ?_
  refine xA (ok_dup hC (show decode code 3 = .ok (.dup, 1) by decide +kernel)) ?_
  refine xA (ok_callI hC hnh (show decode code 4 = .ok (.invokespecial 59, 3) by decide +kernel) (by decide) (by decide) ⟨by decide, by decide, by decide +kernel⟩ rfl w_104 w_69 w_102 w_103) ?_
  refine xA (ok_astore_n hC (show decode code 7 = .ok (.astore_n 1, 1) by decide +kernel) rfl (by decide)) ?_
  refine xA (ok_new hC (show decode code 8 = .ok (.new 60, 3) by decide +kernel) (by decide) (r0 := ("StyleCourtModel", xF13, 85)) rfl (by decide) w_1138 w_1139 w_83) ?_
  refine xA (ok_dup hC (show decode code 11 = .ok (.dup, 1) by decide +kernel)) ?_
  refine xA (ok_callI hC hnh (show decode code 12 = .ok (.invokespecial 62, 3) by decide +kernel) (by decide) (by decide) ⟨by decide, by decide, by decide +kernel⟩ rfl w_1142 w_83 w_1140 w_1141) ?_
  refine xA (ok_astore_n hC (show decode code 15 = .ok (.astore_n 2, 1) by decide +kernel) rfl (by decide)) ?_
  refine xA (ok_iconst hC (show decode code 16 = .ok (.iconst 1, 1) by decide +kernel) (by decide)) ?_
  refine xA (ok_newa hC (show decode code 17 = .ok (.newarray .long, 2) by decide +kernel) (by decide) (ty := .long) rfl rfl rfl (by decide) w_1661 (fun _ z => by cases z)) ?_
  refine xA (ok_astore_n hC (show decode code 19 = .ok (.astore_n 3, 1) by decide +kernel) rfl (by decide)) ?_
  refine xA (ok_iconst hC (show decode code 20 = .ok (.iconst 0, 1) by decide +kernel) (by decide)) ?_
  refine xA (ok_istore hC (show decode code 21 = .ok (.istore 4, 2) by decide +kernel) (by decide)) ?_
  refine xA (ok_iload hC (show decode code 23 = .ok (.iload 4, 2) by decide +kernel)) ?_
  refine xA (ok_aload_n hC (show decode code 25 = .ok (.aload_n 0, 1) by decide +kernel) rfl) ?_
  refine xA (ok_len hC (show decode code 26 = .ok (.arraylength, 1) by decide +kernel)) ?_
  refine xA (ok_bipush hC (show decode code 27 = .ok (.bipush 6, 2) by decide +kernel) (by decide)) ?_
  refine xA (ok_isub hC (show decode code 29 = .ok (.isub, 1) by decide +kernel)) ?_
  refine xA (ok_icgt hC (show decode code 30 = .ok (.if_icmp .gt 876, 3) by decide +kernel) (by decide)) ?_
  refine xA (ok_aload_n hC (show decode code 33 = .ok (.aload_n 0, 1) by decide +kernel) rfl) ?_
  refine xA (ok_iload hC (show decode code 34 = .ok (.iload 4, 2) by decide +kernel)) ?_
  refine xA (ok_iald hC (show decode code 36 = .ok (.iaload, 1) by decide +kernel) (by decide) rfl) ?_
  refine xA (ok_bipush hC (show decode code 37 = .ok (.bipush 15, 2) by decide +kernel) (by decide)) ?_
  refine xA (ok_iand hC (show decode code 39 = .ok (.iand, 1) by decide +kernel)) ?_
  refine xA (ok_table hC [(0, 112), (1, 216), (2, 272), (3, 316), (4, 360), (5, 373), (6, 429), (7, 485), (8, 529), (9, 585), (10, 653), (11, 721), (12, 789), (13, 844)] (show decode code 40 = .ok (.tableswitch 860 0 13 #[72, 176, 232, 276, 320, 333, 389, 445, 489, 545, 613, 681, 749, 804], 72) by decide +kernel) (by decide) (by decide) (by decide)) ?_
  refine xA (ok_aload_n hC (show decode code 112 = .ok (.aload_n 1, 1) by decide +kernel) rfl) ?_
  refine xA (ok_aload_n hC (show decode code 113 = .ok (.aload_n 0, 1) by decide +kernel) rfl) ?_
  refine xA (ok_iload hC (show decode code 114 = .ok (.iload 4, 2) by decide +kernel)) ?_
  refine xA (ok_iconst hC (show decode code 116 = .ok (.iconst 1, 1) by decide +kernel) (by decide)) ?_
  refine xA (ok_iadd hC (show decode code 117 = .ok (.iadd, 1) by decide +kernel)) ?_
  refine xA (ok_iald hC (show decode code 118 = .ok (.iaload, 1) by decide +kernel) (by decide) rfl) ?_
  refine xA (ok_aload_n hC (show decode code 119 = .ok (.aload_n 0, 1) by decide +kernel) rfl) ?_
  refine xA (ok_iload hC (show decode code 120 = .ok (.iload 4, 2) by decide +kernel)) ?_
  refine xA (ok_iconst hC (show decode code 122 = .ok (.iconst 2, 1) by decide +kernel) (by decide)) ?_
  refine xA (ok_iadd hC (show decode code 123 = .ok (.iadd, 1) by decide +kernel)) ?_
  refine xA (ok_iald hC (show decode code 124 = .ok (.iaload, 1) by decide +kernel) (by decide) rfl) ?_
  refine xA (ok_aload_n hC (show decode code 125 = .ok (.aload_n 0, 1) by decide +kernel) rfl) ?_
  refine xA (ok_iload hC (show decode code 126 = .ok (.iload 4, 2) by decide +kernel)) ?_
  refine xA (ok_iconst hC (show decode code 128 = .ok (.iconst 3, 1) by decide +kernel) (by decide)) ?_
  refine xA (ok_iadd hC (show decode code 129 = .ok (.iadd, 1) by decide +kernel)) ?_
  refine xA (ok_iald hC (show decode code 130 = .ok (.iaload, 1) by decide +kernel) (by decide) rfl) ?_
  refine xA (ok_aload_n hC (show decode code 131 = .ok (.aload_n 0, 1) by decide +kernel) rfl) ?_
  refine xA (ok_iload hC (show decode code 132 = .ok (.iload 4, 2) by decide +kernel)) ?_
  refine xA (ok_iconst hC (show decode code 134 = .ok (.iconst 4, 1) by decide +kernel) (by decide)) ?_
  refine xA (ok_iadd hC (show decode code 135 = .ok (.iadd, 1) by decide +kernel)) ?_
  refine xA (ok_iald hC (show decode code 136 = .ok (.iaload, 1) by decide +kernel) (by decide) rfl) ?_
  refine xA (ok_aload_n hC (show decode code 137 = .ok (.aload_n 0, 1) by decide +kernel) rfl) ?_
  refine xA (ok_iload hC (show decode code 138 = .ok (.iload 4, 2) by decide +kernel)) ?_
  refine xA (ok_iconst hC (show decode code 140 = .ok (.iconst 5, 1) by decide +kernel) (by decide)) ?_
  refine xA (ok_iadd hC (show decode code 141 = .ok (.iadd, 1) by decide +kernel)) ?_
  refine xA (ok_iald hC (show decode code 142 = .ok (.iaload, 1) by decide +kernel) (by decide) rfl) ?_
  refine xA (ok_aload_n hC (show decode code 143 = .ok (.aload_n 3, 1) by decide +kernel) rfl) ?_
  refine xA (ok_callS hC hnh (show decode code 144 = .ok (.invokestatic 63, 3) by decide +kernel) (by decide) (by decide) ⟨by decide, by decide, by decide +kernel⟩ (Or.inr w_458) w_68 w_456 w_457) ?_
  refine xA (ok_istore hC (show decode code 147 = .ok (.istore 5, 2) by decide +kernel) (by decide)) ?_
  refine xA (ok_aload_n hC (show decode code 149 = .ok (.aload_n 2, 1) by decide +kernel) rfl) ?_
  refine xA (ok_aload_n hC (show decode code 150 = .ok (.aload_n 0, 1) by decide +kernel) rfl) ?_
  refine xA (ok_iload hC (show decode code 151 = .ok (.iload 4, 2) by decide +kernel)) ?_
  refine xA (ok_iconst hC (show decode code 153 = .ok (.iconst 1, 1) by decide +kernel) (by decide)) ?_
  refine xA (ok_iadd hC (show decode code 154 = .ok (.iadd, 1) by decide +kernel)) ?_
  refine xA (ok_iald hC (show decode code 155 = .ok (.iaload, 1) by decide +kernel) (by decide) rfl) ?_
  refine xA (ok_aload_n hC (show decode code 156 = .ok (.aload_n 0, 1) by decide +kernel) rfl) ?_
  refine xA (ok_iload hC (show decode code 157 = .ok (.iload 4, 2) by decide +kernel)) ?_
  refine xA (ok_iconst hC (show decode code 159 = .ok (.iconst 2, 1) by decide +kernel) (by decide)) ?_
  refine xA (ok_iadd hC (show decode code 160 = .ok (.iadd, 1) by decide +kernel)) ?_
  refine xA (ok_iald hC (show decode code 161 = .ok (.iaload, 1) by decide +kernel) (by decide) rfl) ?_
  refine xA (ok_aload_n hC (show decode code 162 = .ok (.aload_n 0, 1) by decide +kernel) rfl) ?_
  refine xA (ok_iload hC (show decode code 163 = .ok (.iload 4, 2) by decide +kernel)) ?_
  refine xA (ok_iconst hC (show decode code 165 = .ok (.iconst 3, 1) by decide +kernel) (by decide)) ?_
  refine xA (ok_iadd hC (show decode code 166 = .ok (.iadd, 1) by decide +kernel)) ?_
  refine xA (ok_iald hC (show decode code 167 = .ok (.iaload, 1) by decide +kernel) (by decide) rfl) ?_
  refine xA (ok_aload_n hC (show decode code 168 = .ok (.aload_n 0, 1) by decide +kernel) rfl) ?_
  refine xA (ok_iload hC (show decode code 169 = .ok (.iload 4, 2) by decide +kernel)) ?_
  refine xA (ok_iconst hC (show decode code 171 = .ok (.iconst 4, 1) by decide +kernel) (by decide)) ?_
  refine xA (ok_iadd hC (show decode code 172 = .ok (.iadd, 1) by decide +kernel)) ?_
  refine xA (ok_iald hC (show decode code 173 = .ok (.iaload, 1) by decide +kernel) (by decide) rfl) ?_
  refine xA (ok_aload_n hC (show decode code 174 = .ok (.aload_n 0, 1) by decide +kernel) rfl) ?_
  refine xA (ok_iload hC (show decode code 175 = .ok (.iload 4, 2) by decide +kernel)) ?_
  refine xA (ok_iconst hC (show decode code 177 = .ok (.iconst 5, 1) by decide +kernel) (by decide)) ?_
  refine xA (ok_iadd hC (show decode code 178 = .ok (.iadd, 1) by decide +kernel)) ?_
  refine xA (ok_iald hC (show decode code 179 = .ok (.iaload, 1) by decide +kernel) (by decide) rfl) ?_
  refine xA (ok_callV hC hnh (show decode code 180 = .ok (.invokevirtual 68, 3) by decide +kernel) (by decide) (by decide) (by decide) (r0 := ("StyleCourtModel", xF13, 85)) rfl ⟨by decide, by decide, by decide +kernel⟩ w_1409 w_83 w_1406 w_1407 w_1408) ?_
  refine xA (ok_istore hC (show decode code 183 = .ok (.istore 6, 2) by decide +kernel) (by decide)) ?_
  refine xA (ok_aload_n hC (show decode code 185 = .ok (.aload_n 2, 1) by decide +kernel) rfl) ?_
  refine xA (ok_callV hC hnh (show decode code 186 = .ok (.invokevirtual 69, 3) by decide +kernel) (by decide) (by decide) (by decide) (r0 := ("StyleCourtModel", xF13, 85)) rfl ⟨by decide, by decide, by decide +kernel⟩ w_1405 w_83 w_1402 w_1403 w_1404) ?_
  refine xA (ok_iload hC (show decode code 189 = .ok (.iload 5, 2) by decide +kernel)) ?_
  refine xA (ok_iceq hC (show decode code 191 = .ok (.if_icmp .eq 5, 3) by decide +kernel) (by decide)) ?_
  refine xA (ok_iconst hC (show decode code 194 = .ok (.iconst 0, 1) by decide +kernel) (by decide)) ?_
  refine xA (ok_zret hC hr (show decode code 195 = .ok (.ireturn, 1) by decide +kernel)) ?_
  refine xA (ok_iload hC (show decode code 196 = .ok (.iload 5, 2) by decide +kernel)) ?_
  refine xA (ok_ifne hC (show decode code 198 = .ok (.ifCond .ne 15, 3) by decide +kernel) (by decide)) ?_
  refine xA (ok_aload_n hC (show decode code 201 = .ok (.aload_n 3, 1) by decide +kernel) rfl) ?_
  refine xA (ok_iconst hC (show decode code 202 = .ok (.iconst 0, 1) by decide +kernel) (by decide)) ?_
  refine xA (ok_lald hC (show decode code 203 = .ok (.laload, 1) by decide +kernel) (by decide) rfl) ?_
  refine xA (ok_iload hC (show decode code 204 = .ok (.iload 6, 2) by decide +kernel)) ?_
  refine xA (ok_i2l hC (show decode code 206 = .ok (.i2l, 1) by decide +kernel)) ?_
  refine xA (ok_lcmp hC (show decode code 207 = .ok (.lcmp, 1) by decide +kernel)) ?_
  refine xA (ok_ifeq hC (show decode code 208 = .ok (.ifCond .eq 5, 3) by decide +kernel) (by decide)) ?_
  refine xA (ok_iconst hC (show decode code 211 = .ok (.iconst 0, 1) by decide +kernel) (by decide)) ?_
  refine xA (ok_zret hC hr (show decode code 212 = .ok (.ireturn, 1) by decide +kernel)) ?_
  refine xA (ok_goto hC (show decode code 213 = .ok (.goto 687, 3) by decide +kernel) (by decide)) ?_
  refine xA (ok_aload_n hC (show decode code 216 = .ok (.aload_n 1, 1) by decide +kernel) rfl) ?_
  refine xA (ok_aload_n hC (show decode code 217 = .ok (.aload_n 0, 1) by decide +kernel) rfl) ?_
  refine xA (ok_iload hC (show decode code 218 = .ok (.iload 4, 2) by decide +kernel)) ?_
  refine xA (ok_iconst hC (show decode code 220 = .ok (.iconst 1, 1) by decide +kernel) (by decide)) ?_
  refine xA (ok_iadd hC (show decode code 221 = .ok (.iadd, 1) by decide +kernel)) ?_
  refine xA (ok_iald hC (show decode code 222 = .ok (.iaload, 1) by decide +kernel) (by decide) rfl) ?_
  refine xA (ok_aload_n hC (show decode code 223 = .ok (.aload_n 3, 1) by decide +kernel) rfl) ?_
  refine xA (ok_callS hC hnh (show decode code 224 = .ok (.invokestatic 72, 3) by decide +kernel) (by decide) (by decide) ⟨by decide, by decide, by decide +kernel⟩ (Or.inr w_537) w_68 w_535 w_536) ?_
  refine xA (ok_istore hC (show decode code 227 = .ok (.istore 5, 2) by decide +kernel) (by decide)) ?_
  refine xA (ok_aload_n hC (show decode code 229 = .ok (.aload_n 2, 1) by decide +kernel) rfl) ?_
  refine xA (ok_aload_n hC (show decode code 230 = .ok (.aload_n 0, 1) by decide +kernel) rfl) ?_
  refine xA (ok_iload hC (show decode code 231 = .ok (.iload 4, 2) by decide +kernel)) ?_
  refine xA (ok_iconst hC (show decode code 233 = .ok (.iconst 1, 1) by decide +kernel) (by decide)) ?_
  refine xA (ok_iadd hC (show decode code 234 = .ok (.iadd, 1) by decide +kernel)) ?_
  refine xA (ok_iald hC (show decode code 235 = .ok (.iaload, 1) by decide +kernel) (by decide) rfl) ?_
  refine xA (ok_callV hC hnh (show decode code 236 = .ok (.invokevirtual 75, 3) by decide +kernel) (by decide) (by decide) (by decide) (r0 := ("StyleCourtModel", xF13, 85)) rfl ⟨by decide, by decide, by decide +kernel⟩ w_1421 w_83 w_1418 w_1419 w_1420) ?_
  refine xA (ok_istore hC (show decode code 239 = .ok (.istore 6, 2) by decide +kernel) (by decide)) ?_
  refine xA (ok_aload_n hC (show decode code 241 = .ok (.aload_n 2, 1) by decide +kernel) rfl) ?_
  refine xA (ok_callV hC hnh (show decode code 242 = .ok (.invokevirtual 69, 3) by decide +kernel) (by decide) (by decide) (by decide) (r0 := ("StyleCourtModel", xF13, 85)) rfl ⟨by decide, by decide, by decide +kernel⟩ w_1405 w_83 w_1402 w_1403 w_1404) ?_
  refine xA (ok_iload hC (show decode code 245 = .ok (.iload 5, 2) by decide +kernel)) ?_
  refine xA (ok_iceq hC (show decode code 247 = .ok (.if_icmp .eq 5, 3) by decide +kernel) (by decide)) ?_
  refine xA (ok_iconst hC (show decode code 250 = .ok (.iconst 0, 1) by decide +kernel) (by decide)) ?_
  refine xA (ok_zret hC hr (show decode code 251 = .ok (.ireturn, 1) by decide +kernel)) ?_
  refine xA (ok_iload hC (show decode code 252 = .ok (.iload 5, 2) by decide +kernel)) ?_
  refine xA (ok_ifne hC (show decode code 254 = .ok (.ifCond .ne 15, 3) by decide +kernel) (by decide)) ?_
  refine xA (ok_aload_n hC (show decode code 257 = .ok (.aload_n 3, 1) by decide +kernel) rfl) ?_
  refine xA (ok_iconst hC (show decode code 258 = .ok (.iconst 0, 1) by decide +kernel) (by decide)) ?_
  refine xA (ok_lald hC (show decode code 259 = .ok (.laload, 1) by decide +kernel) (by decide) rfl) ?_
  refine xA (ok_iload hC (show decode code 260 = .ok (.iload 6, 2) by decide +kernel)) ?_
  refine xA (ok_i2l hC (show decode code 262 = .ok (.i2l, 1) by decide +kernel)) ?_
  refine xA (ok_lcmp hC (show decode code 263 = .ok (.lcmp, 1) by decide +kernel)) ?_
  refine xA (ok_ifeq hC (show decode code 264 = .ok (.ifCond .eq 5, 3) by decide +kernel) (by decide)) ?_
  refine xA (ok_iconst hC (show decode code 267 = .ok (.iconst 0, 1) by decide +kernel) (by decide)) ?_
  refine xA (ok_zret hC hr (show decode code 268 = .ok (.ireturn, 1) by decide +kernel)) ?_
  refine xA (ok_goto hC (show decode code 269 = .ok (.goto 631, 3) by decide +kernel) (by decide)) ?_
  refine xA (ok_aload_n hC (show decode code 272 = .ok (.aload_n 1, 1) by decide +kernel) rfl) ?_
  refine xA (ok_aload_n hC (show decode code 273 = .ok (.aload_n 3, 1) by decide +kernel) rfl) ?_
  refine xA (ok_callS hC hnh (show decode code 274 = .ok (.invokestatic 76, 3) by decide +kernel) (by decide) (by decide) ⟨by decide, by decide, by decide +kernel⟩ (Or.inr w_561) w_68 w_559 w_560) ?_
  refine xA (ok_istore hC (show decode code 277 = .ok (.istore 5, 2) by decide +kernel) (by decide)) ?_
  refine xA (ok_aload_n hC (show decode code 279 = .ok (.aload_n 2, 1) by decide +kernel) rfl) ?_
  refine xA (ok_callV hC hnh (show decode code 280 = .ok (.invokevirtual 79, 3) by decide +kernel) (by decide) (by decide) (by decide) (r0 := ("StyleCourtModel", xF13, 85)) rfl ⟨by decide, by decide, by decide +kernel⟩ w_1428 w_83 w_1425 w_1426 w_1427) ?_
  refine xA (ok_istore hC (show decode code 283 = .ok (.istore 6, 2) by decide +kernel) (by decide)) ?_
  refine xA (ok_aload_n hC (show decode code 285 = .ok (.aload_n 2, 1) by decide +kernel) rfl) ?_
  refine xA (ok_callV hC hnh (show decode code 286 = .ok (.invokevirtual 69, 3) by decide +kernel) (by decide) (by decide) (by decide) (r0 := ("StyleCourtModel", xF13, 85)) rfl ⟨by decide, by decide, by decide +kernel⟩ w_1405 w_83 w_1402 w_1403 w_1404) ?_
  refine xA (ok_iload hC (show decode code 289 = .ok (.iload 5, 2) by decide +kernel)) ?_
  refine xA (ok_iceq hC (show decode code 291 = .ok (.if_icmp .eq 5, 3) by decide +kernel) (by decide)) ?_
  refine xA (ok_iconst hC (show decode code 294 = .ok (.iconst 0, 1) by decide +kernel) (by decide)) ?_
  refine xA (ok_zret hC hr (show decode code 295 = .ok (.ireturn, 1) by decide +kernel)) ?_
  refine xA (ok_iload hC (show decode code 296 = .ok (.iload 5, 2) by decide +kernel)) ?_
  refine xA (ok_ifne hC (show decode code 298 = .ok (.ifCond .ne 15, 3) by decide +kernel) (by decide)) ?_
  refine xA (ok_aload_n hC (show decode code 301 = .ok (.aload_n 3, 1) by decide +kernel) rfl) ?_
  refine xA (ok_iconst hC (show decode code 302 = .ok (.iconst 0, 1) by decide +kernel) (by decide)) ?_
  refine xA (ok_lald hC (show decode code 303 = .ok (.laload, 1) by decide +kernel) (by decide) rfl) ?_
  refine xA (ok_iload hC (show decode code 304 = .ok (.iload 6, 2) by decide +kernel)) ?_
  refine xA (ok_i2l hC (show decode code 306 = .ok (.i2l, 1) by decide +kernel)) ?_
  refine xA (ok_lcmp hC (show decode code 307 = .ok (.lcmp, 1) by decide +kernel)) ?_
  refine xA (ok_ifeq hC (show decode code 308 = .ok (.ifCond .eq 5, 3) by decide +kernel) (by decide)) ?_
  refine xA (ok_iconst hC (show decode code 311 = .ok (.iconst 0, 1) by decide +kernel) (by decide)) ?_
  refine xA (ok_zret hC hr (show decode code 312 = .ok (.ireturn, 1) by decide +kernel)) ?_
  refine xA (ok_goto hC (show decode code 313 = .ok (.goto 587, 3) by decide +kernel) (by decide)) ?_
  refine xA (ok_aload_n hC (show decode code 316 = .ok (.aload_n 1, 1) by decide +kernel) rfl) ?_
  refine xA (ok_aload_n hC (show decode code 317 = .ok (.aload_n 3, 1) by decide +kernel) rfl) ?_
  refine xA (ok_callS hC hnh (show decode code 318 = .ok (.invokestatic 80, 3) by decide +kernel) (by decide) (by decide) ⟨by decide, by decide, by decide +kernel⟩ (Or.inr w_721) w_68 w_719 w_720) ?_
  refine xA (ok_istore hC (show decode code 321 = .ok (.istore 5, 2) by decide +kernel) (by decide)) ?_
  refine xA (ok_aload_n hC (show decode code 323 = .ok (.aload_n 2, 1) by decide +kernel) rfl) ?_
  refine xA (ok_callV hC hnh (show decode code 324 = .ok (.invokevirtual 82, 3) by decide +kernel) (by decide) (by decide) (by decide) (r0 := ("StyleCourtModel", xF13, 85)) rfl ⟨by decide, by decide, by decide +kernel⟩ w_1519 w_83 w_1516 w_1517 w_1518) ?_
  refine xA (ok_istore hC (show decode code 327 = .ok (.istore 6, 2) by decide +kernel) (by decide)) ?_
  refine xA (ok_aload_n hC (show decode code 329 = .ok (.aload_n 2, 1) by decide +kernel) rfl) ?_
  refine xA (ok_callV hC hnh (show decode code 330 = .ok (.invokevirtual 69, 3) by decide +kernel) (by decide) (by decide) (by decide) (r0 := ("StyleCourtModel", xF13, 85)) rfl ⟨by decide, by decide, by decide +kernel⟩ w_1405 w_83 w_1402 w_1403 w_1404) ?_
  refine xA (ok_iload hC (show decode code 333 = .ok (.iload 5, 2) by decide +kernel)) ?_
  refine xA (ok_iceq hC (show decode code 335 = .ok (.if_icmp .eq 5, 3) by decide +kernel) (by decide)) ?_
  refine xA (ok_iconst hC (show decode code 338 = .ok (.iconst 0, 1) by decide +kernel) (by decide)) ?_
  refine xA (ok_zret hC hr (show decode code 339 = .ok (.ireturn, 1) by decide +kernel)) ?_
  refine xA (ok_iload hC (show decode code 340 = .ok (.iload 5, 2) by decide +kernel)) ?_
  refine xA (ok_ifne hC (show decode code 342 = .ok (.ifCond .ne 15, 3) by decide +kernel) (by decide)) ?_
  refine xA (ok_aload_n hC (show decode code 345 = .ok (.aload_n 3, 1) by decide +kernel) rfl) ?_
  refine xA (ok_iconst hC (show decode code 346 = .ok (.iconst 0, 1) by decide +kernel) (by decide)) ?_
  refine xA (ok_lald hC (show decode code 347 = .ok (.laload, 1) by decide +kernel) (by decide) rfl) ?_
  refine xA (ok_iload hC (show decode code 348 = .ok (.iload 6, 2) by decide +kernel)) ?_
  refine xA (ok_i2l hC (show decode code 350 = .ok (.i2l, 1) by decide +kernel)) ?_
  refine xA (ok_lcmp hC (show decode code 351 = .ok (.lcmp, 1) by decide +kernel)) ?_
  refine xA (ok_ifeq hC (show decode code 352 = .ok (.ifCond .eq 5, 3) by decide +kernel) (by decide)) ?_
  refine xA (ok_iconst hC (show decode code 355 = .ok (.iconst 0, 1) by decide +kernel) (by decide)) ?_
  refine xA (ok_zret hC hr (show decode code 356 = .ok (.ireturn, 1) by decide +kernel)) ?_
  refine xA (ok_goto hC (show decode code 357 = .ok (.goto 543, 3) by decide +kernel) (by decide)) ?_
  refine xA (ok_aload_n hC (show decode code 360 = .ok (.aload_n 1, 1) by decide +kernel) rfl) ?_
  refine xA (ok_callV hC hnh (show decode code 361 = .ok (.invokevirtual 83, 3) by decide +kernel) (by decide) (by decide) (by decide) (r0 := ("StyleCourt", xF0, 12)) rfl ⟨by decide, by decide, by decide +kernel⟩ w_455 w_69 w_452 w_453 w_454) ?_
  refine xA (ok_aload_n hC (show decode code 364 = .ok (.aload_n 2, 1) by decide +kernel) rfl) ?_
  refine xA (ok_callV hC hnh (show decode code 365 = .ok (.invokevirtual 86, 3) by decide +kernel) (by decide) (by decide) (by decide) (r0 := ("StyleCourtModel", xF13, 85)) rfl ⟨by decide, by decide, by decide +kernel⟩ w_1576 w_83 w_1573 w_1574 w_1575) ?_
  refine xA (ok_iceq hC (show decode code 368 = .ok (.if_icmp .eq 532, 3) by decide +kernel) (by decide)) ?_
  refine xA (ok_iconst hC (show decode code 371 = .ok (.iconst 0, 1) by decide +kernel) (by decide)) ?_
  refine xA (ok_zret hC hr (show decode code 372 = .ok (.ireturn, 1) by decide +kernel)) ?_
  refine xA (ok_aload_n hC (show decode code 373 = .ok (.aload_n 1, 1) by decide +kernel) rfl) ?_
  refine xA (ok_aload_n hC (show decode code 374 = .ok (.aload_n 0, 1) by decide +kernel) rfl) ?_
  refine xA (ok_iload hC (show decode code 375 = .ok (.iload 4, 2) by decide +kernel)) ?_
  refine xA (ok_iconst hC (show decode code 377 = .ok (.iconst 1, 1) by decide +kernel) (by decide)) ?_
  refine xA (ok_iadd hC (show decode code 378 = .ok (.iadd, 1) by decide +kernel)) ?_
  refine xA (ok_iald hC (show decode code 379 = .ok (.iaload, 1) by decide +kernel) (by decide) rfl) ?_
  refine xA (ok_aload_n hC (show decode code 380 = .ok (.aload_n 3, 1) by decide +kernel) rfl) ?_
  refine xA (ok_callS hC hnh (show decode code 381 = .ok (.invokestatic 87, 3) by decide +kernel) (by decide) (by decide) ⟨by decide, by decide, by decide +kernel⟩ (Or.inr w_968) w_68 w_966 w_967) ?_
  refine xA (ok_istore hC (show decode code 384 = .ok (.istore 5, 2) by decide +kernel) (by decide)) ?_
  refine xA (ok_aload_n hC (show decode code 386 = .ok (.aload_n 2, 1) by decide +kernel) rfl) ?_
  refine xA (ok_aload_n hC (show decode code 387 = .ok (.aload_n 0, 1) by decide +kernel) rfl) ?_
  refine xA (ok_iload hC (show decode code 388 = .ok (.iload 4, 2) by decide +kernel)) ?_
  refine xA (ok_iconst hC (show decode code 390 = .ok (.iconst 1, 1) by decide +kernel) (by decide)) ?_
  refine xA (ok_iadd hC (show decode code 391 = .ok (.iadd, 1) by decide +kernel)) ?_
  refine xA (ok_iald hC (show decode code 392 = .ok (.iaload, 1) by decide +kernel) (by decide) rfl) ?_
  refine xA (ok_callV hC hnh (show decode code 393 = .ok (.invokevirtual 89, 3) by decide +kernel) (by decide) (by decide) (by decide) (r0 := ("StyleCourtModel", xF13, 85)) rfl ⟨by decide, by decide, by decide +kernel⟩ w_1617 w_83 w_1614 w_1615 w_1616) ?_
  refine xA (ok_istore hC (show decode code 396 = .ok (.istore 6, 2) by decide +kernel) (by decide)) ?_
  refine xA (ok_aload_n hC (show decode code 398 = .ok (.aload_n 2, 1) by decide +kernel) rfl) ?_
  refine xA (ok_callV hC hnh (show decode code 399 = .ok (.invokevirtual 69, 3) by decide +kernel) (by decide) (by decide) (by decide) (r0 := ("StyleCourtModel", xF13, 85)) rfl ⟨by decide, by decide, by decide +kernel⟩ w_1405 w_83 w_1402 w_1403 w_1404) ?_
  refine xA (ok_iload hC (show decode code 402 = .ok (.iload 5, 2) by decide +kernel)) ?_
  refine xA (ok_iceq hC (show decode code 404 = .ok (.if_icmp .eq 5, 3) by decide +kernel) (by decide)) ?_
  refine xA (ok_iconst hC (show decode code 407 = .ok (.iconst 0, 1) by decide +kernel) (by decide)) ?_
  refine xA (ok_zret hC hr (show decode code 408 = .ok (.ireturn, 1) by decide +kernel)) ?_
  refine xA (ok_iload hC (show decode code 409 = .ok (.iload 5, 2) by decide +kernel)) ?_
  refine xA (ok_ifne hC (show decode code 411 = .ok (.ifCond .ne 15, 3) by decide +kernel) (by decide)) ?_
  refine xA (ok_aload_n hC (show decode code 414 = .ok (.aload_n 3, 1) by decide +kernel) rfl) ?_
  refine xA (ok_iconst hC (show decode code 415 = .ok (.iconst 0, 1) by decide +kernel) (by decide)) ?_
  refine xA (ok_lald hC (show decode code 416 = .ok (.laload, 1) by decide +kernel) (by decide) rfl) ?_
  refine xA (ok_iload hC (show decode code 417 = .ok (.iload 6, 2) by decide +kernel)) ?_
  refine xA (ok_i2l hC (show decode code 419 = .ok (.i2l, 1) by decide +kernel)) ?_
  refine xA (ok_lcmp hC (show decode code 420 = .ok (.lcmp, 1) by decide +kernel)) ?_
  refine xA (ok_ifeq hC (show decode code 421 = .ok (.ifCond .eq 5, 3) by decide +kernel) (by decide)) ?_
  refine xA (ok_iconst hC (show decode code 424 = .ok (.iconst 0, 1) by decide +kernel) (by decide)) ?_
  refine xA (ok_zret hC hr (show decode code 425 = .ok (.ireturn, 1) by decide +kernel)) ?_
  refine xA (ok_goto hC (show decode code 426 = .ok (.goto 474, 3) by decide +kernel) (by decide)) ?_
  refine xA (ok_aload_n hC (show decode code 429 = .ok (.aload_n 1, 1) by decide +kernel) rfl) ?_
  refine xA (ok_aload_n hC (show decode code 430 = .ok (.aload_n 0, 1) by decide +kernel) rfl) ?_
  refine xA (ok_iload hC (show decode code 431 = .ok (.iload 4, 2) by decide +kernel)) ?_
  refine xA (ok_iconst hC (show decode code 433 = .ok (.iconst 1, 1) by decide +kernel) (by decide)) ?_
  refine xA (ok_iadd hC (show decode code 434 = .ok (.iadd, 1) by decide +kernel)) ?_
  refine xA (ok_iald hC (show decode code 435 = .ok (.iaload, 1) by decide +kernel) (by decide) rfl) ?_
  refine xA (ok_aload_n hC (show decode code 436 = .ok (.aload_n 3, 1) by decide +kernel) rfl) ?_
  refine xA (ok_callS hC hnh (show decode code 437 = .ok (.invokestatic 90, 3) by decide +kernel) (by decide) (by decide) ⟨by decide, by decide, by decide +kernel⟩ (Or.inr w_1067) w_68 w_1065 w_1066) ?_
  refine xA (ok_istore hC (show decode code 440 = .ok (.istore 5, 2) by decide +kernel) (by decide)) ?_
  refine xA (ok_aload_n hC (show decode code 442 = .ok (.aload_n 2, 1) by decide +kernel) rfl) ?_
  refine xA (ok_aload_n hC (show decode code 443 = .ok (.aload_n 0, 1) by decide +kernel) rfl) ?_
  refine xA (ok_iload hC (show decode code 444 = .ok (.iload 4, 2) by decide +kernel)) ?_
  refine xA (ok_iconst hC (show decode code 446 = .ok (.iconst 1, 1) by decide +kernel) (by decide)) ?_
  refine xA (ok_iadd hC (show decode code 447 = .ok (.iadd, 1) by decide +kernel)) ?_
  refine xA (ok_iald hC (show decode code 448 = .ok (.iaload, 1) by decide +kernel) (by decide) rfl) ?_
  refine xA (ok_callV hC hnh (show decode code 449 = .ok (.invokevirtual 92, 3) by decide +kernel) (by decide) (by decide) (by decide) (r0 := ("StyleCourtModel", xF13, 85)) rfl ⟨by decide, by decide, by decide +kernel⟩ w_1580 w_83 w_1577 w_1578 w_1579) ?_
  refine xA (ok_istore hC (show decode code 452 = .ok (.istore 6, 2) by decide +kernel) (by decide)) ?_
  refine xA (ok_aload_n hC (show decode code 454 = .ok (.aload_n 2, 1) by decide +kernel) rfl) ?_
  refine xA (ok_callV hC hnh (show decode code 455 = .ok (.invokevirtual 69, 3) by decide +kernel) (by decide) (by decide) (by decide) (r0 := ("StyleCourtModel", xF13, 85)) rfl ⟨by decide, by decide, by decide +kernel⟩ w_1405 w_83 w_1402 w_1403 w_1404) ?_
  refine xA (ok_iload hC (show decode code 458 = .ok (.iload 5, 2) by decide +kernel)) ?_
  refine xA (ok_iceq hC (show decode code 460 = .ok (.if_icmp .eq 5, 3) by decide +kernel) (by decide)) ?_
  refine xA (ok_iconst hC (show decode code 463 = .ok (.iconst 0, 1) by decide +kernel) (by decide)) ?_
  refine xA (ok_zret hC hr (show decode code 464 = .ok (.ireturn, 1) by decide +kernel)) ?_
  refine xA (ok_iload hC (show decode code 465 = .ok (.iload 5, 2) by decide +kernel)) ?_
  refine xA (ok_ifne hC (show decode code 467 = .ok (.ifCond .ne 15, 3) by decide +kernel) (by decide)) ?_
  refine xA (ok_aload_n hC (show decode code 470 = .ok (.aload_n 3, 1) by decide +kernel) rfl) ?_
  refine xA (ok_iconst hC (show decode code 471 = .ok (.iconst 0, 1) by decide +kernel) (by decide)) ?_
  refine xA (ok_lald hC (show decode code 472 = .ok (.laload, 1) by decide +kernel) (by decide) rfl) ?_
  refine xA (ok_iload hC (show decode code 473 = .ok (.iload 6, 2) by decide +kernel)) ?_
  refine xA (ok_i2l hC (show decode code 475 = .ok (.i2l, 1) by decide +kernel)) ?_
  refine xA (ok_lcmp hC (show decode code 476 = .ok (.lcmp, 1) by decide +kernel)) ?_
  refine xA (ok_ifeq hC (show decode code 477 = .ok (.ifCond .eq 5, 3) by decide +kernel) (by decide)) ?_
  refine xA (ok_iconst hC (show decode code 480 = .ok (.iconst 0, 1) by decide +kernel) (by decide)) ?_
  refine xA (ok_zret hC hr (show decode code 481 = .ok (.ireturn, 1) by decide +kernel)) ?_
  refine xA (ok_goto hC (show decode code 482 = .ok (.goto 418, 3) by decide +kernel) (by decide)) ?_
  refine xA (ok_aload_n hC (show decode code 485 = .ok (.aload_n 1, 1) by decide +kernel) rfl) ?_
  refine xA (ok_aload_n hC (show decode code 486 = .ok (.aload_n 3, 1) by decide +kernel) rfl) ?_
  refine xA (ok_callS hC hnh (show decode code 487 = .ok (.invokestatic 93, 3) by decide +kernel) (by decide) (by decide) ⟨by decide, by decide, by decide +kernel⟩ (Or.inr w_1074) w_68 w_1072 w_1073) ?_
  refine xA (ok_istore hC (show decode code 490 = .ok (.istore 5, 2) by decide +kernel) (by decide)) ?_
  refine xA (ok_aload_n hC (show decode code 492 = .ok (.aload_n 2, 1) by decide +kernel) rfl) ?_
  refine xA (ok_callV hC hnh (show decode code 493 = .ok (.invokevirtual 95, 3) by decide +kernel) (by decide) (by decide) (by decide) (r0 := ("StyleCourtModel", xF13, 85)) rfl ⟨by decide, by decide, by decide +kernel⟩ w_1635 w_83 w_1632 w_1633 w_1634) ?_
  refine xA (ok_istore hC (show decode code 496 = .ok (.istore 6, 2) by decide +kernel) (by decide)) ?_
  refine xA (ok_aload_n hC (show decode code 498 = .ok (.aload_n 2, 1) by decide +kernel) rfl) ?_
  refine xA (ok_callV hC hnh (show decode code 499 = .ok (.invokevirtual 69, 3) by decide +kernel) (by decide) (by decide) (by decide) (r0 := ("StyleCourtModel", xF13, 85)) rfl ⟨by decide, by decide, by decide +kernel⟩ w_1405 w_83 w_1402 w_1403 w_1404) ?_
  refine xA (ok_iload hC (show decode code 502 = .ok (.iload 5, 2) by decide +kernel)) ?_
  refine xA (ok_iceq hC (show decode code 504 = .ok (.if_icmp .eq 5, 3) by decide +kernel) (by decide)) ?_
  refine xA (ok_iconst hC (show decode code 507 = .ok (.iconst 0, 1) by decide +kernel) (by decide)) ?_
  refine xA (ok_zret hC hr (show decode code 508 = .ok (.ireturn, 1) by decide +kernel)) ?_
  refine xA (ok_iload hC (show decode code 509 = .ok (.iload 5, 2) by decide +kernel)) ?_
  refine xA (ok_ifne hC (show decode code 511 = .ok (.ifCond .ne 15, 3) by decide +kernel) (by decide)) ?_
  refine xA (ok_aload_n hC (show decode code 514 = .ok (.aload_n 3, 1) by decide +kernel) rfl) ?_
  refine xA (ok_iconst hC (show decode code 515 = .ok (.iconst 0, 1) by decide +kernel) (by decide)) ?_
  refine xA (ok_lald hC (show decode code 516 = .ok (.laload, 1) by decide +kernel) (by decide) rfl) ?_
  refine xA (ok_iload hC (show decode code 517 = .ok (.iload 6, 2) by decide +kernel)) ?_
  refine xA (ok_i2l hC (show decode code 519 = .ok (.i2l, 1) by decide +kernel)) ?_
  refine xA (ok_lcmp hC (show decode code 520 = .ok (.lcmp, 1) by decide +kernel)) ?_
  refine xA (ok_ifeq hC (show decode code 521 = .ok (.ifCond .eq 5, 3) by decide +kernel) (by decide)) ?_
  refine xA (ok_iconst hC (show decode code 524 = .ok (.iconst 0, 1) by decide +kernel) (by decide)) ?_
  refine xA (ok_zret hC hr (show decode code 525 = .ok (.ireturn, 1) by decide +kernel)) ?_
  refine xA (ok_goto hC (show decode code 526 = .ok (.goto 374, 3) by decide +kernel) (by decide)) ?_
  refine xA (ok_aload_n hC (show decode code 529 = .ok (.aload_n 1, 1) by decide +kernel) rfl) ?_
  refine xA (ok_aload_n hC (show decode code 530 = .ok (.aload_n 0, 1) by decide +kernel) rfl) ?_
  refine xA (ok_iload hC (show decode code 531 = .ok (.iload 4, 2) by decide +kernel)) ?_
  refine xA (ok_iconst hC (show decode code 533 = .ok (.iconst 1, 1) by decide +kernel) (by decide)) ?_
  refine xA (ok_iadd hC (show decode code 534 = .ok (.iadd, 1) by decide +kernel)) ?_
  refine xA (ok_iald hC (show decode code 535 = .ok (.iaload, 1) by decide +kernel) (by decide) rfl) ?_
  refine xA (ok_aload_n hC (show decode code 536 = .ok (.aload_n 3, 1) by decide +kernel) rfl) ?_
  refine xA (ok_callS hC hnh (show decode code 537 = .ok (.invokestatic 96, 3) by decide +kernel) (by decide) (by decide) ⟨by decide, by decide, by decide +kernel⟩ (Or.inr w_1085) w_68 w_1083 w_1084) ?_
  refine xA (ok_istore hC (show decode code 540 = .ok (.istore 5, 2) by decide +kernel) (by decide)) ?_
  refine xA (ok_aload_n hC (show decode code 542 = .ok (.aload_n 2, 1) by decide +kernel) rfl) ?_
  refine xA (ok_aload_n hC (show decode code 543 = .ok (.aload_n 0, 1) by decide +kernel) rfl) ?_
  refine xA (ok_iload hC (show decode code 544 = .ok (.iload 4, 2) by decide +kernel)) ?_
  refine xA (ok_iconst hC (show decode code 546 = .ok (.iconst 1, 1) by decide +kernel) (by decide)) ?_
  refine xA (ok_iadd hC (show decode code 547 = .ok (.iadd, 1) by decide +kernel)) ?_
  refine xA (ok_iald hC (show decode code 548 = .ok (.iaload, 1) by decide +kernel) (by decide) rfl) ?_
  refine xA (ok_callV hC hnh (show decode code 549 = .ok (.invokevirtual 98, 3) by decide +kernel) (by decide) (by decide) (by decide) (r0 := ("StyleCourtModel", xF13, 85)) rfl ⟨by decide, by decide, by decide +kernel⟩ w_1639 w_83 w_1636 w_1637 w_1638) ?_
  refine xA (ok_istore hC (show decode code 552 = .ok (.istore 6, 2) by decide +kernel) (by decide)) ?_
  refine xA (ok_aload_n hC (show decode code 554 = .ok (.aload_n 2, 1) by decide +kernel) rfl) ?_
  refine xA (ok_callV hC hnh (show decode code 555 = .ok (.invokevirtual 69, 3) by decide +kernel) (by decide) (by decide) (by decide) (r0 := ("StyleCourtModel", xF13, 85)) rfl ⟨by decide, by decide, by decide +kernel⟩ w_1405 w_83 w_1402 w_1403 w_1404) ?_
  refine xA (ok_iload hC (show decode code 558 = .ok (.iload 5, 2) by decide +kernel)) ?_
  refine xA (ok_iceq hC (show decode code 560 = .ok (.if_icmp .eq 5, 3) by decide +kernel) (by decide)) ?_
  refine xA (ok_iconst hC (show decode code 563 = .ok (.iconst 0, 1) by decide +kernel) (by decide)) ?_
  refine xA (ok_zret hC hr (show decode code 564 = .ok (.ireturn, 1) by decide +kernel)) ?_
  refine xA (ok_iload hC (show decode code 565 = .ok (.iload 5, 2) by decide +kernel)) ?_
  refine xA (ok_ifne hC (show decode code 567 = .ok (.ifCond .ne 15, 3) by decide +kernel) (by decide)) ?_
  refine xA (ok_aload_n hC (show decode code 570 = .ok (.aload_n 3, 1) by decide +kernel) rfl) ?_
  refine xA (ok_iconst hC (show decode code 571 = .ok (.iconst 0, 1) by decide +kernel) (by decide)) ?_
  refine xA (ok_lald hC (show decode code 572 = .ok (.laload, 1) by decide +kernel) (by decide) rfl) ?_
  refine xA (ok_iload hC (show decode code 573 = .ok (.iload 6, 2) by decide +kernel)) ?_
  refine xA (ok_i2l hC (show decode code 575 = .ok (.i2l, 1) by decide +kernel)) ?_
  refine xA (ok_lcmp hC (show decode code 576 = .ok (.lcmp, 1) by decide +kernel)) ?_
  refine xA (ok_ifeq hC (show decode code 577 = .ok (.ifCond .eq 5, 3) by decide +kernel) (by decide)) ?_
  refine xA (ok_iconst hC (show decode code 580 = .ok (.iconst 0, 1) by decide +kernel) (by decide)) ?_
  refine xA (ok_zret hC hr (show decode code 581 = .ok (.ireturn, 1) by decide +kernel)) ?_
  refine xA (ok_goto hC (show decode code 582 = .ok (.goto 318, 3) by decide +kernel) (by decide)) ?_
  refine xA (ok_aload_n hC (show decode code 585 = .ok (.aload_n 1, 1) by decide +kernel) rfl) ?_
  refine xA (ok_aload_n hC (show decode code 586 = .ok (.aload_n 0, 1) by decide +kernel) rfl) ?_
  refine xA (ok_iload hC (show decode code 587 = .ok (.iload 4, 2) by decide +kernel)) ?_
  refine xA (ok_iconst hC (show decode code 589 = .ok (.iconst 1, 1) by decide +kernel) (by decide)) ?_
  refine xA (ok_iadd hC (show decode code 590 = .ok (.iadd, 1) by decide +kernel)) ?_
  refine xA (ok_iald hC (show decode code 591 = .ok (.iaload, 1) by decide +kernel) (by decide) rfl) ?_
  refine xA (ok_aload_n hC (show decode code 592 = .ok (.aload_n 0, 1) by decide +kernel) rfl) ?_
  refine xA (ok_iload hC (show decode code 593 = .ok (.iload 4, 2) by decide +kernel)) ?_
  refine xA (ok_iconst hC (show decode code 595 = .ok (.iconst 2, 1) by decide +kernel) (by decide)) ?_
  refine xA (ok_iadd hC (show decode code 596 = .ok (.iadd, 1) by decide +kernel)) ?_
  refine xA (ok_iald hC (show decode code 597 = .ok (.iaload, 1) by decide +kernel) (by decide) rfl) ?_
  refine xA (ok_aload_n hC (show decode code 598 = .ok (.aload_n 3, 1) by decide +kernel) rfl) ?_
  refine xA (ok_callS hC hnh (show decode code 599 = .ok (.invokestatic 99, 3) by decide +kernel) (by decide) (by decide) ⟨by decide, by decide, by decide +kernel⟩ (Or.inr w_1093) w_68 w_1091 w_1092) ?_
  refine xA (ok_istore hC (show decode code 602 = .ok (.istore 5, 2) by decide +kernel) (by decide)) ?_
  refine xA (ok_aload_n hC (show decode code 604 = .ok (.aload_n 2, 1) by decide +kernel) rfl) ?_
  refine xA (ok_aload_n hC (show decode code 605 = .ok (.aload_n 0, 1) by decide +kernel) rfl) ?_
  refine xA (ok_iload hC (show decode code 606 = .ok (.iload 4, 2) by decide +kernel)) ?_
  refine xA (ok_iconst hC (show decode code 608 = .ok (.iconst 1, 1) by decide +kernel) (by decide)) ?_
  refine xA (ok_iadd hC (show decode code 609 = .ok (.iadd, 1) by decide +kernel)) ?_
  refine xA (ok_iald hC (show decode code 610 = .ok (.iaload, 1) by decide +kernel) (by decide) rfl) ?_
  refine xA (ok_aload_n hC (show decode code 611 = .ok (.aload_n 0, 1) by decide +kernel) rfl) ?_
  refine xA (ok_iload hC (show decode code 612 = .ok (.iload 4, 2) by decide +kernel)) ?_
  refine xA (ok_iconst hC (show decode code 614 = .ok (.iconst 2, 1) by decide +kernel) (by decide)) ?_
  refine xA (ok_iadd hC (show decode code 615 = .ok (.iadd, 1) by decide +kernel)) ?_
  refine xA (ok_iald hC (show decode code 616 = .ok (.iaload, 1) by decide +kernel) (by decide) rfl) ?_
  refine xA (ok_callV hC hnh (show decode code 617 = .ok (.invokevirtual 102, 3) by decide +kernel) (by decide) (by decide) (by decide) (r0 := ("StyleCourtModel", xF13, 85)) rfl ⟨by decide, by decide, by decide +kernel⟩ w_1643 w_83 w_1640 w_1641 w_1642) ?_
  refine xA (ok_istore hC (show decode code 620 = .ok (.istore 6, 2) by decide +kernel) (by decide)) ?_
  refine xA (ok_aload_n hC (show decode code 622 = .ok (.aload_n 2, 1) by decide +kernel) rfl) ?_
  refine xA (ok_callV hC hnh (show decode code 623 = .ok (.invokevirtual 69, 3) by decide +kernel) (by decide) (by decide) (by decide) (r0 := ("StyleCourtModel", xF13, 85)) rfl ⟨by decide, by decide, by decide +kernel⟩ w_1405 w_83 w_1402 w_1403 w_1404) ?_
  refine xA (ok_iload hC (show decode code 626 = .ok (.iload 5, 2) by decide +kernel)) ?_
  refine xA (ok_iceq hC (show decode code 628 = .ok (.if_icmp .eq 5, 3) by decide +kernel) (by decide)) ?_
  refine xA (ok_iconst hC (show decode code 631 = .ok (.iconst 0, 1) by decide +kernel) (by decide)) ?_
  refine xA (ok_zret hC hr (show decode code 632 = .ok (.ireturn, 1) by decide +kernel)) ?_
  refine xA (ok_iload hC (show decode code 633 = .ok (.iload 5, 2) by decide +kernel)) ?_
  refine xA (ok_ifne hC (show decode code 635 = .ok (.ifCond .ne 15, 3) by decide +kernel) (by decide)) ?_
  refine xA (ok_aload_n hC (show decode code 638 = .ok (.aload_n 3, 1) by decide +kernel) rfl) ?_
  refine xA (ok_iconst hC (show decode code 639 = .ok (.iconst 0, 1) by decide +kernel) (by decide)) ?_
  refine xA (ok_lald hC (show decode code 640 = .ok (.laload, 1) by decide +kernel) (by decide) rfl) ?_
  refine xA (ok_iload hC (show decode code 641 = .ok (.iload 6, 2) by decide +kernel)) ?_
  refine xA (ok_i2l hC (show decode code 643 = .ok (.i2l, 1) by decide +kernel)) ?_
  refine xA (ok_lcmp hC (show decode code 644 = .ok (.lcmp, 1) by decide +kernel)) ?_
  refine xA (ok_ifeq hC (show decode code 645 = .ok (.ifCond .eq 5, 3) by decide +kernel) (by decide)) ?_
  refine xA (ok_iconst hC (show decode code 648 = .ok (.iconst 0, 1) by decide +kernel) (by decide)) ?_
  refine xA (ok_zret hC hr (show decode code 649 = .ok (.ireturn, 1) by decide +kernel)) ?_
  refine xA (ok_goto hC (show decode code 650 = .ok (.goto 250, 3) by decide +kernel) (by decide)) ?_
  refine xA (ok_aload_n hC (show decode code 653 = .ok (.aload_n 1, 1) by decide +kernel) rfl) ?_
  refine xA (ok_aload_n hC (show decode code 654 = .ok (.aload_n 0, 1) by decide +kernel) rfl) ?_
  refine xA (ok_iload hC (show decode code 655 = .ok (.iload 4, 2) by decide +kernel)) ?_
  refine xA (ok_iconst hC (show decode code 657 = .ok (.iconst 1, 1) by decide +kernel) (by decide)) ?_
  refine xA (ok_iadd hC (show decode code 658 = .ok (.iadd, 1) by decide +kernel)) ?_
  refine xA (ok_iald hC (show decode code 659 = .ok (.iaload, 1) by decide +kernel) (by decide) rfl) ?_
  refine xA (ok_aload_n hC (show decode code 660 = .ok (.aload_n 0, 1) by decide +kernel) rfl) ?_
  refine xA (ok_iload hC (show decode code 661 = .ok (.iload 4, 2) by decide +kernel)) ?_
  refine xA (ok_iconst hC (show decode code 663 = .ok (.iconst 2, 1) by decide +kernel) (by decide)) ?_
  refine xA (ok_iadd hC (show decode code 664 = .ok (.iadd, 1) by decide +kernel)) ?_
  refine xA (ok_iald hC (show decode code 665 = .ok (.iaload, 1) by decide +kernel) (by decide) rfl) ?_
  refine xA (ok_aload_n hC (show decode code 666 = .ok (.aload_n 3, 1) by decide +kernel) rfl) ?_
  refine xA (ok_callS hC hnh (show decode code 667 = .ok (.invokestatic 103, 3) by decide +kernel) (by decide) (by decide) ⟨by decide, by decide, by decide +kernel⟩ (Or.inr w_1101) w_68 w_1099 w_1100) ?_
  refine xA (ok_istore hC (show decode code 670 = .ok (.istore 5, 2) by decide +kernel) (by decide)) ?_
  refine xA (ok_aload_n hC (show decode code 672 = .ok (.aload_n 2, 1) by decide +kernel) rfl) ?_
  refine xA (ok_aload_n hC (show decode code 673 = .ok (.aload_n 0, 1) by decide +kernel) rfl) ?_
  refine xA (ok_iload hC (show decode code 674 = .ok (.iload 4, 2) by decide +kernel)) ?_
  refine xA (ok_iconst hC (show decode code 676 = .ok (.iconst 1, 1) by decide +kernel) (by decide)) ?_
  refine xA (ok_iadd hC (show decode code 677 = .ok (.iadd, 1) by decide +kernel)) ?_
  refine xA (ok_iald hC (show decode code 678 = .ok (.iaload, 1) by decide +kernel) (by decide) rfl) ?_
  refine xA (ok_aload_n hC (show decode code 679 = .ok (.aload_n 0, 1) by decide +kernel) rfl) ?_
  refine xA (ok_iload hC (show decode code 680 = .ok (.iload 4, 2) by decide +kernel)) ?_
  refine xA (ok_iconst hC (show decode code 682 = .ok (.iconst 2, 1) by decide +kernel) (by decide)) ?_
  refine xA (ok_iadd hC (show decode code 683 = .ok (.iadd, 1) by decide +kernel)) ?_
  refine xA (ok_iald hC (show decode code 684 = .ok (.iaload, 1) by decide +kernel) (by decide) rfl) ?_
  refine xA (ok_callV hC hnh (show decode code 685 = .ok (.invokevirtual 105, 3) by decide +kernel) (by decide) (by decide) (by decide) (r0 := ("StyleCourtModel", xF13, 85)) rfl ⟨by decide, by decide, by decide +kernel⟩ w_1647 w_83 w_1644 w_1645 w_1646) ?_
  refine xA (ok_istore hC (show decode code 688 = .ok (.istore 6, 2) by decide +kernel) (by decide)) ?_
  refine xA (ok_aload_n hC (show decode code 690 = .ok (.aload_n 2, 1) by decide +kernel) rfl) ?_
  refine xA (ok_callV hC hnh (show decode code 691 = .ok (.invokevirtual 69, 3) by decide +kernel) (by decide) (by decide) (by decide) (r0 := ("StyleCourtModel", xF13, 85)) rfl ⟨by decide, by decide, by decide +kernel⟩ w_1405 w_83 w_1402 w_1403 w_1404) ?_
  refine xA (ok_iload hC (show decode code 694 = .ok (.iload 5, 2) by decide +kernel)) ?_
  refine xA (ok_iceq hC (show decode code 696 = .ok (.if_icmp .eq 5, 3) by decide +kernel) (by decide)) ?_
  refine xA (ok_iconst hC (show decode code 699 = .ok (.iconst 0, 1) by decide +kernel) (by decide)) ?_
  refine xA (ok_zret hC hr (show decode code 700 = .ok (.ireturn, 1) by decide +kernel)) ?_
  refine xA (ok_iload hC (show decode code 701 = .ok (.iload 5, 2) by decide +kernel)) ?_
  refine xA (ok_ifne hC (show decode code 703 = .ok (.ifCond .ne 15, 3) by decide +kernel) (by decide)) ?_
  refine xA (ok_aload_n hC (show decode code 706 = .ok (.aload_n 3, 1) by decide +kernel) rfl) ?_
  refine xA (ok_iconst hC (show decode code 707 = .ok (.iconst 0, 1) by decide +kernel) (by decide)) ?_
  refine xA (ok_lald hC (show decode code 708 = .ok (.laload, 1) by decide +kernel) (by decide) rfl) ?_
  refine xA (ok_iload hC (show decode code 709 = .ok (.iload 6, 2) by decide +kernel)) ?_
  refine xA (ok_i2l hC (show decode code 711 = .ok (.i2l, 1) by decide +kernel)) ?_
  refine xA (ok_lcmp hC (show decode code 712 = .ok (.lcmp, 1) by decide +kernel)) ?_
  refine xA (ok_ifeq hC (show decode code 713 = .ok (.ifCond .eq 5, 3) by decide +kernel) (by decide)) ?_
  refine xA (ok_iconst hC (show decode code 716 = .ok (.iconst 0, 1) by decide +kernel) (by decide)) ?_
  refine xA (ok_zret hC hr (show decode code 717 = .ok (.ireturn, 1) by decide +kernel)) ?_
  refine xA (ok_goto hC (show decode code 718 = .ok (.goto 182, 3) by decide +kernel) (by decide)) ?_
  refine xA (ok_aload_n hC (show decode code 721 = .ok (.aload_n 1, 1) by decide +kernel) rfl) ?_
  refine xA (ok_aload_n hC (show decode code 722 = .ok (.aload_n 0, 1) by decide +kernel) rfl) ?_
  refine xA (ok_iload hC (show decode code 723 = .ok (.iload 4, 2) by decide +kernel)) ?_
  refine xA (ok_iconst hC (show decode code 725 = .ok (.iconst 1, 1) by decide +kernel) (by decide)) ?_
  refine xA (ok_iadd hC (show decode code 726 = .ok (.iadd, 1) by decide +kernel)) ?_
  refine xA (ok_iald hC (show decode code 727 = .ok (.iaload, 1) by decide +kernel) (by decide) rfl) ?_
  refine xA (ok_aload_n hC (show decode code 728 = .ok (.aload_n 0, 1) by decide +kernel) rfl) ?_
  refine xA (ok_iload hC (show decode code 729 = .ok (.iload 4, 2) by decide +kernel)) ?_
  refine xA (ok_iconst hC (show decode code 731 = .ok (.iconst 2, 1) by decide +kernel) (by decide)) ?_
  refine xA (ok_iadd hC (show decode code 732 = .ok (.iadd, 1) by decide +kernel)) ?_
  refine xA (ok_iald hC (show decode code 733 = .ok (.iaload, 1) by decide +kernel) (by decide) rfl) ?_
  refine xA (ok_aload_n hC (show decode code 734 = .ok (.aload_n 3, 1) by decide +kernel) rfl) ?_
  refine xA (ok_callS hC hnh (show decode code 735 = .ok (.invokestatic 106, 3) by decide +kernel) (by decide) (by decide) ⟨by decide, by decide, by decide +kernel⟩ (Or.inr w_1110) w_68 w_1108 w_1109) ?_
  refine xA (ok_istore hC (show decode code 738 = .ok (.istore 5, 2) by decide +kernel) (by decide)) ?_
  refine xA (ok_aload_n hC (show decode code 740 = .ok (.aload_n 2, 1) by decide +kernel) rfl) ?_
  refine xA (ok_aload_n hC (show decode code 741 = .ok (.aload_n 0, 1) by decide +kernel) rfl) ?_
  refine xA (ok_iload hC (show decode code 742 = .ok (.iload 4, 2) by decide +kernel)) ?_
  refine xA (ok_iconst hC (show decode code 744 = .ok (.iconst 1, 1) by decide +kernel) (by decide)) ?_
  refine xA (ok_iadd hC (show decode code 745 = .ok (.iadd, 1) by decide +kernel)) ?_
  refine xA (ok_iald hC (show decode code 746 = .ok (.iaload, 1) by decide +kernel) (by decide) rfl) ?_
  refine xA (ok_aload_n hC (show decode code 747 = .ok (.aload_n 0, 1) by decide +kernel) rfl) ?_
  refine xA (ok_iload hC (show decode code 748 = .ok (.iload 4, 2) by decide +kernel)) ?_
  refine xA (ok_iconst hC (show decode code 750 = .ok (.iconst 2, 1) by decide +kernel) (by decide)) ?_
  refine xA (ok_iadd hC (show decode code 751 = .ok (.iadd, 1) by decide +kernel)) ?_
  refine xA (ok_iald hC (show decode code 752 = .ok (.iaload, 1) by decide +kernel) (by decide) rfl) ?_
  refine xA (ok_callV hC hnh (show decode code 753 = .ok (.invokevirtual 108, 3) by decide +kernel) (by decide) (by decide) (by decide) (r0 := ("StyleCourtModel", xF13, 85)) rfl ⟨by decide, by decide, by decide +kernel⟩ w_1651 w_83 w_1648 w_1649 w_1650) ?_
  refine xA (ok_istore hC (show decode code 756 = .ok (.istore 6, 2) by decide +kernel) (by decide)) ?_
  refine xA (ok_aload_n hC (show decode code 758 = .ok (.aload_n 2, 1) by decide +kernel) rfl) ?_
  refine xA (ok_callV hC hnh (show decode code 759 = .ok (.invokevirtual 69, 3) by decide +kernel) (by decide) (by decide) (by decide) (r0 := ("StyleCourtModel", xF13, 85)) rfl ⟨by decide, by decide, by decide +kernel⟩ w_1405 w_83 w_1402 w_1403 w_1404) ?_
  refine xA (ok_iload hC (show decode code 762 = .ok (.iload 5, 2) by decide +kernel)) ?_
  refine xA (ok_iceq hC (show decode code 764 = .ok (.if_icmp .eq 5, 3) by decide +kernel) (by decide)) ?_
  refine xA (ok_iconst hC (show decode code 767 = .ok (.iconst 0, 1) by decide +kernel) (by decide)) ?_
  refine xA (ok_zret hC hr (show decode code 768 = .ok (.ireturn, 1) by decide +kernel)) ?_
  refine xA (ok_iload hC (show decode code 769 = .ok (.iload 5, 2) by decide +kernel)) ?_
  refine xA (ok_ifne hC (show decode code 771 = .ok (.ifCond .ne 15, 3) by decide +kernel) (by decide)) ?_
  refine xA (ok_aload_n hC (show decode code 774 = .ok (.aload_n 3, 1) by decide +kernel) rfl) ?_
  refine xA (ok_iconst hC (show decode code 775 = .ok (.iconst 0, 1) by decide +kernel) (by decide)) ?_
  refine xA (ok_lald hC (show decode code 776 = .ok (.laload, 1) by decide +kernel) (by decide) rfl) ?_
  refine xA (ok_iload hC (show decode code 777 = .ok (.iload 6, 2) by decide +kernel)) ?_
  refine xA (ok_i2l hC (show decode code 779 = .ok (.i2l, 1) by decide +kernel)) ?_
  refine xA (ok_lcmp hC (show decode code 780 = .ok (.lcmp, 1) by decide +kernel)) ?_
  refine xA (ok_ifeq hC (show decode code 781 = .ok (.ifCond .eq 5, 3) by decide +kernel) (by decide)) ?_
  refine xA (ok_iconst hC (show decode code 784 = .ok (.iconst 0, 1) by decide +kernel) (by decide)) ?_
  refine xA (ok_zret hC hr (show decode code 785 = .ok (.ireturn, 1) by decide +kernel)) ?_
  refine xA (ok_goto hC (show decode code 786 = .ok (.goto 114, 3) by decide +kernel) (by decide)) ?_
  refine xA (ok_aload_n hC (show decode code 789 = .ok (.aload_n 1, 1) by decide +kernel) rfl) ?_
  refine xA (ok_aload_n hC (show decode code 790 = .ok (.aload_n 0, 1) by decide +kernel) rfl) ?_
  refine xA (ok_iload hC (show decode code 791 = .ok (.iload 4, 2) by decide +kernel)) ?_
  refine xA (ok_iconst hC (show decode code 793 = .ok (.iconst 1, 1) by decide +kernel) (by decide)) ?_
  refine xA (ok_iadd hC (show decode code 794 = .ok (.iadd, 1) by decide +kernel)) ?_
  refine xA (ok_iald hC (show decode code 795 = .ok (.iaload, 1) by decide +kernel) (by decide) rfl) ?_
  refine xA (ok_aload_n hC (show decode code 796 = .ok (.aload_n 3, 1) by decide +kernel) rfl) ?_
  refine xA (ok_callS hC hnh (show decode code 797 = .ok (.invokestatic 109, 3) by decide +kernel) (by decide) (by decide) ⟨by decide, by decide, by decide +kernel⟩ (Or.inr w_1124) w_68 w_1122 w_1123) ?_
  refine xA (ok_istore hC (show decode code 800 = .ok (.istore 5, 2) by decide +kernel) (by decide)) ?_
  refine xA (ok_aload_n hC (show decode code 802 = .ok (.aload_n 2, 1) by decide +kernel) rfl) ?_
  refine xA (ok_aload_n hC (show decode code 803 = .ok (.aload_n 0, 1) by decide +kernel) rfl) ?_
  refine xA (ok_iload hC (show decode code 804 = .ok (.iload 4, 2) by decide +kernel)) ?_
  refine xA (ok_iconst hC (show decode code 806 = .ok (.iconst 1, 1) by decide +kernel) (by decide)) ?_
  refine xA (ok_iadd hC (show decode code 807 = .ok (.iadd, 1) by decide +kernel)) ?_
  refine xA (ok_iald hC (show decode code 808 = .ok (.iaload, 1) by decide +kernel) (by decide) rfl) ?_
  refine xA (ok_callV hC hnh (show decode code 809 = .ok (.invokevirtual 111, 3) by decide +kernel) (by decide) (by decide) (by decide) (r0 := ("StyleCourtModel", xF13, 85)) rfl ⟨by decide, by decide, by decide +kernel⟩ w_1656 w_83 w_1653 w_1654 w_1655) ?_
  refine xA (ok_lstore hC (show decode code 812 = .ok (.lstore 6, 2) by decide +kernel) (by decide)) ?_
  refine xA (ok_aload_n hC (show decode code 814 = .ok (.aload_n 2, 1) by decide +kernel) rfl) ?_
  refine xA (ok_callV hC hnh (show decode code 815 = .ok (.invokevirtual 69, 3) by decide +kernel) (by decide) (by decide) (by decide) (r0 := ("StyleCourtModel", xF13, 85)) rfl ⟨by decide, by decide, by decide +kernel⟩ w_1405 w_83 w_1402 w_1403 w_1404) ?_
  refine xA (ok_iload hC (show decode code 818 = .ok (.iload 5, 2) by decide +kernel)) ?_
  refine xA (ok_iceq hC (show decode code 820 = .ok (.if_icmp .eq 5, 3) by decide +kernel) (by decide)) ?_
  refine xA (ok_iconst hC (show decode code 823 = .ok (.iconst 0, 1) by decide +kernel) (by decide)) ?_
  refine xA (ok_zret hC hr (show decode code 824 = .ok (.ireturn, 1) by decide +kernel)) ?_
  refine xA (ok_iload hC (show decode code 825 = .ok (.iload 5, 2) by decide +kernel)) ?_
  refine xA (ok_ifne hC (show decode code 827 = .ok (.ifCond .ne 14, 3) by decide +kernel) (by decide)) ?_
  refine xA (ok_aload_n hC (show decode code 830 = .ok (.aload_n 3, 1) by decide +kernel) rfl) ?_
  refine xA (ok_iconst hC (show decode code 831 = .ok (.iconst 0, 1) by decide +kernel) (by decide)) ?_
  refine xA (ok_lald hC (show decode code 832 = .ok (.laload, 1) by decide +kernel) (by decide) rfl) ?_
  refine xA (ok_lload hC (show decode code 833 = .ok (.lload 6, 2) by decide +kernel)) ?_
  refine xA (ok_lcmp hC (show decode code 835 = .ok (.lcmp, 1) by decide +kernel)) ?_
  refine xA (ok_ifeq hC (show decode code 836 = .ok (.ifCond .eq 5, 3) by decide +kernel) (by decide)) ?_
  refine xA (ok_iconst hC (show decode code 839 = .ok (.iconst 0, 1) by decide +kernel) (by decide)) ?_
  refine xA (ok_zret hC hr (show decode code 840 = .ok (.ireturn, 1) by decide +kernel)) ?_
  refine xA (ok_goto hC (show decode code 841 = .ok (.goto 59, 3) by decide +kernel) (by decide)) ?_
  refine xA (ok_aload_n hC (show decode code 844 = .ok (.aload_n 1, 1) by decide +kernel) rfl) ?_
  refine xA (ok_aload_n hC (show decode code 845 = .ok (.aload_n 0, 1) by decide +kernel) rfl) ?_
  refine xA (ok_iload hC (show decode code 846 = .ok (.iload 4, 2) by decide +kernel)) ?_
  refine xA (ok_iconst hC (show decode code 848 = .ok (.iconst 1, 1) by decide +kernel) (by decide)) ?_
  refine xA (ok_iadd hC (show decode code 849 = .ok (.iadd, 1) by decide +kernel)) ?_
  refine xA (ok_iald hC (show decode code 850 = .ok (.iaload, 1) by decide +kernel) (by decide) rfl) ?_
  refine xA (ok_aload_n hC (show decode code 851 = .ok (.aload_n 3, 1) by decide +kernel) rfl) ?_
  refine xA (ok_callS hC hnh (show decode code 852 = .ok (.invokestatic 112, 3) by decide +kernel) (by decide) (by decide) ⟨by decide, by decide, by decide +kernel⟩ (Or.inr w_1132) w_68 w_1130 w_1131) ?_
  refine xA (ok_istore hC (show decode code 855 = .ok (.istore 5, 2) by decide +kernel) (by decide)) ?_
  refine xA (ok_aload_n hC (show decode code 857 = .ok (.aload_n 2, 1) by decide +kernel) rfl) ?_
  refine xA (ok_aload_n hC (show decode code 858 = .ok (.aload_n 0, 1) by decide +kernel) rfl) ?_
  refine xA (ok_iload hC (show decode code 859 = .ok (.iload 4, 2) by decide +kernel)) ?_
  refine xA (ok_iconst hC (show decode code 861 = .ok (.iconst 1, 1) by decide +kernel) (by decide)) ?_
  refine xA (ok_iadd hC (show decode code 862 = .ok (.iadd, 1) by decide +kernel)) ?_
  refine xA (ok_iald hC (show decode code 863 = .ok (.iaload, 1) by decide +kernel) (by decide) rfl) ?_
  refine xA (ok_callV hC hnh (show decode code 864 = .ok (.invokevirtual 114, 3) by decide +kernel) (by decide) (by decide) (by decide) (r0 := ("StyleCourtModel", xF13, 85)) rfl ⟨by decide, by decide, by decide +kernel⟩ w_1660 w_83 w_1657 w_1658 w_1659) ?_
  refine xA (ok_istore hC (show decode code 867 = .ok (.istore 6, 2) by decide +kernel) (by decide)) ?_
  refine xA (ok_aload_n hC (show decode code 869 = .ok (.aload_n 2, 1) by decide +kernel) rfl) ?_
  refine xA (ok_callV hC hnh (show decode code 870 = .ok (.invokevirtual 69, 3) by decide +kernel) (by decide) (by decide) (by decide) (r0 := ("StyleCourtModel", xF13, 85)) rfl ⟨by decide, by decide, by decide +kernel⟩ w_1405 w_83 w_1402 w_1403 w_1404) ?_
  refine xA (ok_iload hC (show decode code 873 = .ok (.iload 5, 2) by decide +kernel)) ?_
  refine xA (ok_iceq hC (show decode code 875 = .ok (.if_icmp .eq 5, 3) by decide +kernel) (by decide)) ?_
  refine xA (ok_iconst hC (show decode code 878 = .ok (.iconst 0, 1) by decide +kernel) (by decide)) ?_
  refine xA (ok_zret hC hr (show decode code 879 = .ok (.ireturn, 1) by decide +kernel)) ?_
  refine xA (ok_iload hC (show decode code 880 = .ok (.iload 5, 2) by decide +kernel)) ?_
  refine xA (ok_ifne hC (show decode code 882 = .ok (.ifCond .ne 15, 3) by decide +kernel) (by decide)) ?_
  refine xA (ok_aload_n hC (show decode code 885 = .ok (.aload_n 3, 1) by decide +kernel) rfl) ?_
  refine xA (ok_iconst hC (show decode code 886 = .ok (.iconst 0, 1) by decide +kernel) (by decide)) ?_
  refine xA (ok_lald hC (show decode code 887 = .ok (.laload, 1) by decide +kernel) (by decide) rfl) ?_
  refine xA (ok_iload hC (show decode code 888 = .ok (.iload 6, 2) by decide +kernel)) ?_
  refine xA (ok_i2l hC (show decode code 890 = .ok (.i2l, 1) by decide +kernel)) ?_
  refine xA (ok_lcmp hC (show decode code 891 = .ok (.lcmp, 1) by decide +kernel)) ?_
  refine xA (ok_ifeq hC (show decode code 892 = .ok (.ifCond .eq 5, 3) by decide +kernel) (by decide)) ?_
  refine xA (ok_iconst hC (show decode code 895 = .ok (.iconst 0, 1) by decide +kernel) (by decide)) ?_
  refine xA (ok_zret hC hr (show decode code 896 = .ok (.ireturn, 1) by decide +kernel)) ?_
  refine xA (ok_goto hC (show decode code 897 = .ok (.goto 3, 3) by decide +kernel) (by decide)) ?_
  refine xA (ok_iinc hC (show decode code 900 = .ok (.iinc 4 6, 3) by decide +kernel) (by decide) (by decide)) ?_
  refine xA (ok_goto hC (show decode code 903 = .ok (.goto (-880), 3) by decide +kernel) (by decide)) ?_
  refine xA (ok_iconst hC (show decode code 906 = .ok (.iconst 1, 1) by decide +kernel) (by decide)) ?_
  refine xA (ok_zret hC hr (show decode code 907 = .ok (.ireturn, 1) by decide +kernel)) ?_
  exact trivial
