def tb_Mo_init (X : xX) : List (Nat × xOp) := [(0, o_ald 0 1),
  (1, o_obj 4),
  (4, o_ald 0 5),
  (5, o_ic 8192 8),
  (8, o_newa 0 (.int 0) 10),
  (10, o_put 13 1 (.array .int) 13),
  (13, o_ald 0 14),
  (14, o_ic 16384 17),
  (17, o_newa 0 (.int 0) 19),
  (19, o_put 13 3 (.array .int) 22),
  (22, o_ald 0 23),
  (23, o_ic (-1) 24),
  (24, o_put 13 5 (.int) 27),
  (27, o_ald 0 28),
  (28, o_ic 50000 30),
  (30, o_newa 0 (.int 0) 32),
  (32, o_put 13 7 (.array .int) 35),
  (35, o_ald 0 36),
  (36, o_ic 1000 39),
  (39, o_newa 0 (.int 0) 41),
  (41, o_put 13 12 (.array .int) 44),
  (44, o_ald 0 45),
  (45, o_ic 1000 48),
  (48, o_newa 0 (.int 0) 50),
  (50, o_put 13 13 (.array .int) 53),
  (53, o_ald 0 54),
  (54, o_ic 1000 57),
  (57, o_newa 0 (.int 0) 59),
  (59, o_put 13 14 (.array .int) 62),
  (62, o_ald 0 63),
  (63, o_ic 1000 66),
  (66, o_newa 0 (.int 0) 68),
  (68, o_put 13 15 (.array .int) 71),
  (71, o_ald 0 72),
  (72, o_ic 1000 75),
  (75, o_newa 0 (.int 0) 77),
  (77, o_put 13 16 (.array .int) 80),
  (80, o_ald 0 81),
  (81, o_ic 1000 84),
  (84, o_newa 0 (.int 0) 86),
  (86, o_put 13 17 (.array .int) 89),
  (89, o_ald 0 90),
  (90, o_ic 1000 93),
  (93, o_newa 0 (.int 0) 95),
  (95, o_put 13 18 (.array .int) 98),
  (98, o_ald 0 99),
  (99, o_ic 1000 102),
  (102, o_newa 0 (.int 0) 104),
  (104, o_put 13 19 (.array .int) 107),
  (107, o_ald 0 108),
  (108, o_ic 1000 111),
  (111, o_newa 0 (.int 0) 113),
  (113, o_put 13 20 (.array .int) 116),
  (116, o_ald 0 117),
  (117, o_ic 1000 120),
  (120, o_newa 0 (.int 0) 122),
  (122, o_put 13 21 (.array .int) 125),
  (125, o_ald 0 126),
  (126, o_ic 1000 129),
  (129, o_newa 0 (.int 0) 131),
  (131, o_put 13 22 (.array .int) 134),
  (134, o_ald 0 135),
  (135, o_ic 1000 138),
  (138, o_newa 0 (.int 0) 140),
  (140, o_put 13 23 (.array .int) 143),
  (143, o_ald 0 144),
  (144, o_ic 1000 147),
  (147, o_newa 0 (.int 0) 149),
  (149, o_put 13 24 (.array .int) 152),
  (152, o_ald 0 153),
  (153, o_ic 1000 156),
  (156, o_newa 3 (.int 0) 158),
  (158, o_put 13 25 (.array .boolean) 161),
  (161, o_ald 0 162),
  (162, o_ic 6000 165),
  (165, o_newa 0 (.int 0) 167),
  (167, o_put 13 26 (.array .int) 170),
  (170, o_ald 0 171),
  (171, o_ic 6000 174),
  (174, o_newa 0 (.int 0) 176),
  (176, o_put 13 27 (.array .int) 179),
  (179, o_ald 0 180),
  (180, o_ic 6000 183),
  (183, o_newa 0 (.int 0) 185),
  (185, o_put 13 28 (.array .int) 188),
  (188, o_ald 0 189),
  (189, o_ic 6000 192),
  (192, o_newa 0 (.int 0) 194),
  (194, o_put 13 29 (.array .int) 197),
  (197, o_ald 0 198),
  (198, o_ic 20000 201),
  (201, o_newa 0 (.int 0) 203),
  (203, o_put 13 30 (.array .int) 206),
  (206, o_ald 0 207),
  (207, o_ic 20000 210),
  (210, o_newa 0 (.int 0) 212),
  (212, o_put 13 31 (.array .int) 215),
  (215, o_ald 0 216),
  (216, o_ic 40 218),
  (218, o_newa 0 (.int 0) 220),
  (220, o_put 13 33 (.array .int) 223),
  (223, o_ald 0 224),
  (224, o_ic 40 226),
  (226, o_newa 0 (.int 0) 228),
  (228, o_put 13 34 (.array .int) 231),
  (231, o_ald 0 232),
  (232, o_ic 40 234),
  (234, o_newa 0 (.int 0) 236),
  (236, o_put 13 35 (.array .int) 239),
  (239, o_ald 0 240),
  (240, o_ic 40 242),
  (242, o_newa 0 (.int 0) 244),
  (244, o_put 13 36 (.array .int) 247),
  (247, o_ald 0 248),
  (248, o_ic 8192 251),
  (251, o_newa 0 (.int 0) 253),
  (253, o_put 13 41 (.array .int) 256),
  (256, o_ald 0 257),
  (257, o_ic 500 260),
  (260, o_newa 0 (.int 0) 262),
  (262, o_put 13 43 (.array .int) 265),
  (265, o_ald 0 266),
  (266, o_ic 123 268),
  (268, o_newa 0 (.int 0) 270),
  (270, o_put 13 53 (.array .int) 273),
  (273, o_ald 0 274),
  (274, o_ic 123 276),
  (276, o_newa 0 (.int 0) 278),
  (278, o_put 13 54 (.array .int) 281),
  (281, o_ald 0 282),
  (282, o_ic 123 284),
  (284, o_newa 0 (.int 0) 286),
  (286, o_put 13 55 (.array .int) 289),
  (289, o_ald 0 290),
  (290, o_ic 123 292),
  (292, o_newa 0 (.int 0) 294),
  (294, o_put 13 56 (.array .int) 297),
  (297, o_ald 0 298),
  (298, o_ic 1000 301),
  (301, o_newa 0 (.int 0) 303),
  (303, o_put 13 57 (.array .int) 306),
  (306, o_ald 0 307),
  (307, o_ic 1000 310),
  (310, o_newa 0 (.int 0) 312),
  (312, o_put 13 58 (.array .int) 315),
  (315, o_ald 0 316),
  (316, o_ic 1000 319),
  (319, o_newa 0 (.int 0) 321),
  (321, o_put 13 59 (.array .int) 324),
  (324, o_ald 0 325),
  (325, o_ic 1000 328),
  (328, o_newa 0 (.int 0) 330),
  (330, o_put 13 60 (.array .int) 333),
  (333, o_ald 0 334),
  (334, o_ic 1000 337),
  (337, o_newa 0 (.int 0) 339),
  (339, o_put 13 61 (.array .int) 342),
  (342, o_ald 0 343),
  (343, o_ic 4000 346),
  (346, o_newa 0 (.int 0) 348),
  (348, o_put 13 62 (.array .int) 351),
  (351, o_ald 0 352),
  (352, o_ic 4000 355),
  (355, o_newa 0 (.int 0) 357),
  (357, o_put 13 63 (.array .int) 360),
  (360, o_ald 0 361),
  (361, o_ic 4000 364),
  (364, o_newa 0 (.int 0) 366),
  (366, o_put 13 64 (.array .int) 369),
  (369, o_ald 0 370),
  (370, o_ic 4000 373),
  (373, o_newa 0 (.int 0) 375),
  (375, o_put 13 65 (.array .int) 378),
  (378, o_ald 0 379),
  (379, o_ic 4000 382),
  (382, o_newa 0 (.int 0) 384),
  (384, o_put 13 66 (.array .int) 387),
  (387, o_ald 0 388),
  (388, o_ic 4000 391),
  (391, o_newa 0 (.int 0) 393),
  (393, o_put 13 67 (.array .int) 396),
  (396, o_ald 0 397),
  (397, o_ic 600 400),
  (400, o_newa 0 (.int 0) 402),
  (402, o_put 13 70 (.array .int) 405),
  (405, o_ald 0 406),
  (406, o_ic 600 409),
  (409, o_newa 0 (.int 0) 411),
  (411, o_put 13 71 (.array .int) 414),
  (414, o_ald 0 415),
  (415, o_ic 600 418),
  (418, o_newa 0 (.int 0) 420),
  (420, o_put 13 72 (.array .int) 423),
  (423, o_ald 0 424),
  (424, o_ic 600 427),
  (427, o_newa 0 (.int 0) 429),
  (429, o_put 13 73 (.array .int) 432),
  (432, o_ald 0 433),
  (433, o_ic 600 436),
  (436, o_newa 0 (.int 0) 438),
  (438, o_put 13 74 (.array .int) 441),
  (441, o_ald 0 442),
  (442, o_ic 600 445),
  (445, o_newa 0 (.int 0) 447),
  (447, o_put 13 75 (.array .int) 450),
  (450, o_ald 0 451),
  (451, o_ic 600 454),
  (454, o_newa 3 (.int 0) 456),
  (456, o_put 13 76 (.array .boolean) 459),
  (459, o_ald 0 460),
  (460, o_ic 30 462),
  (462, o_newa 0 (.int 0) 464),
  (464, o_put 13 77 (.array .int) 467),
  (467, o_ald 0 468),
  (468, o_ic 30 470),
  (470, o_newa 0 (.int 0) 472),
  (472, o_put 13 78 (.array .int) 475),
  (475, o_ald 0 476),
  (476, o_ic 500 479),
  (479, o_newa 3 (.int 0) 481),
  (481, o_put 13 80 (.array .boolean) 484),
  (484, o_ald 0 485),
  (485, o_ic 500 488),
  (488, o_newa 3 (.int 0) 490),
  (490, o_put 13 81 (.array .boolean) 493),
  (493, o_ald 0 494),
  (494, o_ic 120 496),
  (496, o_newa 3 (.int 0) 498),
  (498, o_put 13 82 (.array .boolean) 501),
  (501, o_ald 0 502),
  (502, o_ic 24 504),
  (504, o_newa 0 (.int 0) 506),
  (506, o_put 13 83 (.array .int) 509),
  (509, o_vret X.P)]
theorem tk_Mo_init {X : xX} (hC : xCx X prog_14_method_1_code "StyleCourtModel" 1 1) (hr : X.meth.sig.returnType = none) (hnh : X.c.exceptionTable.isEmpty = true) (hin : X.meth.name = "<init>") : xAll X (tb_Mo_init X) := by
  refine xA (ok_aload_n hC (show decode prog_14_method_1_code 0 = .ok (.aload_n 0, 1) by decide +kernel) rfl) ?_
  refine xA (ok_obj hC (by decide) (show decode prog_14_method_1_code 1 = .ok (.invokespecial 1, 3) by decide +kernel) w_1143 w_106 w_107) ?_
  refine xA (ok_aload_n hC (show decode prog_14_method_1_code 4 = .ok (.aload_n 0, 1) by decide +kernel) rfl) ?_
  refine xA (ok_sipush hC (show decode prog_14_method_1_code 5 = .ok (.sipush 8192, 3) by decide +kernel) (by decide)) ?_
  refine xA (ok_newa hC (show decode prog_14_method_1_code 8 = .ok (.newarray .int, 2) by decide +kernel) (by decide) (ty := .int) rfl rfl rfl (by decide) w_153 (fun _ z => by cases z)) ?_
  refine xA (ok_putF hC hin (show decode prog_14_method_1_code 10 = .ok (.putfield 7, 3) by decide +kernel) (by decide) (r0 := ("StyleCourtModel", xF13, 85)) rfl (by decide) rfl (by decide +kernel) w_1146) ?_
  refine xA (ok_aload_n hC (show decode prog_14_method_1_code 13 = .ok (.aload_n 0, 1) by decide +kernel) rfl) ?_
  refine xA (ok_sipush hC (show decode prog_14_method_1_code 14 = .ok (.sipush 16384, 3) by decide +kernel) (by decide)) ?_
  refine xA (ok_newa hC (show decode prog_14_method_1_code 17 = .ok (.newarray .int, 2) by decide +kernel) (by decide) (ty := .int) rfl rfl rfl (by decide) w_153 (fun _ z => by cases z)) ?_
  refine xA (ok_putF hC hin (show decode prog_14_method_1_code 19 = .ok (.putfield 13, 3) by decide +kernel) (by decide) (r0 := ("StyleCourtModel", xF13, 85)) rfl (by decide) rfl (by decide +kernel) w_1148) ?_
  refine xA (ok_aload_n hC (show decode prog_14_method_1_code 22 = .ok (.aload_n 0, 1) by decide +kernel) rfl) ?_
  refine xA (ok_iconst hC (show decode prog_14_method_1_code 23 = .ok (.iconst (-1), 1) by decide +kernel) (by decide)) ?_
  refine xA (ok_put hC (show decode prog_14_method_1_code 24 = .ok (.putfield 16, 3) by decide +kernel) (by decide) (r0 := ("StyleCourtModel", xF13, 85)) rfl (by decide) rfl (by decide +kernel) w_1150) ?_
  refine xA (ok_aload_n hC (show decode prog_14_method_1_code 27 = .ok (.aload_n 0, 1) by decide +kernel) rfl) ?_
  refine xA (ok_ldc hC (show decode prog_14_method_1_code 28 = .ok (.ldc 20, 2) by decide +kernel) w_1144) ?_
  refine xA (ok_newa hC (show decode prog_14_method_1_code 30 = .ok (.newarray .int, 2) by decide +kernel) (by decide) (ty := .int) rfl rfl rfl (by decide) w_153 (fun _ z => by cases z)) ?_
  refine xA (ok_putF hC hin (show decode prog_14_method_1_code 32 = .ok (.putfield 21, 3) by decide +kernel) (by decide) (r0 := ("StyleCourtModel", xF13, 85)) rfl (by decide) rfl (by decide +kernel) w_1152) ?_
  refine xA (ok_aload_n hC (show decode prog_14_method_1_code 35 = .ok (.aload_n 0, 1) by decide +kernel) rfl) ?_
  refine xA (ok_sipush hC (show decode prog_14_method_1_code 36 = .ok (.sipush 1000, 3) by decide +kernel) (by decide)) ?_
  refine xA (ok_newa hC (show decode prog_14_method_1_code 39 = .ok (.newarray .int, 2) by decide +kernel) (by decide) (ty := .int) rfl rfl rfl (by decide) w_153 (fun _ z => by cases z)) ?_
  refine xA (ok_putF hC hin (show decode prog_14_method_1_code 41 = .ok (.putfield 24, 3) by decide +kernel) (by decide) (r0 := ("StyleCourtModel", xF13, 85)) rfl (by decide) rfl (by decide +kernel) w_1157) ?_
  refine xA (ok_aload_n hC (show decode prog_14_method_1_code 44 = .ok (.aload_n 0, 1) by decide +kernel) rfl) ?_
  refine xA (ok_sipush hC (show decode prog_14_method_1_code 45 = .ok (.sipush 1000, 3) by decide +kernel) (by decide)) ?_
  refine xA (ok_newa hC (show decode prog_14_method_1_code 48 = .ok (.newarray .int, 2) by decide +kernel) (by decide) (ty := .int) rfl rfl rfl (by decide) w_153 (fun _ z => by cases z)) ?_
  refine xA (ok_putF hC hin (show decode prog_14_method_1_code 50 = .ok (.putfield 27, 3) by decide +kernel) (by decide) (r0 := ("StyleCourtModel", xF13, 85)) rfl (by decide) rfl (by decide +kernel) w_1158) ?_
  refine xA (ok_aload_n hC (show decode prog_14_method_1_code 53 = .ok (.aload_n 0, 1) by decide +kernel) rfl) ?_
  refine xA (ok_sipush hC (show decode prog_14_method_1_code 54 = .ok (.sipush 1000, 3) by decide +kernel) (by decide)) ?_
  refine xA (ok_newa hC (show decode prog_14_method_1_code 57 = .ok (.newarray .int, 2) by decide +kernel) (by decide) (ty := .int) rfl rfl rfl (by decide) w_153 (fun _ z => by cases z)) ?_
  refine xA (ok_putF hC hin (show decode prog_14_method_1_code 59 = .ok (.putfield 30, 3) by decide +kernel) (by decide) (r0 := ("StyleCourtModel", xF13, 85)) rfl (by decide) rfl (by decide +kernel) w_1159) ?_
  refine xA (ok_aload_n hC (show decode prog_14_method_1_code 62 = .ok (.aload_n 0, 1) by decide +kernel) rfl) ?_
  refine xA (ok_sipush hC (show decode prog_14_method_1_code 63 = .ok (.sipush 1000, 3) by decide +kernel) (by decide)) ?_
  refine xA (ok_newa hC (show decode prog_14_method_1_code 66 = .ok (.newarray .int, 2) by decide +kernel) (by decide) (ty := .int) rfl rfl rfl (by decide) w_153 (fun _ z => by cases z)) ?_
  refine xA (ok_putF hC hin (show decode prog_14_method_1_code 68 = .ok (.putfield 33, 3) by decide +kernel) (by decide) (r0 := ("StyleCourtModel", xF13, 85)) rfl (by decide) rfl (by decide +kernel) w_1160) ?_
  refine xA (ok_aload_n hC (show decode prog_14_method_1_code 71 = .ok (.aload_n 0, 1) by decide +kernel) rfl) ?_
  refine xA (ok_sipush hC (show decode prog_14_method_1_code 72 = .ok (.sipush 1000, 3) by decide +kernel) (by decide)) ?_
  refine xA (ok_newa hC (show decode prog_14_method_1_code 75 = .ok (.newarray .int, 2) by decide +kernel) (by decide) (ty := .int) rfl rfl rfl (by decide) w_153 (fun _ z => by cases z)) ?_
  refine xA (ok_putF hC hin (show decode prog_14_method_1_code 77 = .ok (.putfield 36, 3) by decide +kernel) (by decide) (r0 := ("StyleCourtModel", xF13, 85)) rfl (by decide) rfl (by decide +kernel) w_1161) ?_
  refine xA (ok_aload_n hC (show decode prog_14_method_1_code 80 = .ok (.aload_n 0, 1) by decide +kernel) rfl) ?_
  refine xA (ok_sipush hC (show decode prog_14_method_1_code 81 = .ok (.sipush 1000, 3) by decide +kernel) (by decide)) ?_
  refine xA (ok_newa hC (show decode prog_14_method_1_code 84 = .ok (.newarray .int, 2) by decide +kernel) (by decide) (ty := .int) rfl rfl rfl (by decide) w_153 (fun _ z => by cases z)) ?_
  refine xA (ok_putF hC hin (show decode prog_14_method_1_code 86 = .ok (.putfield 39, 3) by decide +kernel) (by decide) (r0 := ("StyleCourtModel", xF13, 85)) rfl (by decide) rfl (by decide +kernel) w_1162) ?_
  refine xA (ok_aload_n hC (show decode prog_14_method_1_code 89 = .ok (.aload_n 0, 1) by decide +kernel) rfl) ?_
  refine xA (ok_sipush hC (show decode prog_14_method_1_code 90 = .ok (.sipush 1000, 3) by decide +kernel) (by decide)) ?_
  refine xA (ok_newa hC (show decode prog_14_method_1_code 93 = .ok (.newarray .int, 2) by decide +kernel) (by decide) (ty := .int) rfl rfl rfl (by decide) w_153 (fun _ z => by cases z)) ?_
  refine xA (ok_putF hC hin (show decode prog_14_method_1_code 95 = .ok (.putfield 42, 3) by decide +kernel) (by decide) (r0 := ("StyleCourtModel", xF13, 85)) rfl (by decide) rfl (by decide +kernel) w_1163) ?_
  refine xA (ok_aload_n hC (show decode prog_14_method_1_code 98 = .ok (.aload_n 0, 1) by decide +kernel) rfl) ?_
  refine xA (ok_sipush hC (show decode prog_14_method_1_code 99 = .ok (.sipush 1000, 3) by decide +kernel) (by decide)) ?_
  refine xA (ok_newa hC (show decode prog_14_method_1_code 102 = .ok (.newarray .int, 2) by decide +kernel) (by decide) (ty := .int) rfl rfl rfl (by decide) w_153 (fun _ z => by cases z)) ?_
  refine xA (ok_putF hC hin (show decode prog_14_method_1_code 104 = .ok (.putfield 45, 3) by decide +kernel) (by decide) (r0 := ("StyleCourtModel", xF13, 85)) rfl (by decide) rfl (by decide +kernel) w_1164) ?_
  refine xA (ok_aload_n hC (show decode prog_14_method_1_code 107 = .ok (.aload_n 0, 1) by decide +kernel) rfl) ?_
  refine xA (ok_sipush hC (show decode prog_14_method_1_code 108 = .ok (.sipush 1000, 3) by decide +kernel) (by decide)) ?_
  refine xA (ok_newa hC (show decode prog_14_method_1_code 111 = .ok (.newarray .int, 2) by decide +kernel) (by decide) (ty := .int) rfl rfl rfl (by decide) w_153 (fun _ z => by cases z)) ?_
  refine xA (ok_putF hC hin (show decode prog_14_method_1_code 113 = .ok (.putfield 48, 3) by decide +kernel) (by decide) (r0 := ("StyleCourtModel", xF13, 85)) rfl (by decide) rfl (by decide +kernel) w_1165) ?_
  refine xA (ok_aload_n hC (show decode prog_14_method_1_code 116 = .ok (.aload_n 0, 1) by decide +kernel) rfl) ?_
  refine xA (ok_sipush hC (show decode prog_14_method_1_code 117 = .ok (.sipush 1000, 3) by decide +kernel) (by decide)) ?_
  refine xA (ok_newa hC (show decode prog_14_method_1_code 120 = .ok (.newarray .int, 2) by decide +kernel) (by decide) (ty := .int) rfl rfl rfl (by decide) w_153 (fun _ z => by cases z)) ?_
  refine xA (ok_putF hC hin (show decode prog_14_method_1_code 122 = .ok (.putfield 51, 3) by decide +kernel) (by decide) (r0 := ("StyleCourtModel", xF13, 85)) rfl (by decide) rfl (by decide +kernel) w_1166) ?_
  refine xA (ok_aload_n hC (show decode prog_14_method_1_code 125 = .ok (.aload_n 0, 1) by decide +kernel) rfl) ?_
  refine xA (ok_sipush hC (show decode prog_14_method_1_code 126 = .ok (.sipush 1000, 3) by decide +kernel) (by decide)) ?_
  refine xA (ok_newa hC (show decode prog_14_method_1_code 129 = .ok (.newarray .int, 2) by decide +kernel) (by decide) (ty := .int) rfl rfl rfl (by decide) w_153 (fun _ z => by cases z)) ?_
  refine xA (ok_putF hC hin (show decode prog_14_method_1_code 131 = .ok (.putfield 54, 3) by decide +kernel) (by decide) (r0 := ("StyleCourtModel", xF13, 85)) rfl (by decide) rfl (by decide +kernel) w_1167) ?_
  refine xA (ok_aload_n hC (show decode prog_14_method_1_code 134 = .ok (.aload_n 0, 1) by decide +kernel) rfl) ?_
  refine xA (ok_sipush hC (show decode prog_14_method_1_code 135 = .ok (.sipush 1000, 3) by decide +kernel) (by decide)) ?_
  refine xA (ok_newa hC (show decode prog_14_method_1_code 138 = .ok (.newarray .int, 2) by decide +kernel) (by decide) (ty := .int) rfl rfl rfl (by decide) w_153 (fun _ z => by cases z)) ?_
  refine xA (ok_putF hC hin (show decode prog_14_method_1_code 140 = .ok (.putfield 57, 3) by decide +kernel) (by decide) (r0 := ("StyleCourtModel", xF13, 85)) rfl (by decide) rfl (by decide +kernel) w_1168) ?_
  refine xA (ok_aload_n hC (show decode prog_14_method_1_code 143 = .ok (.aload_n 0, 1) by decide +kernel) rfl) ?_
  refine xA (ok_sipush hC (show decode prog_14_method_1_code 144 = .ok (.sipush 1000, 3) by decide +kernel) (by decide)) ?_
  refine xA (ok_newa hC (show decode prog_14_method_1_code 147 = .ok (.newarray .int, 2) by decide +kernel) (by decide) (ty := .int) rfl rfl rfl (by decide) w_153 (fun _ z => by cases z)) ?_
  refine xA (ok_putF hC hin (show decode prog_14_method_1_code 149 = .ok (.putfield 60, 3) by decide +kernel) (by decide) (r0 := ("StyleCourtModel", xF13, 85)) rfl (by decide) rfl (by decide +kernel) w_1169) ?_
  refine xA (ok_aload_n hC (show decode prog_14_method_1_code 152 = .ok (.aload_n 0, 1) by decide +kernel) rfl) ?_
  refine xA (ok_sipush hC (show decode prog_14_method_1_code 153 = .ok (.sipush 1000, 3) by decide +kernel) (by decide)) ?_
  refine xA (ok_newa hC (show decode prog_14_method_1_code 156 = .ok (.newarray .boolean, 2) by decide +kernel) (by decide) (ty := .boolean) rfl rfl rfl (by decide) w_1401 (fun _ z => by cases z)) ?_
  refine xA (ok_putF hC hin (show decode prog_14_method_1_code 158 = .ok (.putfield 63, 3) by decide +kernel) (by decide) (r0 := ("StyleCourtModel", xF13, 85)) rfl (by decide) rfl (by decide +kernel) w_1170) ?_
  refine xA (ok_aload_n hC (show decode prog_14_method_1_code 161 = .ok (.aload_n 0, 1) by decide +kernel) rfl) ?_
  refine xA (ok_sipush hC (show decode prog_14_method_1_code 162 = .ok (.sipush 6000, 3) by decide +kernel) (by decide)) ?_
  refine xA (ok_newa hC (show decode prog_14_method_1_code 165 = .ok (.newarray .int, 2) by decide +kernel) (by decide) (ty := .int) rfl rfl rfl (by decide) w_153 (fun _ z => by cases z)) ?_
  refine xA (ok_putF hC hin (show decode prog_14_method_1_code 167 = .ok (.putfield 67, 3) by decide +kernel) (by decide) (r0 := ("StyleCourtModel", xF13, 85)) rfl (by decide) rfl (by decide +kernel) w_1171) ?_
  refine xA (ok_aload_n hC (show decode prog_14_method_1_code 170 = .ok (.aload_n 0, 1) by decide +kernel) rfl) ?_
  refine xA (ok_sipush hC (show decode prog_14_method_1_code 171 = .ok (.sipush 6000, 3) by decide +kernel) (by decide)) ?_
  refine xA (ok_newa hC (show decode prog_14_method_1_code 174 = .ok (.newarray .int, 2) by decide +kernel) (by decide) (ty := .int) rfl rfl rfl (by decide) w_153 (fun _ z => by cases z)) ?_
  refine xA (ok_putF hC hin (show decode prog_14_method_1_code 176 = .ok (.putfield 70, 3) by decide +kernel) (by decide) (r0 := ("StyleCourtModel", xF13, 85)) rfl (by decide) rfl (by decide +kernel) w_1172) ?_
  refine xA (ok_aload_n hC (show decode prog_14_method_1_code 179 = .ok (.aload_n 0, 1) by decide +kernel) rfl) ?_
  refine xA (ok_sipush hC (show decode prog_14_method_1_code 180 = .ok (.sipush 6000, 3) by decide +kernel) (by decide)) ?_
  refine xA (ok_newa hC (show decode prog_14_method_1_code 183 = .ok (.newarray .int, 2) by decide +kernel) (by decide) (ty := .int) rfl rfl rfl (by decide) w_153 (fun _ z => by cases z)) ?_
  refine xA (ok_putF hC hin (show decode prog_14_method_1_code 185 = .ok (.putfield 73, 3) by decide +kernel) (by decide) (r0 := ("StyleCourtModel", xF13, 85)) rfl (by decide) rfl (by decide +kernel) w_1173) ?_
  refine xA (ok_aload_n hC (show decode prog_14_method_1_code 188 = .ok (.aload_n 0, 1) by decide +kernel) rfl) ?_
  refine xA (ok_sipush hC (show decode prog_14_method_1_code 189 = .ok (.sipush 6000, 3) by decide +kernel) (by decide)) ?_
  refine xA (ok_newa hC (show decode prog_14_method_1_code 192 = .ok (.newarray .int, 2) by decide +kernel) (by decide) (ty := .int) rfl rfl rfl (by decide) w_153 (fun _ z => by cases z)) ?_
  refine xA (ok_putF hC hin (show decode prog_14_method_1_code 194 = .ok (.putfield 76, 3) by decide +kernel) (by decide) (r0 := ("StyleCourtModel", xF13, 85)) rfl (by decide) rfl (by decide +kernel) w_1174) ?_
  refine xA (ok_aload_n hC (show decode prog_14_method_1_code 197 = .ok (.aload_n 0, 1) by decide +kernel) rfl) ?_
  refine xA (ok_sipush hC (show decode prog_14_method_1_code 198 = .ok (.sipush 20000, 3) by decide +kernel) (by decide)) ?_
  refine xA (ok_newa hC (show decode prog_14_method_1_code 201 = .ok (.newarray .int, 2) by decide +kernel) (by decide) (ty := .int) rfl rfl rfl (by decide) w_153 (fun _ z => by cases z)) ?_
  refine xA (ok_putF hC hin (show decode prog_14_method_1_code 203 = .ok (.putfield 79, 3) by decide +kernel) (by decide) (r0 := ("StyleCourtModel", xF13, 85)) rfl (by decide) rfl (by decide +kernel) w_1175) ?_
  refine xA (ok_aload_n hC (show decode prog_14_method_1_code 206 = .ok (.aload_n 0, 1) by decide +kernel) rfl) ?_
  refine xA (ok_sipush hC (show decode prog_14_method_1_code 207 = .ok (.sipush 20000, 3) by decide +kernel) (by decide)) ?_
  refine xA (ok_newa hC (show decode prog_14_method_1_code 210 = .ok (.newarray .int, 2) by decide +kernel) (by decide) (ty := .int) rfl rfl rfl (by decide) w_153 (fun _ z => by cases z)) ?_
  refine xA (ok_putF hC hin (show decode prog_14_method_1_code 212 = .ok (.putfield 82, 3) by decide +kernel) (by decide) (r0 := ("StyleCourtModel", xF13, 85)) rfl (by decide) rfl (by decide +kernel) w_1176) ?_
  refine xA (ok_aload_n hC (show decode prog_14_method_1_code 215 = .ok (.aload_n 0, 1) by decide +kernel) rfl) ?_
  refine xA (ok_bipush hC (show decode prog_14_method_1_code 216 = .ok (.bipush 40, 2) by decide +kernel) (by decide)) ?_
  refine xA (ok_newa hC (show decode prog_14_method_1_code 218 = .ok (.newarray .int, 2) by decide +kernel) (by decide) (ty := .int) rfl rfl rfl (by decide) w_153 (fun _ z => by cases z)) ?_
  refine xA (ok_putF hC hin (show decode prog_14_method_1_code 220 = .ok (.putfield 85, 3) by decide +kernel) (by decide) (r0 := ("StyleCourtModel", xF13, 85)) rfl (by decide) rfl (by decide +kernel) w_1178) ?_
  refine xA (ok_aload_n hC (show decode prog_14_method_1_code 223 = .ok (.aload_n 0, 1) by decide +kernel) rfl) ?_
  refine xA (ok_bipush hC (show decode prog_14_method_1_code 224 = .ok (.bipush 40, 2) by decide +kernel) (by decide)) ?_
  refine xA (ok_newa hC (show decode prog_14_method_1_code 226 = .ok (.newarray .int, 2) by decide +kernel) (by decide) (ty := .int) rfl rfl rfl (by decide) w_153 (fun _ z => by cases z)) ?_
  refine xA (ok_putF hC hin (show decode prog_14_method_1_code 228 = .ok (.putfield 88, 3) by decide +kernel) (by decide) (r0 := ("StyleCourtModel", xF13, 85)) rfl (by decide) rfl (by decide +kernel) w_1179) ?_
  refine xA (ok_aload_n hC (show decode prog_14_method_1_code 231 = .ok (.aload_n 0, 1) by decide +kernel) rfl) ?_
  refine xA (ok_bipush hC (show decode prog_14_method_1_code 232 = .ok (.bipush 40, 2) by decide +kernel) (by decide)) ?_
  refine xA (ok_newa hC (show decode prog_14_method_1_code 234 = .ok (.newarray .int, 2) by decide +kernel) (by decide) (ty := .int) rfl rfl rfl (by decide) w_153 (fun _ z => by cases z)) ?_
  refine xA (ok_putF hC hin (show decode prog_14_method_1_code 236 = .ok (.putfield 91, 3) by decide +kernel) (by decide) (r0 := ("StyleCourtModel", xF13, 85)) rfl (by decide) rfl (by decide +kernel) w_1180) ?_
  refine xA (ok_aload_n hC (show decode prog_14_method_1_code 239 = .ok (.aload_n 0, 1) by decide +kernel) rfl) ?_
  refine xA (ok_bipush hC (show decode prog_14_method_1_code 240 = .ok (.bipush 40, 2) by decide +kernel) (by decide)) ?_
  refine xA (ok_newa hC (show decode prog_14_method_1_code 242 = .ok (.newarray .int, 2) by decide +kernel) (by decide) (ty := .int) rfl rfl rfl (by decide) w_153 (fun _ z => by cases z)) ?_
  refine xA (ok_putF hC hin (show decode prog_14_method_1_code 244 = .ok (.putfield 94, 3) by decide +kernel) (by decide) (r0 := ("StyleCourtModel", xF13, 85)) rfl (by decide) rfl (by decide +kernel) w_1181) ?_
  refine xA (ok_aload_n hC (show decode prog_14_method_1_code 247 = .ok (.aload_n 0, 1) by decide +kernel) rfl) ?_
  refine xA (ok_sipush hC (show decode prog_14_method_1_code 248 = .ok (.sipush 8192, 3) by decide +kernel) (by decide)) ?_
  refine xA (ok_newa hC (show decode prog_14_method_1_code 251 = .ok (.newarray .int, 2) by decide +kernel) (by decide) (ty := .int) rfl rfl rfl (by decide) w_153 (fun _ z => by cases z)) ?_
  refine xA (ok_putF hC hin (show decode prog_14_method_1_code 253 = .ok (.putfield 97, 3) by decide +kernel) (by decide) (r0 := ("StyleCourtModel", xF13, 85)) rfl (by decide) rfl (by decide +kernel) w_1186) ?_
  refine xA (ok_aload_n hC (show decode prog_14_method_1_code 256 = .ok (.aload_n 0, 1) by decide +kernel) rfl) ?_
  refine xA (ok_sipush hC (show decode prog_14_method_1_code 257 = .ok (.sipush 500, 3) by decide +kernel) (by decide)) ?_
  refine xA (ok_newa hC (show decode prog_14_method_1_code 260 = .ok (.newarray .int, 2) by decide +kernel) (by decide) (ty := .int) rfl rfl rfl (by decide) w_153 (fun _ z => by cases z)) ?_
  refine xA (ok_putF hC hin (show decode prog_14_method_1_code 262 = .ok (.putfield 100, 3) by decide +kernel) (by decide) (r0 := ("StyleCourtModel", xF13, 85)) rfl (by decide) rfl (by decide +kernel) w_1188) ?_
  refine xA (ok_aload_n hC (show decode prog_14_method_1_code 265 = .ok (.aload_n 0, 1) by decide +kernel) rfl) ?_
  refine xA (ok_bipush hC (show decode prog_14_method_1_code 266 = .ok (.bipush 123, 2) by decide +kernel) (by decide)) ?_
  refine xA (ok_newa hC (show decode prog_14_method_1_code 268 = .ok (.newarray .int, 2) by decide +kernel) (by decide) (ty := .int) rfl rfl rfl (by decide) w_153 (fun _ z => by cases z)) ?_
  refine xA (ok_putF hC hin (show decode prog_14_method_1_code 270 = .ok (.putfield 103, 3) by decide +kernel) (by decide) (r0 := ("StyleCourtModel", xF13, 85)) rfl (by decide) rfl (by decide +kernel) w_1198) ?_
  refine xA (ok_aload_n hC (show decode prog_14_method_1_code 273 = .ok (.aload_n 0, 1) by decide +kernel) rfl) ?_
  refine xA (ok_bipush hC (show decode prog_14_method_1_code 274 = .ok (.bipush 123, 2) by decide +kernel) (by decide)) ?_
  refine xA (ok_newa hC (show decode prog_14_method_1_code 276 = .ok (.newarray .int, 2) by decide +kernel) (by decide) (ty := .int) rfl rfl rfl (by decide) w_153 (fun _ z => by cases z)) ?_
  refine xA (ok_putF hC hin (show decode prog_14_method_1_code 278 = .ok (.putfield 106, 3) by decide +kernel) (by decide) (r0 := ("StyleCourtModel", xF13, 85)) rfl (by decide) rfl (by decide +kernel) w_1199) ?_
  refine xA (ok_aload_n hC (show decode prog_14_method_1_code 281 = .ok (.aload_n 0, 1) by decide +kernel) rfl) ?_
  refine xA (ok_bipush hC (show decode prog_14_method_1_code 282 = .ok (.bipush 123, 2) by decide +kernel) (by decide)) ?_
  refine xA (ok_newa hC (show decode prog_14_method_1_code 284 = .ok (.newarray .int, 2) by decide +kernel) (by decide) (ty := .int) rfl rfl rfl (by decide) w_153 (fun _ z => by cases z)) ?_
  refine xA (ok_putF hC hin (show decode prog_14_method_1_code 286 = .ok (.putfield 109, 3) by decide +kernel) (by decide) (r0 := ("StyleCourtModel", xF13, 85)) rfl (by decide) rfl (by decide +kernel) w_1200) ?_
  refine xA (ok_aload_n hC (show decode prog_14_method_1_code 289 = .ok (.aload_n 0, 1) by decide +kernel) rfl) ?_
  refine xA (ok_bipush hC (show decode prog_14_method_1_code 290 = .ok (.bipush 123, 2) by decide +kernel) (by decide)) ?_
  refine xA (ok_newa hC (show decode prog_14_method_1_code 292 = .ok (.newarray .int, 2) by decide +kernel) (by decide) (ty := .int) rfl rfl rfl (by decide) w_153 (fun _ z => by cases z)) ?_
  refine xA (ok_putF hC hin (show decode prog_14_method_1_code 294 = .ok (.putfield 112, 3) by decide +kernel) (by decide) (r0 := ("StyleCourtModel", xF13, 85)) rfl (by decide) rfl (by decide +kernel) w_1201) ?_
  refine xA (ok_aload_n hC (show decode prog_14_method_1_code 297 = .ok (.aload_n 0, 1) by decide +kernel) rfl) ?_
  refine xA (ok_sipush hC (show decode prog_14_method_1_code 298 = .ok (.sipush 1000, 3) by decide +kernel) (by decide)) ?_
  refine xA (ok_newa hC (show decode prog_14_method_1_code 301 = .ok (.newarray .int, 2) by decide +kernel) (by decide) (ty := .int) rfl rfl rfl (by decide) w_153 (fun _ z => by cases z)) ?_
  refine xA (ok_putF hC hin (show decode prog_14_method_1_code 303 = .ok (.putfield 115, 3) by decide +kernel) (by decide) (r0 := ("StyleCourtModel", xF13, 85)) rfl (by decide) rfl (by decide +kernel) w_1202) ?_
  refine xA (ok_aload_n hC (show decode prog_14_method_1_code 306 = .ok (.aload_n 0, 1) by decide +kernel) rfl) ?_
  refine xA (ok_sipush hC (show decode prog_14_method_1_code 307 = .ok (.sipush 1000, 3) by decide +kernel) (by decide)) ?_
  refine xA (ok_newa hC (show decode prog_14_method_1_code 310 = .ok (.newarray .int, 2) by decide +kernel) (by decide) (ty := .int) rfl rfl rfl (by decide) w_153 (fun _ z => by cases z)) ?_
  refine xA (ok_putF hC hin (show decode prog_14_method_1_code 312 = .ok (.putfield 118, 3) by decide +kernel) (by decide) (r0 := ("StyleCourtModel", xF13, 85)) rfl (by decide) rfl (by decide +kernel) w_1203) ?_
  refine xA (ok_aload_n hC (show decode prog_14_method_1_code 315 = .ok (.aload_n 0, 1) by decide +kernel) rfl) ?_
  refine xA (ok_sipush hC (show decode prog_14_method_1_code 316 = .ok (.sipush 1000, 3) by decide +kernel) (by decide)) ?_
  refine xA (ok_newa hC (show decode prog_14_method_1_code 319 = .ok (.newarray .int, 2) by decide +kernel) (by decide) (ty := .int) rfl rfl rfl (by decide) w_153 (fun _ z => by cases z)) ?_
  refine xA (ok_putF hC hin (show decode prog_14_method_1_code 321 = .ok (.putfield 121, 3) by decide +kernel) (by decide) (r0 := ("StyleCourtModel", xF13, 85)) rfl (by decide) rfl (by decide +kernel) w_1204) ?_
  refine xA (ok_aload_n hC (show decode prog_14_method_1_code 324 = .ok (.aload_n 0, 1) by decide +kernel) rfl) ?_
  refine xA (ok_sipush hC (show decode prog_14_method_1_code 325 = .ok (.sipush 1000, 3) by decide +kernel) (by decide)) ?_
  refine xA (ok_newa hC (show decode prog_14_method_1_code 328 = .ok (.newarray .int, 2) by decide +kernel) (by decide) (ty := .int) rfl rfl rfl (by decide) w_153 (fun _ z => by cases z)) ?_
  refine xA (ok_putF hC hin (show decode prog_14_method_1_code 330 = .ok (.putfield 124, 3) by decide +kernel) (by decide) (r0 := ("StyleCourtModel", xF13, 85)) rfl (by decide) rfl (by decide +kernel) w_1205) ?_
  refine xA (ok_aload_n hC (show decode prog_14_method_1_code 333 = .ok (.aload_n 0, 1) by decide +kernel) rfl) ?_
  refine xA (ok_sipush hC (show decode prog_14_method_1_code 334 = .ok (.sipush 1000, 3) by decide +kernel) (by decide)) ?_
  refine xA (ok_newa hC (show decode prog_14_method_1_code 337 = .ok (.newarray .int, 2) by decide +kernel) (by decide) (ty := .int) rfl rfl rfl (by decide) w_153 (fun _ z => by cases z)) ?_
  refine xA (ok_putF hC hin (show decode prog_14_method_1_code 339 = .ok (.putfield 127, 3) by decide +kernel) (by decide) (r0 := ("StyleCourtModel", xF13, 85)) rfl (by decide) rfl (by decide +kernel) w_1206) ?_
  refine xA (ok_aload_n hC (show decode prog_14_method_1_code 342 = .ok (.aload_n 0, 1) by decide +kernel) rfl) ?_
  refine xA (ok_sipush hC (show decode prog_14_method_1_code 343 = .ok (.sipush 4000, 3) by decide +kernel) (by decide)) ?_
  refine xA (ok_newa hC (show decode prog_14_method_1_code 346 = .ok (.newarray .int, 2) by decide +kernel) (by decide) (ty := .int) rfl rfl rfl (by decide) w_153 (fun _ z => by cases z)) ?_
  refine xA (ok_putF hC hin (show decode prog_14_method_1_code 348 = .ok (.putfield 130, 3) by decide +kernel) (by decide) (r0 := ("StyleCourtModel", xF13, 85)) rfl (by decide) rfl (by decide +kernel) w_1207) ?_
  refine xA (ok_aload_n hC (show decode prog_14_method_1_code 351 = .ok (.aload_n 0, 1) by decide +kernel) rfl) ?_
  refine xA (ok_sipush hC (show decode prog_14_method_1_code 352 = .ok (.sipush 4000, 3) by decide +kernel) (by decide)) ?_
  refine xA (ok_newa hC (show decode prog_14_method_1_code 355 = .ok (.newarray .int, 2) by decide +kernel) (by decide) (ty := .int) rfl rfl rfl (by decide) w_153 (fun _ z => by cases z)) ?_
  refine xA (ok_putF hC hin (show decode prog_14_method_1_code 357 = .ok (.putfield 133, 3) by decide +kernel) (by decide) (r0 := ("StyleCourtModel", xF13, 85)) rfl (by decide) rfl (by decide +kernel) w_1208) ?_
  refine xA (ok_aload_n hC (show decode prog_14_method_1_code 360 = .ok (.aload_n 0, 1) by decide +kernel) rfl) ?_
  refine xA (ok_sipush hC (show decode prog_14_method_1_code 361 = .ok (.sipush 4000, 3) by decide +kernel) (by decide)) ?_
  refine xA (ok_newa hC (show decode prog_14_method_1_code 364 = .ok (.newarray .int, 2) by decide +kernel) (by decide) (ty := .int) rfl rfl rfl (by decide) w_153 (fun _ z => by cases z)) ?_
  refine xA (ok_putF hC hin (show decode prog_14_method_1_code 366 = .ok (.putfield 136, 3) by decide +kernel) (by decide) (r0 := ("StyleCourtModel", xF13, 85)) rfl (by decide) rfl (by decide +kernel) w_1209) ?_
  refine xA (ok_aload_n hC (show decode prog_14_method_1_code 369 = .ok (.aload_n 0, 1) by decide +kernel) rfl) ?_
  refine xA (ok_sipush hC (show decode prog_14_method_1_code 370 = .ok (.sipush 4000, 3) by decide +kernel) (by decide)) ?_
  refine xA (ok_newa hC (show decode prog_14_method_1_code 373 = .ok (.newarray .int, 2) by decide +kernel) (by decide) (ty := .int) rfl rfl rfl (by decide) w_153 (fun _ z => by cases z)) ?_
  refine xA (ok_putF hC hin (show decode prog_14_method_1_code 375 = .ok (.putfield 139, 3) by decide +kernel) (by decide) (r0 := ("StyleCourtModel", xF13, 85)) rfl (by decide) rfl (by decide +kernel) w_1210) ?_
  refine xA (ok_aload_n hC (show decode prog_14_method_1_code 378 = .ok (.aload_n 0, 1) by decide +kernel) rfl) ?_
  refine xA (ok_sipush hC (show decode prog_14_method_1_code 379 = .ok (.sipush 4000, 3) by decide +kernel) (by decide)) ?_
  refine xA (ok_newa hC (show decode prog_14_method_1_code 382 = .ok (.newarray .int, 2) by decide +kernel) (by decide) (ty := .int) rfl rfl rfl (by decide) w_153 (fun _ z => by cases z)) ?_
  refine xA (ok_putF hC hin (show decode prog_14_method_1_code 384 = .ok (.putfield 142, 3) by decide +kernel) (by decide) (r0 := ("StyleCourtModel", xF13, 85)) rfl (by decide) rfl (by decide +kernel) w_1211) ?_
  refine xA (ok_aload_n hC (show decode prog_14_method_1_code 387 = .ok (.aload_n 0, 1) by decide +kernel) rfl) ?_
  refine xA (ok_sipush hC (show decode prog_14_method_1_code 388 = .ok (.sipush 4000, 3) by decide +kernel) (by decide)) ?_
  refine xA (ok_newa hC (show decode prog_14_method_1_code 391 = .ok (.newarray .int, 2) by decide +kernel) (by decide) (ty := .int) rfl rfl rfl (by decide) w_153 (fun _ z => by cases z)) ?_
  refine xA (ok_putF hC hin (show decode prog_14_method_1_code 393 = .ok (.putfield 145, 3) by decide +kernel) (by decide) (r0 := ("StyleCourtModel", xF13, 85)) rfl (by decide) rfl (by decide +kernel) w_1212) ?_
  refine xA (ok_aload_n hC (show decode prog_14_method_1_code 396 = .ok (.aload_n 0, 1) by decide +kernel) rfl) ?_
  refine xA (ok_sipush hC (show decode prog_14_method_1_code 397 = .ok (.sipush 600, 3) by decide +kernel) (by decide)) ?_
  refine xA (ok_newa hC (show decode prog_14_method_1_code 400 = .ok (.newarray .int, 2) by decide +kernel) (by decide) (ty := .int) rfl rfl rfl (by decide) w_153 (fun _ z => by cases z)) ?_
  refine xA (ok_putF hC hin (show decode prog_14_method_1_code 402 = .ok (.putfield 148, 3) by decide +kernel) (by decide) (r0 := ("StyleCourtModel", xF13, 85)) rfl (by decide) rfl (by decide +kernel) w_1215) ?_
  refine xA (ok_aload_n hC (show decode prog_14_method_1_code 405 = .ok (.aload_n 0, 1) by decide +kernel) rfl) ?_
  refine xA (ok_sipush hC (show decode prog_14_method_1_code 406 = .ok (.sipush 600, 3) by decide +kernel) (by decide)) ?_
  refine xA (ok_newa hC (show decode prog_14_method_1_code 409 = .ok (.newarray .int, 2) by decide +kernel) (by decide) (ty := .int) rfl rfl rfl (by decide) w_153 (fun _ z => by cases z)) ?_
  refine xA (ok_putF hC hin (show decode prog_14_method_1_code 411 = .ok (.putfield 151, 3) by decide +kernel) (by decide) (r0 := ("StyleCourtModel", xF13, 85)) rfl (by decide) rfl (by decide +kernel) w_1216) ?_
  refine xA (ok_aload_n hC (show decode prog_14_method_1_code 414 = .ok (.aload_n 0, 1) by decide +kernel) rfl) ?_
  refine xA (ok_sipush hC (show decode prog_14_method_1_code 415 = .ok (.sipush 600, 3) by decide +kernel) (by decide)) ?_
  refine xA (ok_newa hC (show decode prog_14_method_1_code 418 = .ok (.newarray .int, 2) by decide +kernel) (by decide) (ty := .int) rfl rfl rfl (by decide) w_153 (fun _ z => by cases z)) ?_
  refine xA (ok_putF hC hin (show decode prog_14_method_1_code 420 = .ok (.putfield 154, 3) by decide +kernel) (by decide) (r0 := ("StyleCourtModel", xF13, 85)) rfl (by decide) rfl (by decide +kernel) w_1217) ?_
  refine xA (ok_aload_n hC (show decode prog_14_method_1_code 423 = .ok (.aload_n 0, 1) by decide +kernel) rfl) ?_
  refine xA (ok_sipush hC (show decode prog_14_method_1_code 424 = .ok (.sipush 600, 3) by decide +kernel) (by decide)) ?_
  refine xA (ok_newa hC (show decode prog_14_method_1_code 427 = .ok (.newarray .int, 2) by decide +kernel) (by decide) (ty := .int) rfl rfl rfl (by decide) w_153 (fun _ z => by cases z)) ?_
  refine xA (ok_putF hC hin (show decode prog_14_method_1_code 429 = .ok (.putfield 157, 3) by decide +kernel) (by decide) (r0 := ("StyleCourtModel", xF13, 85)) rfl (by decide) rfl (by decide +kernel) w_1218) ?_
  refine xA (ok_aload_n hC (show decode prog_14_method_1_code 432 = .ok (.aload_n 0, 1) by decide +kernel) rfl) ?_
  refine xA (ok_sipush hC (show decode prog_14_method_1_code 433 = .ok (.sipush 600, 3) by decide +kernel) (by decide)) ?_
  refine xA (ok_newa hC (show decode prog_14_method_1_code 436 = .ok (.newarray .int, 2) by decide +kernel) (by decide) (ty := .int) rfl rfl rfl (by decide) w_153 (fun _ z => by cases z)) ?_
  refine xA (ok_putF hC hin (show decode prog_14_method_1_code 438 = .ok (.putfield 160, 3) by decide +kernel) (by decide) (r0 := ("StyleCourtModel", xF13, 85)) rfl (by decide) rfl (by decide +kernel) w_1219) ?_
  refine xA (ok_aload_n hC (show decode prog_14_method_1_code 441 = .ok (.aload_n 0, 1) by decide +kernel) rfl) ?_
  refine xA (ok_sipush hC (show decode prog_14_method_1_code 442 = .ok (.sipush 600, 3) by decide +kernel) (by decide)) ?_
  refine xA (ok_newa hC (show decode prog_14_method_1_code 445 = .ok (.newarray .int, 2) by decide +kernel) (by decide) (ty := .int) rfl rfl rfl (by decide) w_153 (fun _ z => by cases z)) ?_
  refine xA (ok_putF hC hin (show decode prog_14_method_1_code 447 = .ok (.putfield 163, 3) by decide +kernel) (by decide) (r0 := ("StyleCourtModel", xF13, 85)) rfl (by decide) rfl (by decide +kernel) w_1220) ?_
  refine xA (ok_aload_n hC (show decode prog_14_method_1_code 450 = .ok (.aload_n 0, 1) by decide +kernel) rfl) ?_
  refine xA (ok_sipush hC (show decode prog_14_method_1_code 451 = .ok (.sipush 600, 3) by decide +kernel) (by decide)) ?_
  refine xA (ok_newa hC (show decode prog_14_method_1_code 454 = .ok (.newarray .boolean, 2) by decide +kernel) (by decide) (ty := .boolean) rfl rfl rfl (by decide) w_1401 (fun _ z => by cases z)) ?_
  refine xA (ok_putF hC hin (show decode prog_14_method_1_code 456 = .ok (.putfield 166, 3) by decide +kernel) (by decide) (r0 := ("StyleCourtModel", xF13, 85)) rfl (by decide) rfl (by decide +kernel) w_1221) ?_
  refine xA (ok_aload_n hC (show decode prog_14_method_1_code 459 = .ok (.aload_n 0, 1) by decide +kernel) rfl) ?_
  refine xA (ok_bipush hC (show decode prog_14_method_1_code 460 = .ok (.bipush 30, 2) by decide +kernel) (by decide)) ?_
  refine xA (ok_newa hC (show decode prog_14_method_1_code 462 = .ok (.newarray .int, 2) by decide +kernel) (by decide) (ty := .int) rfl rfl rfl (by decide) w_153 (fun _ z => by cases z)) ?_
  refine xA (ok_putF hC hin (show decode prog_14_method_1_code 464 = .ok (.putfield 169, 3) by decide +kernel) (by decide) (r0 := ("StyleCourtModel", xF13, 85)) rfl (by decide) rfl (by decide +kernel) w_1222) ?_
  refine xA (ok_aload_n hC (show decode prog_14_method_1_code 467 = .ok (.aload_n 0, 1) by decide +kernel) rfl) ?_
  refine xA (ok_bipush hC (show decode prog_14_method_1_code 468 = .ok (.bipush 30, 2) by decide +kernel) (by decide)) ?_
  refine xA (ok_newa hC (show decode prog_14_method_1_code 470 = .ok (.newarray .int, 2) by decide +kernel) (by decide) (ty := .int) rfl rfl rfl (by decide) w_153 (fun _ z => by cases z)) ?_
  refine xA (ok_putF hC hin (show decode prog_14_method_1_code 472 = .ok (.putfield 172, 3) by decide +kernel) (by decide) (r0 := ("StyleCourtModel", xF13, 85)) rfl (by decide) rfl (by decide +kernel) w_1223) ?_
  refine xA (ok_aload_n hC (show decode prog_14_method_1_code 475 = .ok (.aload_n 0, 1) by decide +kernel) rfl) ?_
  refine xA (ok_sipush hC (show decode prog_14_method_1_code 476 = .ok (.sipush 500, 3) by decide +kernel) (by decide)) ?_
  refine xA (ok_newa hC (show decode prog_14_method_1_code 479 = .ok (.newarray .boolean, 2) by decide +kernel) (by decide) (ty := .boolean) rfl rfl rfl (by decide) w_1401 (fun _ z => by cases z)) ?_
  refine xA (ok_putF hC hin (show decode prog_14_method_1_code 481 = .ok (.putfield 175, 3) by decide +kernel) (by decide) (r0 := ("StyleCourtModel", xF13, 85)) rfl (by decide) rfl (by decide +kernel) w_1225) ?_
  refine xA (ok_aload_n hC (show decode prog_14_method_1_code 484 = .ok (.aload_n 0, 1) by decide +kernel) rfl) ?_
  refine xA (ok_sipush hC (show decode prog_14_method_1_code 485 = .ok (.sipush 500, 3) by decide +kernel) (by decide)) ?_
  refine xA (ok_newa hC (show decode prog_14_method_1_code 488 = .ok (.newarray .boolean, 2) by decide +kernel) (by decide) (ty := .boolean) rfl rfl rfl (by decide) w_1401 (fun _ z => by cases z)) ?_
  refine xA (ok_putF hC hin (show decode prog_14_method_1_code 490 = .ok (.putfield 178, 3) by decide +kernel) (by decide) (r0 := ("StyleCourtModel", xF13, 85)) rfl (by decide) rfl (by decide +kernel) w_1226) ?_
  refine xA (ok_aload_n hC (show decode prog_14_method_1_code 493 = .ok (.aload_n 0, 1) by decide +kernel) rfl) ?_
  refine xA (ok_bipush hC (show decode prog_14_method_1_code 494 = .ok (.bipush 120, 2) by decide +kernel) (by decide)) ?_
  refine xA (ok_newa hC (show decode prog_14_method_1_code 496 = .ok (.newarray .boolean, 2) by decide +kernel) (by decide) (ty := .boolean) rfl rfl rfl (by decide) w_1401 (fun _ z => by cases z)) ?_
  refine xA (ok_putF hC hin (show decode prog_14_method_1_code 498 = .ok (.putfield 181, 3) by decide +kernel) (by decide) (r0 := ("StyleCourtModel", xF13, 85)) rfl (by decide) rfl (by decide +kernel) w_1227) ?_
  refine xA (ok_aload_n hC (show decode prog_14_method_1_code 501 = .ok (.aload_n 0, 1) by decide +kernel) rfl) ?_
  refine xA (ok_bipush hC (show decode prog_14_method_1_code 502 = .ok (.bipush 24, 2) by decide +kernel) (by decide)) ?_
  refine xA (ok_newa hC (show decode prog_14_method_1_code 504 = .ok (.newarray .int, 2) by decide +kernel) (by decide) (ty := .int) rfl rfl rfl (by decide) w_153 (fun _ z => by cases z)) ?_
  refine xA (ok_putF hC hin (show decode prog_14_method_1_code 506 = .ok (.putfield 184, 3) by decide +kernel) (by decide) (r0 := ("StyleCourtModel", xF13, 85)) rfl (by decide) rfl (by decide +kernel) w_1228) ?_
  refine xA (ok_vret hC hr (show decode prog_14_method_1_code 509 = .ok (.return_, 1) by decide +kernel)) ?_
  exact trivial

def tb_Mo_thrown (X : xX) : List (Nat × xOp) := [(0, o_ald 0 1),
  (1, o_get 13 0 4),
  (4, o_iret X.P)]
theorem tk_Mo_thrown {X : xX} (hC : xCx X prog_14_method_2_code "StyleCourtModel" 1 0) (hr : X.meth.sig.returnType = (some .int)) (hnh : X.c.exceptionTable.isEmpty = true) (hin : X.meth.name = "thrown") : xAll X (tb_Mo_thrown X) := by
  refine xA (ok_aload_n hC (show decode prog_14_method_2_code 0 = .ok (.aload_n 0, 1) by decide +kernel) rfl) ?_
  refine xA (ok_get hC (show decode prog_14_method_2_code 1 = .ok (.getfield 187, 3) by decide +kernel) (by decide) (r0 := ("StyleCourtModel", xF13, 85)) rfl (by decide) rfl w_1145) ?_
  refine xA (ok_iret hC hr (show decode prog_14_method_2_code 4 = .ok (.ireturn, 1) by decide +kernel)) ?_
  exact trivial

def tb_Mo_feed (X : xX) : List (Nat × xOp) := [(0, o_ald 0 1),
  (1, o_get 13 2 4),
  (4, o_ic 20 6),
  (6, o_iadd 7),
  (7, o_ic 8192 10),
  (10, o_icle 19 13),
  (13, o_ald 0 14),
  (14, o_ic 1 15),
  (15, o_callV X.l X.D X.P 13 0 2 y_Mo_refuse 18),
  (18, o_iret X.P),
  (19, o_ald 0 20),
  (20, o_ic 0 21),
  (21, o_put 13 0 (.int) 24),
  (24, o_ald 0 25),
  (25, o_ild 1 26),
  (26, o_callV X.l X.D X.P 13 0 2 y_Mo_four 29),
  (29, o_ald 0 30),
  (30, o_ild 2 31),
  (31, o_callV X.l X.D X.P 13 0 2 y_Mo_four 34),
  (34, o_ald 0 35),
  (35, o_ild 3 36),
  (36, o_callV X.l X.D X.P 13 0 2 y_Mo_four 39),
  (39, o_ald 0 40),
  (40, o_ild 4 42),
  (42, o_callV X.l X.D X.P 13 0 2 y_Mo_four 45),
  (45, o_ald 0 46),
  (46, o_ild 5 48),
  (48, o_callV X.l X.D X.P 13 0 2 y_Mo_four 51),
  (51, o_ald 0 52),
  (52, o_get 13 2 55),
  (55, o_iret X.P)]
theorem tk_Mo_feed {X : xX} (hC : xCx X prog_14_method_8_code "StyleCourtModel" 6 1) (hr : X.meth.sig.returnType = (some .int)) (hnh : X.c.exceptionTable.isEmpty = true) (hin : X.meth.name = "feed") : xAll X (tb_Mo_feed X) := by
  refine xA (ok_aload_n hC (show decode prog_14_method_8_code 0 = .ok (.aload_n 0, 1) by decide +kernel) rfl) ?_
  refine xA (ok_get hC (show decode prog_14_method_8_code 1 = .ok (.getfield 190, 3) by decide +kernel) (by decide) (r0 := ("StyleCourtModel", xF13, 85)) rfl (by decide) rfl w_1147) ?_
  refine xA (ok_bipush hC (show decode prog_14_method_8_code 4 = .ok (.bipush 20, 2) by decide +kernel) (by decide)) ?_
  refine xA (ok_iadd hC (show decode prog_14_method_8_code 6 = .ok (.iadd, 1) by decide +kernel)) ?_
  refine xA (ok_sipush hC (show decode prog_14_method_8_code 7 = .ok (.sipush 8192, 3) by decide +kernel) (by decide)) ?_
  refine xA (ok_icle hC (show decode prog_14_method_8_code 10 = .ok (.if_icmp .le 9, 3) by decide +kernel) (by decide)) ?_
  refine xA (ok_aload_n hC (show decode prog_14_method_8_code 13 = .ok (.aload_n 0, 1) by decide +kernel) rfl) ?_
  refine xA (ok_iconst hC (show decode prog_14_method_8_code 14 = .ok (.iconst 1, 1) by decide +kernel) (by decide)) ?_
  refine xA (ok_callV hC hnh (show decode prog_14_method_8_code 15 = .ok (.invokevirtual 193, 3) by decide +kernel) (by decide) (by decide) (by decide) (r0 := ("StyleCourtModel", xF13, 85)) rfl ⟨by decide, by decide, by decide +kernel⟩ w_1413 w_83 w_1410 w_1412 w_25) ?_
  refine xA (ok_iret hC hr (show decode prog_14_method_8_code 18 = .ok (.ireturn, 1) by decide +kernel)) ?_
  refine xA (ok_aload_n hC (show decode prog_14_method_8_code 19 = .ok (.aload_n 0, 1) by decide +kernel) rfl) ?_
  refine xA (ok_iconst hC (show decode prog_14_method_8_code 20 = .ok (.iconst 0, 1) by decide +kernel) (by decide)) ?_
  refine xA (ok_put hC (show decode prog_14_method_8_code 21 = .ok (.putfield 187, 3) by decide +kernel) (by decide) (r0 := ("StyleCourtModel", xF13, 85)) rfl (by decide) rfl (by decide +kernel) w_1145) ?_
  refine xA (ok_aload_n hC (show decode prog_14_method_8_code 24 = .ok (.aload_n 0, 1) by decide +kernel) rfl) ?_
  refine xA (ok_iload_n hC (show decode prog_14_method_8_code 25 = .ok (.iload_n 1, 1) by decide +kernel) rfl) ?_
  refine xA (ok_callV hC hnh (show decode prog_14_method_8_code 26 = .ok (.invokevirtual 197, 3) by decide +kernel) (by decide) (by decide) (by decide) (r0 := ("StyleCourtModel", xF13, 85)) rfl ⟨by decide, by decide, by decide +kernel⟩ w_1417 w_83 w_1414 w_1416 w_26) ?_
  refine xA (ok_aload_n hC (show decode prog_14_method_8_code 29 = .ok (.aload_n 0, 1) by decide +kernel) rfl) ?_
  refine xA (ok_iload_n hC (show decode prog_14_method_8_code 30 = .ok (.iload_n 2, 1) by decide +kernel) rfl) ?_
  refine xA (ok_callV hC hnh (show decode prog_14_method_8_code 31 = .ok (.invokevirtual 197, 3) by decide +kernel) (by decide) (by decide) (by decide) (r0 := ("StyleCourtModel", xF13, 85)) rfl ⟨by decide, by decide, by decide +kernel⟩ w_1417 w_83 w_1414 w_1416 w_26) ?_
  refine xA (ok_aload_n hC (show decode prog_14_method_8_code 34 = .ok (.aload_n 0, 1) by decide +kernel) rfl) ?_
  refine xA (ok_iload_n hC (show decode prog_14_method_8_code 35 = .ok (.iload_n 3, 1) by decide +kernel) rfl) ?_
  refine xA (ok_callV hC hnh (show decode prog_14_method_8_code 36 = .ok (.invokevirtual 197, 3) by decide +kernel) (by decide) (by decide) (by decide) (r0 := ("StyleCourtModel", xF13, 85)) rfl ⟨by decide, by decide, by decide +kernel⟩ w_1417 w_83 w_1414 w_1416 w_26) ?_
  refine xA (ok_aload_n hC (show decode prog_14_method_8_code 39 = .ok (.aload_n 0, 1) by decide +kernel) rfl) ?_
  refine xA (ok_iload hC (show decode prog_14_method_8_code 40 = .ok (.iload 4, 2) by decide +kernel)) ?_
  refine xA (ok_callV hC hnh (show decode prog_14_method_8_code 42 = .ok (.invokevirtual 197, 3) by decide +kernel) (by decide) (by decide) (by decide) (r0 := ("StyleCourtModel", xF13, 85)) rfl ⟨by decide, by decide, by decide +kernel⟩ w_1417 w_83 w_1414 w_1416 w_26) ?_
  refine xA (ok_aload_n hC (show decode prog_14_method_8_code 45 = .ok (.aload_n 0, 1) by decide +kernel) rfl) ?_
  refine xA (ok_iload hC (show decode prog_14_method_8_code 46 = .ok (.iload 5, 2) by decide +kernel)) ?_
  refine xA (ok_callV hC hnh (show decode prog_14_method_8_code 48 = .ok (.invokevirtual 197, 3) by decide +kernel) (by decide) (by decide) (by decide) (r0 := ("StyleCourtModel", xF13, 85)) rfl ⟨by decide, by decide, by decide +kernel⟩ w_1417 w_83 w_1414 w_1416 w_26) ?_
  refine xA (ok_aload_n hC (show decode prog_14_method_8_code 51 = .ok (.aload_n 0, 1) by decide +kernel) rfl) ?_
  refine xA (ok_get hC (show decode prog_14_method_8_code 52 = .ok (.getfield 190, 3) by decide +kernel) (by decide) (r0 := ("StyleCourtModel", xF13, 85)) rfl (by decide) rfl w_1147) ?_
  refine xA (ok_iret hC hr (show decode prog_14_method_8_code 55 = .ok (.ireturn, 1) by decide +kernel)) ?_
  exact trivial

def tb_Mo_refuse (X : xX) : List (Nat × xOp) := [(0, o_ald 0 1),
  (1, o_ild 1 2),
  (2, o_put 13 0 (.int) 5),
  (5, o_ic 0 6),
  (6, o_iret X.P)]
theorem tk_Mo_refuse {X : xX} (hC : xCx X prog_14_method_3_code "StyleCourtModel" 2 0) (hr : X.meth.sig.returnType = (some .int)) (hnh : X.c.exceptionTable.isEmpty = true) (hin : X.meth.name = "refuse") : xAll X (tb_Mo_refuse X) := by
  refine xA (ok_aload_n hC (show decode prog_14_method_3_code 0 = .ok (.aload_n 0, 1) by decide +kernel) rfl) ?_
  refine xA (ok_iload_n hC (show decode prog_14_method_3_code 1 = .ok (.iload_n 1, 1) by decide +kernel) rfl) ?_
  refine xA (ok_put hC (show decode prog_14_method_3_code 2 = .ok (.putfield 187, 3) by decide +kernel) (by decide) (r0 := ("StyleCourtModel", xF13, 85)) rfl (by decide) rfl (by decide +kernel) w_1145) ?_
  refine xA (ok_iconst hC (show decode prog_14_method_3_code 5 = .ok (.iconst 0, 1) by decide +kernel) (by decide)) ?_
  refine xA (ok_iret hC hr (show decode prog_14_method_3_code 6 = .ok (.ireturn, 1) by decide +kernel)) ?_
  exact trivial

def tb_Mo_four (X : xX) : List (Nat × xOp) := [(0, o_ic 24 2),
  (2, o_ist 2 3),
  (3, o_ild 2 4),
  (4, o_iflt 39 7),
  (7, o_ald 0 8),
  (8, o_get 13 1 11),
  (11, o_ald 0 12),
  (12, o_get 13 2 15),
  (15, o_ild 1 16),
  (16, o_ild 2 17),
  (17, o_ishr 18),
  (18, o_ic 255 21),
  (21, o_iand 22),
  (22, o_iast 0 23),
  (23, o_ald 0 24),
  (24, o_dup 25),
  (25, o_get 13 2 28),
  (28, o_ic 1 29),
  (29, o_iadd 30),
  (30, o_put 13 2 (.int) 33),
  (33, o_inc 2 (-8) 36),
  (36, o_goto 3),
  (39, o_vret X.P)]
theorem tk_Mo_four {X : xX} (hC : xCx X prog_14_method_9_code "StyleCourtModel" 3 0) (hr : X.meth.sig.returnType = none) (hnh : X.c.exceptionTable.isEmpty = true) (hin : X.meth.name = "four") : xAll X (tb_Mo_four X) := by
  refine xA (ok_bipush hC (show decode prog_14_method_9_code 0 = .ok (.bipush 24, 2) by decide +kernel) (by decide)) ?_
  refine xA (ok_istore_n hC (show decode prog_14_method_9_code 2 = .ok (.istore_n 2, 1) by decide +kernel) rfl (by decide)) ?_
  refine xA (ok_iload_n hC (show decode prog_14_method_9_code 3 = .ok (.iload_n 2, 1) by decide +kernel) rfl) ?_
  refine xA (ok_iflt hC (show decode prog_14_method_9_code 4 = .ok (.ifCond .lt 35, 3) by decide +kernel) (by decide)) ?_
  refine xA (ok_aload_n hC (show decode prog_14_method_9_code 7 = .ok (.aload_n 0, 1) by decide +kernel) rfl) ?_
  refine xA (ok_get hC (show decode prog_14_method_9_code 8 = .ok (.getfield 7, 3) by decide +kernel) (by decide) (r0 := ("StyleCourtModel", xF13, 85)) rfl (by decide) rfl w_1146) ?_
  refine xA (ok_aload_n hC (show decode prog_14_method_9_code 11 = .ok (.aload_n 0, 1) by decide +kernel) rfl) ?_
  refine xA (ok_get hC (show decode prog_14_method_9_code 12 = .ok (.getfield 190, 3) by decide +kernel) (by decide) (r0 := ("StyleCourtModel", xF13, 85)) rfl (by decide) rfl w_1147) ?_
  refine xA (ok_iload_n hC (show decode prog_14_method_9_code 15 = .ok (.iload_n 1, 1) by decide +kernel) rfl) ?_
  refine xA (ok_iload_n hC (show decode prog_14_method_9_code 16 = .ok (.iload_n 2, 1) by decide +kernel) rfl) ?_
  refine xA (ok_ishr hC (show decode prog_14_method_9_code 17 = .ok (.ishr, 1) by decide +kernel)) ?_
  refine xA (ok_sipush hC (show decode prog_14_method_9_code 18 = .ok (.sipush 255, 3) by decide +kernel) (by decide)) ?_
  refine xA (ok_iand hC (show decode prog_14_method_9_code 21 = .ok (.iand, 1) by decide +kernel)) ?_
  refine xA (ok_iast hC (show decode prog_14_method_9_code 22 = .ok (.iastore, 1) by decide +kernel) (by decide) rfl) ?_
  refine xA (ok_aload_n hC (show decode prog_14_method_9_code 23 = .ok (.aload_n 0, 1) by decide +kernel) rfl) ?_
  refine xA (ok_dup hC (show decode prog_14_method_9_code 24 = .ok (.dup, 1) by decide +kernel)) ?_
  refine xA (ok_get hC (show decode prog_14_method_9_code 25 = .ok (.getfield 190, 3) by decide +kernel) (by decide) (r0 := ("StyleCourtModel", xF13, 85)) rfl (by decide) rfl w_1147) ?_
  refine xA (ok_iconst hC (show decode prog_14_method_9_code 28 = .ok (.iconst 1, 1) by decide +kernel) (by decide)) ?_
  refine xA (ok_iadd hC (show decode prog_14_method_9_code 29 = .ok (.iadd, 1) by decide +kernel)) ?_
  refine xA (ok_put hC (show decode prog_14_method_9_code 30 = .ok (.putfield 190, 3) by decide +kernel) (by decide) (r0 := ("StyleCourtModel", xF13, 85)) rfl (by decide) rfl (by decide +kernel) w_1147) ?_
  refine xA (ok_iinc hC (show decode prog_14_method_9_code 33 = .ok (.iinc 2 (-8), 3) by decide +kernel) (by decide) (by decide)) ?_
  refine xA (ok_goto hC (show decode prog_14_method_9_code 36 = .ok (.goto (-33), 3) by decide +kernel) (by decide)) ?_
  refine xA (ok_vret hC hr (show decode prog_14_method_9_code 39 = .ok (.return_, 1) by decide +kernel)) ?_
  exact trivial

def tb_Mo_end (X : xX) : List (Nat × xOp) := [(0, o_ild 1 1),
  (1, o_ic 0 2),
  (2, o_ald 0 3),
  (3, o_get 13 2 6),
  (6, o_callS X.l X.D X.P 0 3 y_Mo_in 9),
  (9, o_ifne 18 12),
  (12, o_ald 0 13),
  (13, o_ic 1 14),
  (14, o_callV X.l X.D X.P 13 0 2 y_Mo_refuse 17),
  (17, o_iret X.P),
  (18, o_ald 0 19),
  (19, o_ic 0 20),
  (20, o_put 13 0 (.int) 23),
  (23, o_ald 0 24),
  (24, o_ild 1 25),
  (25, o_put 13 2 (.int) 28),
  (28, o_ild 1 29),
  (29, o_iret X.P)]
theorem tk_Mo_end {X : xX} (hC : xCx X prog_14_method_10_code "StyleCourtModel" 2 1) (hr : X.meth.sig.returnType = (some .int)) (hnh : X.c.exceptionTable.isEmpty = true) (hin : X.meth.name = "end") : xAll X (tb_Mo_end X) := by
  refine xA (ok_iload_n hC (show decode prog_14_method_10_code 0 = .ok (.iload_n 1, 1) by decide +kernel) rfl) ?_
  refine xA (ok_iconst hC (show decode prog_14_method_10_code 1 = .ok (.iconst 0, 1) by decide +kernel) (by decide)) ?_
  refine xA (ok_aload_n hC (show decode prog_14_method_10_code 2 = .ok (.aload_n 0, 1) by decide +kernel) rfl) ?_
  refine xA (ok_get hC (show decode prog_14_method_10_code 3 = .ok (.getfield 190, 3) by decide +kernel) (by decide) (r0 := ("StyleCourtModel", xF13, 85)) rfl (by decide) rfl w_1147) ?_
  refine xA (ok_callS (hh := []) hC hnh (show decode prog_14_method_10_code 6 = .ok (.invokestatic 201, 3) by decide +kernel) (by decide) (by decide) ⟨by decide, by decide, by decide +kernel⟩ (Or.inl w_1424) w_83 w_1422 w_1423) ?_
  refine xA (ok_ifne hC (show decode prog_14_method_10_code 9 = .ok (.ifCond .ne 9, 3) by decide +kernel) (by decide)) ?_
  refine xA (ok_aload_n hC (show decode prog_14_method_10_code 12 = .ok (.aload_n 0, 1) by decide +kernel) rfl) ?_
  refine xA (ok_iconst hC (show decode prog_14_method_10_code 13 = .ok (.iconst 1, 1) by decide +kernel) (by decide)) ?_
  refine xA (ok_callV hC hnh (show decode prog_14_method_10_code 14 = .ok (.invokevirtual 193, 3) by decide +kernel) (by decide) (by decide) (by decide) (r0 := ("StyleCourtModel", xF13, 85)) rfl ⟨by decide, by decide, by decide +kernel⟩ w_1413 w_83 w_1410 w_1412 w_25) ?_
  refine xA (ok_iret hC hr (show decode prog_14_method_10_code 17 = .ok (.ireturn, 1) by decide +kernel)) ?_
  refine xA (ok_aload_n hC (show decode prog_14_method_10_code 18 = .ok (.aload_n 0, 1) by decide +kernel) rfl) ?_
  refine xA (ok_iconst hC (show decode prog_14_method_10_code 19 = .ok (.iconst 0, 1) by decide +kernel) (by decide)) ?_
  refine xA (ok_put hC (show decode prog_14_method_10_code 20 = .ok (.putfield 187, 3) by decide +kernel) (by decide) (r0 := ("StyleCourtModel", xF13, 85)) rfl (by decide) rfl (by decide +kernel) w_1145) ?_
  refine xA (ok_aload_n hC (show decode prog_14_method_10_code 23 = .ok (.aload_n 0, 1) by decide +kernel) rfl) ?_
  refine xA (ok_iload_n hC (show decode prog_14_method_10_code 24 = .ok (.iload_n 1, 1) by decide +kernel) rfl) ?_
  refine xA (ok_put hC (show decode prog_14_method_10_code 25 = .ok (.putfield 190, 3) by decide +kernel) (by decide) (r0 := ("StyleCourtModel", xF13, 85)) rfl (by decide) rfl (by decide +kernel) w_1147) ?_
  refine xA (ok_iload_n hC (show decode prog_14_method_10_code 28 = .ok (.iload_n 1, 1) by decide +kernel) rfl) ?_
  refine xA (ok_iret hC hr (show decode prog_14_method_10_code 29 = .ok (.ireturn, 1) by decide +kernel)) ?_
  exact trivial

def tb_Mo_in (X : xX) : List (Nat × xOp) := [(0, o_ild 0 1),
  (1, o_ild 1 2),
  (2, o_iclt 14 5),
  (5, o_ild 0 6),
  (6, o_ild 2 7),
  (7, o_icgt 14 10),
  (10, o_ic 1 11),
  (11, o_goto 15),
  (14, o_ic 0 15),
  (15, o_zret .boolean X.P)]
theorem tk_Mo_in {X : xX} (hC : xCx X prog_14_method_4_code "StyleCourtModel" 3 0) (hr : X.meth.sig.returnType = (some .boolean)) (hnh : X.c.exceptionTable.isEmpty = true) (hin : X.meth.name = "in") : xAll X (tb_Mo_in X) := by
  refine xA (ok_iload_n hC (show decode prog_14_method_4_code 0 = .ok (.iload_n 0, 1) by decide +kernel) rfl) ?_
  refine xA (ok_iload_n hC (show decode prog_14_method_4_code 1 = .ok (.iload_n 1, 1) by decide +kernel) rfl) ?_
  refine xA (ok_iclt hC (show decode prog_14_method_4_code 2 = .ok (.if_icmp .lt 12, 3) by decide +kernel) (by decide)) ?_
  refine xA (ok_iload_n hC (show decode prog_14_method_4_code 5 = .ok (.iload_n 0, 1) by decide +kernel) rfl) ?_
  refine xA (ok_iload_n hC (show decode prog_14_method_4_code 6 = .ok (.iload_n 2, 1) by decide +kernel) rfl) ?_
  refine xA (ok_icgt hC (show decode prog_14_method_4_code 7 = .ok (.if_icmp .gt 7, 3) by decide +kernel) (by decide)) ?_
  refine xA (ok_iconst hC (show decode prog_14_method_4_code 10 = .ok (.iconst 1, 1) by decide +kernel) (by decide)) ?_
  refine xA (ok_goto hC (show decode prog_14_method_4_code 11 = .ok (.goto 4, 3) by decide +kernel) (by decide)) ?_
  refine xA (ok_iconst hC (show decode prog_14_method_4_code 14 = .ok (.iconst 0, 1) by decide +kernel) (by decide)) ?_
  refine xA (ok_zret hC hr (show decode prog_14_method_4_code 15 = .ok (.ireturn, 1) by decide +kernel)) ?_
  exact trivial

def tb_Mo_source (X : xX) : List (Nat × xOp) := [(0, o_ald 0 1),
  (1, o_get 13 44 4),
  (4, o_ist 1 5),
  (5, o_ic 0 6),
  (6, o_ist 2 7),
  (7, o_ild 2 8),
  (8, o_ild 1 9),
  (9, o_icge 30 12),
  (12, o_ald 0 13),
  (13, o_get 13 41 16),
  (16, o_ild 2 17),
  (17, o_ald 0 18),
  (18, o_get 13 7 21),
  (21, o_ild 2 22),
  (22, o_ld 0 23),
  (23, o_iast 0 24),
  (24, o_inc 2 1 27),
  (27, o_goto 7),
  (30, o_ald 0 31),
  (31, o_ic 0 32),
  (32, o_callV X.l X.D X.P 13 0 2 y_Mo_take 35),
  (35, o_ald 0 36),
  (36, o_get 13 7 39),
  (39, o_ic 8192 42),
  (42, o_ic 60 44),
  (44, o_iast 0 45),
  (45, o_ald 0 46),
  (46, o_get 13 7 49),
  (49, o_ic 8193 52),
  (52, o_ic 38 54),
  (54, o_iast 0 55),
  (55, o_ald 0 56),
  (56, o_callV X.l X.D X.P 13 4 1 y_Mo_readSource 59),
  (59, o_ald 0 60),
  (60, o_ald 0 61),
  (61, o_get 13 6 64),
  (64, o_put 13 5 (.int) 67),
  (67, o_ald 0 68),
  (68, o_get 13 6 71),
  (71, o_iflt 124 74),
  (74, o_ic 0 75),
  (75, o_ist 2 76),
  (76, o_ild 2 77),
  (77, o_ild 1 78),
  (78, o_icge 99 81),
  (81, o_ald 0 82),
  (82, o_get 13 7 85),
  (85, o_ild 2 86),
  (86, o_ald 0 87),
  (87, o_get 13 41 90),
  (90, o_ild 2 91),
  (91, o_ld 0 92),
  (92, o_iast 0 93),
  (93, o_inc 2 1 96),
  (96, o_goto 76),
  (99, o_ald 0 100),
  (100, o_ic 0 101),
  (101, o_put 13 8 (.int) 104),
  (104, o_ald 0 105),
  (105, o_ild 1 106),
  (106, o_put 13 9 (.int) 109),
  (109, o_ald 0 110),
  (110, o_ic (-1) 111),
  (111, o_put 13 6 (.int) 114),
  (114, o_ald 0 115),
  (115, o_callV X.l X.D X.P 13 4 1 y_Mo_readSource 118),
  (118, o_ald 0 119),
  (119, o_ic 1 120),
  (120, o_callV X.l X.D X.P 13 0 2 y_Mo_refuse 123),
  (123, o_iret X.P),
  (124, o_ald 0 125),
  (125, o_ic 0 126),
  (126, o_put 13 0 (.int) 129),
  (129, o_ald 0 130),
  (130, o_ald 0 131),
  (131, o_get 13 9 134),
  (134, o_put 13 44 (.int) 137),
  (137, o_ald 0 138),
  (138, o_ald 0 139),
  (139, o_get 13 11 142),
  (142, o_put 13 10 (.int) 145),
  (145, o_ald 0 146),
  (146, o_ic 0 147),
  (147, o_put 13 42 (.int) 150),
  (150, o_ald 0 151),
  (151, o_get 13 10 154),
  (154, o_iret X.P)]
theorem tk_Mo_source {X : xX} (hC : xCx X prog_14_method_30_code "StyleCourtModel" 3 5) (hr : X.meth.sig.returnType = (some .int)) (hnh : X.c.exceptionTable.isEmpty = true) (hin : X.meth.name = "source") : xAll X (tb_Mo_source X) := by
  refine xA (ok_aload_n hC (show decode prog_14_method_30_code 0 = .ok (.aload_n 0, 1) by decide +kernel) rfl) ?_
  refine xA (ok_get hC (show decode prog_14_method_30_code 1 = .ok (.getfield 302, 3) by decide +kernel) (by decide) (r0 := ("StyleCourtModel", xF13, 85)) rfl (by decide) rfl w_1189) ?_
  refine xA (ok_istore_n hC (show decode prog_14_method_30_code 4 = .ok (.istore_n 1, 1) by decide +kernel) rfl (by decide)) ?_
  refine xA (ok_iconst hC (show decode prog_14_method_30_code 5 = .ok (.iconst 0, 1) by decide +kernel) (by decide)) ?_
  refine xA (ok_istore_n hC (show decode prog_14_method_30_code 6 = .ok (.istore_n 2, 1) by decide +kernel) rfl (by decide)) ?_
  refine xA (ok_iload_n hC (show decode prog_14_method_30_code 7 = .ok (.iload_n 2, 1) by decide +kernel) rfl) ?_
  refine xA (ok_iload_n hC (show decode prog_14_method_30_code 8 = .ok (.iload_n 1, 1) by decide +kernel) rfl) ?_
  refine xA (ok_icge hC (show decode prog_14_method_30_code 9 = .ok (.if_icmp .ge 21, 3) by decide +kernel) (by decide)) ?_
  refine xA (ok_aload_n hC (show decode prog_14_method_30_code 12 = .ok (.aload_n 0, 1) by decide +kernel) rfl) ?_
  refine xA (ok_get hC (show decode prog_14_method_30_code 13 = .ok (.getfield 97, 3) by decide +kernel) (by decide) (r0 := ("StyleCourtModel", xF13, 85)) rfl (by decide) rfl w_1186) ?_
  refine xA (ok_iload_n hC (show decode prog_14_method_30_code 16 = .ok (.iload_n 2, 1) by decide +kernel) rfl) ?_
  refine xA (ok_aload_n hC (show decode prog_14_method_30_code 17 = .ok (.aload_n 0, 1) by decide +kernel) rfl) ?_
  refine xA (ok_get hC (show decode prog_14_method_30_code 18 = .ok (.getfield 21, 3) by decide +kernel) (by decide) (r0 := ("StyleCourtModel", xF13, 85)) rfl (by decide) rfl w_1152) ?_
  refine xA (ok_iload_n hC (show decode prog_14_method_30_code 21 = .ok (.iload_n 2, 1) by decide +kernel) rfl) ?_
  refine xA (ok_iald hC (show decode prog_14_method_30_code 22 = .ok (.iaload, 1) by decide +kernel) (by decide) rfl) ?_
  refine xA (ok_iast hC (show decode prog_14_method_30_code 23 = .ok (.iastore, 1) by decide +kernel) (by decide) rfl) ?_
  refine xA (ok_iinc hC (show decode prog_14_method_30_code 24 = .ok (.iinc 2 1, 3) by decide +kernel) (by decide) (by decide)) ?_
  refine xA (ok_goto hC (show decode prog_14_method_30_code 27 = .ok (.goto (-20), 3) by decide +kernel) (by decide)) ?_
  refine xA (ok_aload_n hC (show decode prog_14_method_30_code 30 = .ok (.aload_n 0, 1) by decide +kernel) rfl) ?_
  refine xA (ok_iconst hC (show decode prog_14_method_30_code 31 = .ok (.iconst 0, 1) by decide +kernel) (by decide)) ?_
  refine xA (ok_callV hC hnh (show decode prog_14_method_30_code 32 = .ok (.invokevirtual 305, 3) by decide +kernel) (by decide) (by decide) (by decide) (r0 := ("StyleCourtModel", xF13, 85)) rfl ⟨by decide, by decide, by decide +kernel⟩ w_1432 w_83 w_1429 w_1431 w_27) ?_
  refine xA (ok_aload_n hC (show decode prog_14_method_30_code 35 = .ok (.aload_n 0, 1) by decide +kernel) rfl) ?_
  refine xA (ok_get hC (show decode prog_14_method_30_code 36 = .ok (.getfield 21, 3) by decide +kernel) (by decide) (r0 := ("StyleCourtModel", xF13, 85)) rfl (by decide) rfl w_1152) ?_
  refine xA (ok_sipush hC (show decode prog_14_method_30_code 39 = .ok (.sipush 8192, 3) by decide +kernel) (by decide)) ?_
  refine xA (ok_bipush hC (show decode prog_14_method_30_code 42 = .ok (.bipush 60, 2) by decide +kernel) (by decide)) ?_
  refine xA (ok_iast hC (show decode prog_14_method_30_code 44 = .ok (.iastore, 1) by decide +kernel) (by decide) rfl) ?_
  refine xA (ok_aload_n hC (show decode prog_14_method_30_code 45 = .ok (.aload_n 0, 1) by decide +kernel) rfl) ?_
  refine xA (ok_get hC (show decode prog_14_method_30_code 46 = .ok (.getfield 21, 3) by decide +kernel) (by decide) (r0 := ("StyleCourtModel", xF13, 85)) rfl (by decide) rfl w_1152) ?_
  refine xA (ok_sipush hC (show decode prog_14_method_30_code 49 = .ok (.sipush 8193, 3) by decide +kernel) (by decide)) ?_
  refine xA (ok_bipush hC (show decode prog_14_method_30_code 52 = .ok (.bipush 38, 2) by decide +kernel) (by decide)) ?_
  refine xA (ok_iast hC (show decode prog_14_method_30_code 54 = .ok (.iastore, 1) by decide +kernel) (by decide) rfl) ?_
  refine xA (ok_aload_n hC (show decode prog_14_method_30_code 55 = .ok (.aload_n 0, 1) by decide +kernel) rfl) ?_
  refine xA (ok_callV hC hnh (show decode prog_14_method_30_code 56 = .ok (.invokevirtual 308, 3) by decide +kernel) (by decide) (by decide) (by decide) (r0 := ("StyleCourtModel", xF13, 85)) rfl ⟨by decide, by decide, by decide +kernel⟩ w_1436 w_83 w_1433 w_1435 w_28) ?_
  refine xA (ok_aload_n hC (show decode prog_14_method_30_code 59 = .ok (.aload_n 0, 1) by decide +kernel) rfl) ?_
  refine xA (ok_aload_n hC (show decode prog_14_method_30_code 60 = .ok (.aload_n 0, 1) by decide +kernel) rfl) ?_
  refine xA (ok_get hC (show decode prog_14_method_30_code 61 = .ok (.getfield 211, 3) by decide +kernel) (by decide) (r0 := ("StyleCourtModel", xF13, 85)) rfl (by decide) rfl w_1151) ?_
  refine xA (ok_put hC (show decode prog_14_method_30_code 64 = .ok (.putfield 16, 3) by decide +kernel) (by decide) (r0 := ("StyleCourtModel", xF13, 85)) rfl (by decide) rfl (by decide +kernel) w_1150) ?_
  refine xA (ok_aload_n hC (show decode prog_14_method_30_code 67 = .ok (.aload_n 0, 1) by decide +kernel) rfl) ?_
  refine xA (ok_get hC (show decode prog_14_method_30_code 68 = .ok (.getfield 211, 3) by decide +kernel) (by decide) (r0 := ("StyleCourtModel", xF13, 85)) rfl (by decide) rfl w_1151) ?_
  refine xA (ok_iflt hC (show decode prog_14_method_30_code 71 = .ok (.ifCond .lt 53, 3) by decide +kernel) (by decide)) ?_
  refine xA (ok_iconst hC (show decode prog_14_method_30_code 74 = .ok (.iconst 0, 1) by decide +kernel) (by decide)) ?_
  refine xA (ok_istore_n hC (show decode prog_14_method_30_code 75 = .ok (.istore_n 2, 1) by decide +kernel) rfl (by decide)) ?_
  refine xA (ok_iload_n hC (show decode prog_14_method_30_code 76 = .ok (.iload_n 2, 1) by decide +kernel) rfl) ?_
  refine xA (ok_iload_n hC (show decode prog_14_method_30_code 77 = .ok (.iload_n 1, 1) by decide +kernel) rfl) ?_
  refine xA (ok_icge hC (show decode prog_14_method_30_code 78 = .ok (.if_icmp .ge 21, 3) by decide +kernel) (by decide)) ?_
  refine xA (ok_aload_n hC (show decode prog_14_method_30_code 81 = .ok (.aload_n 0, 1) by decide +kernel) rfl) ?_
  refine xA (ok_get hC (show decode prog_14_method_30_code 82 = .ok (.getfield 21, 3) by decide +kernel) (by decide) (r0 := ("StyleCourtModel", xF13, 85)) rfl (by decide) rfl w_1152) ?_
  refine xA (ok_iload_n hC (show decode prog_14_method_30_code 85 = .ok (.iload_n 2, 1) by decide +kernel) rfl) ?_
  refine xA (ok_aload_n hC (show decode prog_14_method_30_code 86 = .ok (.aload_n 0, 1) by decide +kernel) rfl) ?_
  refine xA (ok_get hC (show decode prog_14_method_30_code 87 = .ok (.getfield 97, 3) by decide +kernel) (by decide) (r0 := ("StyleCourtModel", xF13, 85)) rfl (by decide) rfl w_1186) ?_
  refine xA (ok_iload_n hC (show decode prog_14_method_30_code 90 = .ok (.iload_n 2, 1) by decide +kernel) rfl) ?_
  refine xA (ok_iald hC (show decode prog_14_method_30_code 91 = .ok (.iaload, 1) by decide +kernel) (by decide) rfl) ?_
  refine xA (ok_iast hC (show decode prog_14_method_30_code 92 = .ok (.iastore, 1) by decide +kernel) (by decide) rfl) ?_
  refine xA (ok_iinc hC (show decode prog_14_method_30_code 93 = .ok (.iinc 2 1, 3) by decide +kernel) (by decide) (by decide)) ?_
  refine xA (ok_goto hC (show decode prog_14_method_30_code 96 = .ok (.goto (-20), 3) by decide +kernel) (by decide)) ?_
  refine xA (ok_aload_n hC (show decode prog_14_method_30_code 99 = .ok (.aload_n 0, 1) by decide +kernel) rfl) ?_
  refine xA (ok_iconst hC (show decode prog_14_method_30_code 100 = .ok (.iconst 0, 1) by decide +kernel) (by decide)) ?_
  refine xA (ok_put hC (show decode prog_14_method_30_code 101 = .ok (.putfield 205, 3) by decide +kernel) (by decide) (r0 := ("StyleCourtModel", xF13, 85)) rfl (by decide) rfl (by decide +kernel) w_1153) ?_
  refine xA (ok_aload_n hC (show decode prog_14_method_30_code 104 = .ok (.aload_n 0, 1) by decide +kernel) rfl) ?_
  refine xA (ok_iload_n hC (show decode prog_14_method_30_code 105 = .ok (.iload_n 1, 1) by decide +kernel) rfl) ?_
  refine xA (ok_put hC (show decode prog_14_method_30_code 106 = .ok (.putfield 208, 3) by decide +kernel) (by decide) (r0 := ("StyleCourtModel", xF13, 85)) rfl (by decide) rfl (by decide +kernel) w_1154) ?_
  refine xA (ok_aload_n hC (show decode prog_14_method_30_code 109 = .ok (.aload_n 0, 1) by decide +kernel) rfl) ?_
  refine xA (ok_iconst hC (show decode prog_14_method_30_code 110 = .ok (.iconst (-1), 1) by decide +kernel) (by decide)) ?_
  refine xA (ok_put hC (show decode prog_14_method_30_code 111 = .ok (.putfield 211, 3) by decide +kernel) (by decide) (r0 := ("StyleCourtModel", xF13, 85)) rfl (by decide) rfl (by decide +kernel) w_1151) ?_
  refine xA (ok_aload_n hC (show decode prog_14_method_30_code 114 = .ok (.aload_n 0, 1) by decide +kernel) rfl) ?_
  refine xA (ok_callV hC hnh (show decode prog_14_method_30_code 115 = .ok (.invokevirtual 308, 3) by decide +kernel) (by decide) (by decide) (by decide) (r0 := ("StyleCourtModel", xF13, 85)) rfl ⟨by decide, by decide, by decide +kernel⟩ w_1436 w_83 w_1433 w_1435 w_28) ?_
  refine xA (ok_aload_n hC (show decode prog_14_method_30_code 118 = .ok (.aload_n 0, 1) by decide +kernel) rfl) ?_
  refine xA (ok_iconst hC (show decode prog_14_method_30_code 119 = .ok (.iconst 1, 1) by decide +kernel) (by decide)) ?_
  refine xA (ok_callV hC hnh (show decode prog_14_method_30_code 120 = .ok (.invokevirtual 193, 3) by decide +kernel) (by decide) (by decide) (by decide) (r0 := ("StyleCourtModel", xF13, 85)) rfl ⟨by decide, by decide, by decide +kernel⟩ w_1413 w_83 w_1410 w_1412 w_25) ?_
  refine xA (ok_iret hC hr (show decode prog_14_method_30_code 123 = .ok (.ireturn, 1) by decide +kernel)) ?_
  refine xA (ok_aload_n hC (show decode prog_14_method_30_code 124 = .ok (.aload_n 0, 1) by decide +kernel) rfl) ?_
  refine xA (ok_iconst hC (show decode prog_14_method_30_code 125 = .ok (.iconst 0, 1) by decide +kernel) (by decide)) ?_
  refine xA (ok_put hC (show decode prog_14_method_30_code 126 = .ok (.putfield 187, 3) by decide +kernel) (by decide) (r0 := ("StyleCourtModel", xF13, 85)) rfl (by decide) rfl (by decide +kernel) w_1145) ?_
  refine xA (ok_aload_n hC (show decode prog_14_method_30_code 129 = .ok (.aload_n 0, 1) by decide +kernel) rfl) ?_
  refine xA (ok_aload_n hC (show decode prog_14_method_30_code 130 = .ok (.aload_n 0, 1) by decide +kernel) rfl) ?_
  refine xA (ok_get hC (show decode prog_14_method_30_code 131 = .ok (.getfield 208, 3) by decide +kernel) (by decide) (r0 := ("StyleCourtModel", xF13, 85)) rfl (by decide) rfl w_1154) ?_
  refine xA (ok_put hC (show decode prog_14_method_30_code 134 = .ok (.putfield 302, 3) by decide +kernel) (by decide) (r0 := ("StyleCourtModel", xF13, 85)) rfl (by decide) rfl (by decide +kernel) w_1189) ?_
  refine xA (ok_aload_n hC (show decode prog_14_method_30_code 137 = .ok (.aload_n 0, 1) by decide +kernel) rfl) ?_
  refine xA (ok_aload_n hC (show decode prog_14_method_30_code 138 = .ok (.aload_n 0, 1) by decide +kernel) rfl) ?_
  refine xA (ok_get hC (show decode prog_14_method_30_code 139 = .ok (.getfield 275, 3) by decide +kernel) (by decide) (r0 := ("StyleCourtModel", xF13, 85)) rfl (by decide) rfl w_1156) ?_
  refine xA (ok_put hC (show decode prog_14_method_30_code 142 = .ok (.putfield 311, 3) by decide +kernel) (by decide) (r0 := ("StyleCourtModel", xF13, 85)) rfl (by decide) rfl (by decide +kernel) w_1155) ?_
  refine xA (ok_aload_n hC (show decode prog_14_method_30_code 145 = .ok (.aload_n 0, 1) by decide +kernel) rfl) ?_
  refine xA (ok_iconst hC (show decode prog_14_method_30_code 146 = .ok (.iconst 0, 1) by decide +kernel) (by decide)) ?_
  refine xA (ok_put hC (show decode prog_14_method_30_code 147 = .ok (.putfield 314, 3) by decide +kernel) (by decide) (r0 := ("StyleCourtModel", xF13, 85)) rfl (by decide) rfl (by decide +kernel) w_1187) ?_
  refine xA (ok_aload_n hC (show decode prog_14_method_30_code 150 = .ok (.aload_n 0, 1) by decide +kernel) rfl) ?_
  refine xA (ok_get hC (show decode prog_14_method_30_code 151 = .ok (.getfield 311, 3) by decide +kernel) (by decide) (r0 := ("StyleCourtModel", xF13, 85)) rfl (by decide) rfl w_1155) ?_
  refine xA (ok_iret hC hr (show decode prog_14_method_30_code 154 = .ok (.ireturn, 1) by decide +kernel)) ?_
  exact trivial

def tb_Mo_take (X : xX) : List (Nat × xOp) := [(0, o_ald 0 1),
  (1, o_ild 1 2),
  (2, o_put 13 8 (.int) 5),
  (5, o_ald 0 6),
  (6, o_ald 0 7),
  (7, o_get 13 2 10),
  (10, o_put 13 9 (.int) 13),
  (13, o_ic 0 14),
  (14, o_ist 2 15),
  (15, o_ild 2 16),
  (16, o_ald 0 17),
  (17, o_get 13 2 20),
  (20, o_icge 43 23),
  (23, o_ald 0 24),
  (24, o_get 13 7 27),
  (27, o_ild 1 28),
  (28, o_ild 2 29),
  (29, o_iadd 30),
  (30, o_ald 0 31),
  (31, o_get 13 1 34),
  (34, o_ild 2 35),
  (35, o_ld 0 36),
  (36, o_iast 0 37),
  (37, o_inc 2 1 40),
  (40, o_goto 15),
  (43, o_ald 0 44),
  (44, o_ic 0 45),
  (45, o_put 13 2 (.int) 48),
  (48, o_ald 0 49),
  (49, o_ic (-1) 50),
  (50, o_put 13 6 (.int) 53),
  (53, o_vret X.P)]
theorem tk_Mo_take {X : xX} (hC : xCx X prog_14_method_11_code "StyleCourtModel" 3 0) (hr : X.meth.sig.returnType = none) (hnh : X.c.exceptionTable.isEmpty = true) (hin : X.meth.name = "take") : xAll X (tb_Mo_take X) := by
  refine xA (ok_aload_n hC (show decode prog_14_method_11_code 0 = .ok (.aload_n 0, 1) by decide +kernel) rfl) ?_
  refine xA (ok_iload_n hC (show decode prog_14_method_11_code 1 = .ok (.iload_n 1, 1) by decide +kernel) rfl) ?_
  refine xA (ok_put hC (show decode prog_14_method_11_code 2 = .ok (.putfield 205, 3) by decide +kernel) (by decide) (r0 := ("StyleCourtModel", xF13, 85)) rfl (by decide) rfl (by decide +kernel) w_1153) ?_
  refine xA (ok_aload_n hC (show decode prog_14_method_11_code 5 = .ok (.aload_n 0, 1) by decide +kernel) rfl) ?_
  refine xA (ok_aload_n hC (show decode prog_14_method_11_code 6 = .ok (.aload_n 0, 1) by decide +kernel) rfl) ?_
  refine xA (ok_get hC (show decode prog_14_method_11_code 7 = .ok (.getfield 190, 3) by decide +kernel) (by decide) (r0 := ("StyleCourtModel", xF13, 85)) rfl (by decide) rfl w_1147) ?_
  refine xA (ok_put hC (show decode prog_14_method_11_code 10 = .ok (.putfield 208, 3) by decide +kernel) (by decide) (r0 := ("StyleCourtModel", xF13, 85)) rfl (by decide) rfl (by decide +kernel) w_1154) ?_
  refine xA (ok_iconst hC (show decode prog_14_method_11_code 13 = .ok (.iconst 0, 1) by decide +kernel) (by decide)) ?_
  refine xA (ok_istore_n hC (show decode prog_14_method_11_code 14 = .ok (.istore_n 2, 1) by decide +kernel) rfl (by decide)) ?_
  refine xA (ok_iload_n hC (show decode prog_14_method_11_code 15 = .ok (.iload_n 2, 1) by decide +kernel) rfl) ?_
  refine xA (ok_aload_n hC (show decode prog_14_method_11_code 16 = .ok (.aload_n 0, 1) by decide +kernel) rfl) ?_
  refine xA (ok_get hC (show decode prog_14_method_11_code 17 = .ok (.getfield 190, 3) by decide +kernel) (by decide) (r0 := ("StyleCourtModel", xF13, 85)) rfl (by decide) rfl w_1147) ?_
  refine xA (ok_icge hC (show decode prog_14_method_11_code 20 = .ok (.if_icmp .ge 23, 3) by decide +kernel) (by decide)) ?_
  refine xA (ok_aload_n hC (show decode prog_14_method_11_code 23 = .ok (.aload_n 0, 1) by decide +kernel) rfl) ?_
  refine xA (ok_get hC (show decode prog_14_method_11_code 24 = .ok (.getfield 21, 3) by decide +kernel) (by decide) (r0 := ("StyleCourtModel", xF13, 85)) rfl (by decide) rfl w_1152) ?_
  refine xA (ok_iload_n hC (show decode prog_14_method_11_code 27 = .ok (.iload_n 1, 1) by decide +kernel) rfl) ?_
  refine xA (ok_iload_n hC (show decode prog_14_method_11_code 28 = .ok (.iload_n 2, 1) by decide +kernel) rfl) ?_
  refine xA (ok_iadd hC (show decode prog_14_method_11_code 29 = .ok (.iadd, 1) by decide +kernel)) ?_
  refine xA (ok_aload_n hC (show decode prog_14_method_11_code 30 = .ok (.aload_n 0, 1) by decide +kernel) rfl) ?_
  refine xA (ok_get hC (show decode prog_14_method_11_code 31 = .ok (.getfield 7, 3) by decide +kernel) (by decide) (r0 := ("StyleCourtModel", xF13, 85)) rfl (by decide) rfl w_1146) ?_
  refine xA (ok_iload_n hC (show decode prog_14_method_11_code 34 = .ok (.iload_n 2, 1) by decide +kernel) rfl) ?_
  refine xA (ok_iald hC (show decode prog_14_method_11_code 35 = .ok (.iaload, 1) by decide +kernel) (by decide) rfl) ?_
  refine xA (ok_iast hC (show decode prog_14_method_11_code 36 = .ok (.iastore, 1) by decide +kernel) (by decide) rfl) ?_
  refine xA (ok_iinc hC (show decode prog_14_method_11_code 37 = .ok (.iinc 2 1, 3) by decide +kernel) (by decide) (by decide)) ?_
  refine xA (ok_goto hC (show decode prog_14_method_11_code 40 = .ok (.goto (-25), 3) by decide +kernel) (by decide)) ?_
  refine xA (ok_aload_n hC (show decode prog_14_method_11_code 43 = .ok (.aload_n 0, 1) by decide +kernel) rfl) ?_
  refine xA (ok_iconst hC (show decode prog_14_method_11_code 44 = .ok (.iconst 0, 1) by decide +kernel) (by decide)) ?_
  refine xA (ok_put hC (show decode prog_14_method_11_code 45 = .ok (.putfield 190, 3) by decide +kernel) (by decide) (r0 := ("StyleCourtModel", xF13, 85)) rfl (by decide) rfl (by decide +kernel) w_1147) ?_
  refine xA (ok_aload_n hC (show decode prog_14_method_11_code 48 = .ok (.aload_n 0, 1) by decide +kernel) rfl) ?_
  refine xA (ok_iconst hC (show decode prog_14_method_11_code 49 = .ok (.iconst (-1), 1) by decide +kernel) (by decide)) ?_
  refine xA (ok_put hC (show decode prog_14_method_11_code 50 = .ok (.putfield 211, 3) by decide +kernel) (by decide) (r0 := ("StyleCourtModel", xF13, 85)) rfl (by decide) rfl (by decide +kernel) w_1151) ?_
  refine xA (ok_vret hC hr (show decode prog_14_method_11_code 53 = .ok (.return_, 1) by decide +kernel)) ?_
  exact trivial

def tb_Mo_readSource (X : xX) : List (Nat × xOp) := [(0, o_ald 0 1),
  (1, o_ic 0 2),
  (2, o_put 13 11 (.int) 5),
  (5, o_ald 0 6),
  (6, o_ic 0 7),
  (7, o_put 13 32 (.int) 10),
  (10, o_ald 0 11),
  (11, o_ic 0 12),
  (12, o_put 13 37 (.int) 15),
  (15, o_ald 0 16),
  (16, o_ic 0 17),
  (17, o_put 13 39 (.int) 20),
  (20, o_ald 0 21),
  (21, o_ic (-1) 22),
  (22, o_put 13 40 (.int) 25),
  (25, o_ald 0 26),
  (26, o_ic 0 27),
  (27, o_put 13 38 (.int) 30),
  (30, o_ic (-1) 31),
  (31, o_ist 1 32),
  (32, o_ald 0 33),
  (33, o_get 13 38 36),
  (36, o_ald 0 37),
  (37, o_get 13 9 40),
  (40, o_icge 282 43),
  (43, o_ald 0 44),
  (44, o_get 13 6 47),
  (47, o_ifge 282 50),
  (50, o_ald 0 51),
  (51, o_ald 0 52),
  (52, o_get 13 38 55),
  (55, o_callV X.l X.D X.P 13 0 2 y_Mo_byteAt 58),
  (58, o_ist 2 59),
  (59, o_ild 2 60),
  (60, o_ic 60 62),
  (62, o_icne 141 65),
  (65, o_ald 0 66),
  (66, o_ald 0 67),
  (67, o_get 13 38 70),
  (70, o_ic 1 71),
  (71, o_iadd 72),
  (72, o_callV X.l X.D X.P 13 0 2 y_Mo_byteAt 75),
  (75, o_ist 3 76),
  (76, o_ild 3 77),
  (77, o_ic 47 79),
  (79, o_icne 91 82),
  (82, o_ald 0 83),
  (83, o_ild 1 84),
  (84, o_callV X.l X.D X.P 13 2 2 y_Mo_closed 87),
  (87, o_ist 1 88),
  (88, o_goto 138),
  (91, o_ild 3 92),
  (92, o_ic 33 94),
  (94, o_icne 119 97),
  (97, o_ald 0 98),
  (98, o_ald 0 99),
  (99, o_get 13 38 102),
  (102, o_ic 2 103),
  (103, o_iadd 104),
  (104, o_callV X.l X.D X.P 13 0 2 y_Mo_byteAt 107),
  (107, o_ic 45 109),
  (109, o_icne 119 112),
  (112, o_ald 0 113),
  (113, o_callV X.l X.D X.P 13 1 1 y_Mo_comment 116),
  (116, o_goto 138),
  (119, o_ild 3 120),
  (120, o_ic 33 122),
  (122, o_icne 132 125),
  (125, o_ald 0 126),
  (126, o_callV X.l X.D X.P 13 2 1 y_Mo_defined 129),
  (129, o_goto 138),
  (132, o_ald 0 133),
  (133, o_ild 1 134),
  (134, o_callV X.l X.D X.P 13 3 2 y_Mo_opened 137),
  (137, o_ist 1 138),
  (138, o_goto 279),
  (141, o_ild 2 142),
  (142, o_ic 38 144),
  (144, o_icne 155 147),
  (147, o_ald 0 148),
  (148, o_ild 1 149),
  (149, o_callV X.l X.D X.P 13 2 2 y_Mo_reference 152),
  (152, o_goto 279),
  (155, o_ild 2 156),
  (156, o_ic 10 158),
  (158, o_iceq 173 161),
  (161, o_ild 2 162),
  (162, o_ic 32 164),
  (164, o_iclt 271 167),
  (167, o_ild 2 168),
  (168, o_ic 126 170),
  (170, o_icgt 271 173),
  (173, o_ald 0 174),
  (174, o_get 13 38 177),
  (177, o_ist 3 178),
  (178, o_ald 0 179),
  (179, o_ald 0 180),
  (180, o_get 13 38 183),
  (183, o_callV X.l X.D X.P 13 0 2 y_Mo_byteAt 186),
  (186, o_ic 10 188),
  (188, o_iceq 243 191),
  (191, o_ald 0 192),
  (192, o_ald 0 193),
  (193, o_get 13 38 196),
  (196, o_callV X.l X.D X.P 13 0 2 y_Mo_byteAt 199),
  (199, o_ic 32 201),
  (201, o_iclt 256 204),
  (204, o_ald 0 205),
  (205, o_ald 0 206),
  (206, o_get 13 38 209),
  (209, o_callV X.l X.D X.P 13 0 2 y_Mo_byteAt 212),
  (212, o_ic 126 214),
  (214, o_icgt 256 217),
  (217, o_ald 0 218),
  (218, o_ald 0 219),
  (219, o_get 13 38 222),
  (222, o_callV X.l X.D X.P 13 0 2 y_Mo_byteAt 225),
  (225, o_ic 60 227),
  (227, o_iceq 256 230),
  (230, o_ald 0 231),
  (231, o_ald 0 232),
  (232, o_get 13 38 235),
  (235, o_callV X.l X.D X.P 13 0 2 y_Mo_byteAt 238),
  (238, o_ic 38 240),
  (240, o_iceq 256 243),
  (243, o_ald 0 244),
  (244, o_dup 245),
  (245, o_get 13 38 248),
  (248, o_ic 1 249),
  (249, o_iadd 250),
  (250, o_put 13 38 (.int) 253),
  (253, o_goto 178),
  (256, o_ald 0 257),
  (257, o_ild 3 258),
  (258, o_ald 0 259),
  (259, o_get 13 38 262),
  (262, o_ild 3 263),
  (263, o_isub 264),
  (264, o_ild 1 265),
  (265, o_callV X.l X.D X.P 13 0 4 y_Mo_piece 268),
  (268, o_goto 279),
  (271, o_ald 0 272),
  (272, o_ald 0 273),
  (273, o_get 13 38 276),
  (276, o_callV X.l X.D X.P 13 0 2 y_Mo_wrong 279),
  (279, o_goto 32),
  (282, o_ild 1 283),
  (283, o_iflt 294 286),
  (286, o_ald 0 287),
  (287, o_ald 0 288),
  (288, o_get 13 9 291),
  (291, o_callV X.l X.D X.P 13 0 2 y_Mo_wrong 294),
  (294, o_vret X.P)]
theorem tk_Mo_readSource {X : xX} (hC : xCx X prog_14_method_29_code "StyleCourtModel" 4 4) (hr : X.meth.sig.returnType = none) (hnh : X.c.exceptionTable.isEmpty = true) (hin : X.meth.name = "readSource") : xAll X (tb_Mo_readSource X) := by
  refine xA (ok_aload_n hC (show decode prog_14_method_29_code 0 = .ok (.aload_n 0, 1) by decide +kernel) rfl) ?_
  refine xA (ok_iconst hC (show decode prog_14_method_29_code 1 = .ok (.iconst 0, 1) by decide +kernel) (by decide)) ?_
  refine xA (ok_put hC (show decode prog_14_method_29_code 2 = .ok (.putfield 275, 3) by decide +kernel) (by decide) (r0 := ("StyleCourtModel", xF13, 85)) rfl (by decide) rfl (by decide +kernel) w_1156) ?_
  refine xA (ok_aload_n hC (show decode prog_14_method_29_code 5 = .ok (.aload_n 0, 1) by decide +kernel) rfl) ?_
  refine xA (ok_iconst hC (show decode prog_14_method_29_code 6 = .ok (.iconst 0, 1) by decide +kernel) (by decide)) ?_
  refine xA (ok_put hC (show decode prog_14_method_29_code 7 = .ok (.putfield 233, 3) by decide +kernel) (by decide) (r0 := ("StyleCourtModel", xF13, 85)) rfl (by decide) rfl (by decide +kernel) w_1177) ?_
  refine xA (ok_aload_n hC (show decode prog_14_method_29_code 10 = .ok (.aload_n 0, 1) by decide +kernel) rfl) ?_
  refine xA (ok_iconst hC (show decode prog_14_method_29_code 11 = .ok (.iconst 0, 1) by decide +kernel) (by decide)) ?_
  refine xA (ok_put hC (show decode prog_14_method_29_code 12 = .ok (.putfield 236, 3) by decide +kernel) (by decide) (r0 := ("StyleCourtModel", xF13, 85)) rfl (by decide) rfl (by decide +kernel) w_1182) ?_
  refine xA (ok_aload_n hC (show decode prog_14_method_29_code 15 = .ok (.aload_n 0, 1) by decide +kernel) rfl) ?_
  refine xA (ok_iconst hC (show decode prog_14_method_29_code 16 = .ok (.iconst 0, 1) by decide +kernel) (by decide)) ?_
  refine xA (ok_put hC (show decode prog_14_method_29_code 17 = .ok (.putfield 278, 3) by decide +kernel) (by decide) (r0 := ("StyleCourtModel", xF13, 85)) rfl (by decide) rfl (by decide +kernel) w_1184) ?_
  refine xA (ok_aload_n hC (show decode prog_14_method_29_code 20 = .ok (.aload_n 0, 1) by decide +kernel) rfl) ?_
  refine xA (ok_iconst hC (show decode prog_14_method_29_code 21 = .ok (.iconst (-1), 1) by decide +kernel) (by decide)) ?_
  refine xA (ok_put hC (show decode prog_14_method_29_code 22 = .ok (.putfield 281, 3) by decide +kernel) (by decide) (r0 := ("StyleCourtModel", xF13, 85)) rfl (by decide) rfl (by decide +kernel) w_1185) ?_
  refine xA (ok_aload_n hC (show decode prog_14_method_29_code 25 = .ok (.aload_n 0, 1) by decide +kernel) rfl) ?_
  refine xA (ok_iconst hC (show decode prog_14_method_29_code 26 = .ok (.iconst 0, 1) by decide +kernel) (by decide)) ?_
  refine xA (ok_put hC (show decode prog_14_method_29_code 27 = .ok (.putfield 227, 3) by decide +kernel) (by decide) (r0 := ("StyleCourtModel", xF13, 85)) rfl (by decide) rfl (by decide +kernel) w_1183) ?_
  refine xA (ok_iconst hC (show decode prog_14_method_29_code 30 = .ok (.iconst (-1), 1) by decide +kernel) (by decide)) ?_
  refine xA (ok_istore_n hC (show decode prog_14_method_29_code 31 = .ok (.istore_n 1, 1) by decide +kernel) rfl (by decide)) ?_
  refine xA (ok_aload_n hC (show decode prog_14_method_29_code 32 = .ok (.aload_n 0, 1) by decide +kernel) rfl) ?_
  refine xA (ok_get hC (show decode prog_14_method_29_code 33 = .ok (.getfield 227, 3) by decide +kernel) (by decide) (r0 := ("StyleCourtModel", xF13, 85)) rfl (by decide) rfl w_1183) ?_
  refine xA (ok_aload_n hC (show decode prog_14_method_29_code 36 = .ok (.aload_n 0, 1) by decide +kernel) rfl) ?_
  refine xA (ok_get hC (show decode prog_14_method_29_code 37 = .ok (.getfield 208, 3) by decide +kernel) (by decide) (r0 := ("StyleCourtModel", xF13, 85)) rfl (by decide) rfl w_1154) ?_
  refine xA (ok_icge hC (show decode prog_14_method_29_code 40 = .ok (.if_icmp .ge 242, 3) by decide +kernel) (by decide)) ?_
  refine xA (ok_aload_n hC (show decode prog_14_method_29_code 43 = .ok (.aload_n 0, 1) by decide +kernel) rfl) ?_
  refine xA (ok_get hC (show decode prog_14_method_29_code 44 = .ok (.getfield 211, 3) by decide +kernel) (by decide) (r0 := ("StyleCourtModel", xF13, 85)) rfl (by decide) rfl w_1151) ?_
  refine xA (ok_ifge hC (show decode prog_14_method_29_code 47 = .ok (.ifCond .ge 235, 3) by decide +kernel) (by decide)) ?_
  refine xA (ok_aload_n hC (show decode prog_14_method_29_code 50 = .ok (.aload_n 0, 1) by decide +kernel) rfl) ?_
  refine xA (ok_aload_n hC (show decode prog_14_method_29_code 51 = .ok (.aload_n 0, 1) by decide +kernel) rfl) ?_
  refine xA (ok_get hC (show decode prog_14_method_29_code 52 = .ok (.getfield 227, 3) by decide +kernel) (by decide) (r0 := ("StyleCourtModel", xF13, 85)) rfl (by decide) rfl w_1183) ?_
  refine xA (ok_callV hC hnh (show decode prog_14_method_29_code 55 = .ok (.invokevirtual 214, 3) by decide +kernel) (by decide) (by decide) (by decide) (r0 := ("StyleCourtModel", xF13, 85)) rfl ⟨by decide, by decide, by decide +kernel⟩ w_1440 w_83 w_1437 w_1439 w_29) ?_
  refine xA (ok_istore_n hC (show decode prog_14_method_29_code 58 = .ok (.istore_n 2, 1) by decide +kernel) rfl (by decide)) ?_
  refine xA (ok_iload_n hC (show decode prog_14_method_29_code 59 = .ok (.iload_n 2, 1) by decide +kernel) rfl) ?_
  refine xA (ok_bipush hC (show decode prog_14_method_29_code 60 = .ok (.bipush 60, 2) by decide +kernel) (by decide)) ?_
  refine xA (ok_icne hC (show decode prog_14_method_29_code 62 = .ok (.if_icmp .ne 79, 3) by decide +kernel) (by decide)) ?_
  refine xA (ok_aload_n hC (show decode prog_14_method_29_code 65 = .ok (.aload_n 0, 1) by decide +kernel) rfl) ?_
  refine xA (ok_aload_n hC (show decode prog_14_method_29_code 66 = .ok (.aload_n 0, 1) by decide +kernel) rfl) ?_
  refine xA (ok_get hC (show decode prog_14_method_29_code 67 = .ok (.getfield 227, 3) by decide +kernel) (by decide) (r0 := ("StyleCourtModel", xF13, 85)) rfl (by decide) rfl w_1183) ?_
  refine xA (ok_iconst hC (show decode prog_14_method_29_code 70 = .ok (.iconst 1, 1) by decide +kernel) (by decide)) ?_
  refine xA (ok_iadd hC (show decode prog_14_method_29_code 71 = .ok (.iadd, 1) by decide +kernel)) ?_
  refine xA (ok_callV hC hnh (show decode prog_14_method_29_code 72 = .ok (.invokevirtual 214, 3) by decide +kernel) (by decide) (by decide) (by decide) (r0 := ("StyleCourtModel", xF13, 85)) rfl ⟨by decide, by decide, by decide +kernel⟩ w_1440 w_83 w_1437 w_1439 w_29) ?_
  refine xA (ok_istore_n hC (show decode prog_14_method_29_code 75 = .ok (.istore_n 3, 1) by decide +kernel) rfl (by decide)) ?_
  refine xA (ok_iload_n hC (show decode prog_14_method_29_code 76 = .ok (.iload_n 3, 1) by decide +kernel) rfl) ?_
  refine xA (ok_bipush hC (show decode prog_14_method_29_code 77 = .ok (.bipush 47, 2) by decide +kernel) (by decide)) ?_
  refine xA (ok_icne hC (show decode prog_14_method_29_code 79 = .ok (.if_icmp .ne 12, 3) by decide +kernel) (by decide)) ?_
  refine xA (ok_aload_n hC (show decode prog_14_method_29_code 82 = .ok (.aload_n 0, 1) by decide +kernel) rfl) ?_
  refine xA (ok_iload_n hC (show decode prog_14_method_29_code 83 = .ok (.iload_n 1, 1) by decide +kernel) rfl) ?_
  refine xA (ok_callV hC hnh (show decode prog_14_method_29_code 84 = .ok (.invokevirtual 287, 3) by decide +kernel) (by decide) (by decide) (by decide) (r0 := ("StyleCourtModel", xF13, 85)) rfl ⟨by decide, by decide, by decide +kernel⟩ w_1444 w_83 w_1441 w_1443 w_30) ?_
  refine xA (ok_istore_n hC (show decode prog_14_method_29_code 87 = .ok (.istore_n 1, 1) by decide +kernel) rfl (by decide)) ?_
  refine xA (ok_goto hC (show decode prog_14_method_29_code 88 = .ok (.goto 50, 3) by decide +kernel) (by decide)) ?_
  refine xA (ok_iload_n hC (show decode prog_14_method_29_code 91 = .ok (.iload_n 3, 1) by decide +kernel) rfl) ?_
  refine xA (ok_bipush hC (show decode prog_14_method_29_code 92 = .ok (.bipush 33, 2) by decide +kernel) (by decide)) ?_
  refine xA (ok_icne hC (show decode prog_14_method_29_code 94 = .ok (.if_icmp .ne 25, 3) by decide +kernel) (by decide)) ?_
  refine xA (ok_aload_n hC (show decode prog_14_method_29_code 97 = .ok (.aload_n 0, 1) by decide +kernel) rfl) ?_
  refine xA (ok_aload_n hC (show decode prog_14_method_29_code 98 = .ok (.aload_n 0, 1) by decide +kernel) rfl) ?_
  refine xA (ok_get hC (show decode prog_14_method_29_code 99 = .ok (.getfield 227, 3) by decide +kernel) (by decide) (r0 := ("StyleCourtModel", xF13, 85)) rfl (by decide) rfl w_1183) ?_
  refine xA (ok_iconst hC (show decode prog_14_method_29_code 102 = .ok (.iconst 2, 1) by decide +kernel) (by decide)) ?_
  refine xA (ok_iadd hC (show decode prog_14_method_29_code 103 = .ok (.iadd, 1) by decide +kernel)) ?_
  refine xA (ok_callV hC hnh (show decode prog_14_method_29_code 104 = .ok (.invokevirtual 214, 3) by decide +kernel) (by decide) (by decide) (by decide) (r0 := ("StyleCourtModel", xF13, 85)) rfl ⟨by decide, by decide, by decide +kernel⟩ w_1440 w_83 w_1437 w_1439 w_29) ?_
  refine xA (ok_bipush hC (show decode prog_14_method_29_code 107 = .ok (.bipush 45, 2) by decide +kernel) (by decide)) ?_
  refine xA (ok_icne hC (show decode prog_14_method_29_code 109 = .ok (.if_icmp .ne 10, 3) by decide +kernel) (by decide)) ?_
  refine xA (ok_aload_n hC (show decode prog_14_method_29_code 112 = .ok (.aload_n 0, 1) by decide +kernel) rfl) ?_
  refine xA (ok_callV hC hnh (show decode prog_14_method_29_code 113 = .ok (.invokevirtual 290, 3) by decide +kernel) (by decide) (by decide) (by decide) (r0 := ("StyleCourtModel", xF13, 85)) rfl ⟨by decide, by decide, by decide +kernel⟩ w_1473 w_83 w_1470 w_1472 w_35) ?_
  refine xA (ok_goto hC (show decode prog_14_method_29_code 116 = .ok (.goto 22, 3) by decide +kernel) (by decide)) ?_
  refine xA (ok_iload_n hC (show decode prog_14_method_29_code 119 = .ok (.iload_n 3, 1) by decide +kernel) rfl) ?_
  refine xA (ok_bipush hC (show decode prog_14_method_29_code 120 = .ok (.bipush 33, 2) by decide +kernel) (by decide)) ?_
  refine xA (ok_icne hC (show decode prog_14_method_29_code 122 = .ok (.if_icmp .ne 10, 3) by decide +kernel) (by decide)) ?_
  refine xA (ok_aload_n hC (show decode prog_14_method_29_code 125 = .ok (.aload_n 0, 1) by decide +kernel) rfl) ?_
  refine xA (ok_callV hC hnh (show decode prog_14_method_29_code 126 = .ok (.invokevirtual 293, 3) by decide +kernel) (by decide) (by decide) (by decide) (r0 := ("StyleCourtModel", xF13, 85)) rfl ⟨by decide, by decide, by decide +kernel⟩ w_1477 w_83 w_1474 w_1476 w_36) ?_
  refine xA (ok_goto hC (show decode prog_14_method_29_code 129 = .ok (.goto 9, 3) by decide +kernel) (by decide)) ?_
  refine xA (ok_aload_n hC (show decode prog_14_method_29_code 132 = .ok (.aload_n 0, 1) by decide +kernel) rfl) ?_
  refine xA (ok_iload_n hC (show decode prog_14_method_29_code 133 = .ok (.iload_n 1, 1) by decide +kernel) rfl) ?_
  refine xA (ok_callV hC hnh (show decode prog_14_method_29_code 134 = .ok (.invokevirtual 296, 3) by decide +kernel) (by decide) (by decide) (by decide) (r0 := ("StyleCourtModel", xF13, 85)) rfl ⟨by decide, by decide, by decide +kernel⟩ w_1503 w_83 w_1500 w_1502 w_42) ?_
  refine xA (ok_istore_n hC (show decode prog_14_method_29_code 137 = .ok (.istore_n 1, 1) by decide +kernel) rfl (by decide)) ?_
  refine xA (ok_goto hC (show decode prog_14_method_29_code 138 = .ok (.goto 141, 3) by decide +kernel) (by decide)) ?_
  refine xA (ok_iload_n hC (show decode prog_14_method_29_code 141 = .ok (.iload_n 2, 1) by decide +kernel) rfl) ?_
  refine xA (ok_bipush hC (show decode prog_14_method_29_code 142 = .ok (.bipush 38, 2) by decide +kernel) (by decide)) ?_
  refine xA (ok_icne hC (show decode prog_14_method_29_code 144 = .ok (.if_icmp .ne 11, 3) by decide +kernel) (by decide)) ?_
  refine xA (ok_aload_n hC (show decode prog_14_method_29_code 147 = .ok (.aload_n 0, 1) by decide +kernel) rfl) ?_
  refine xA (ok_iload_n hC (show decode prog_14_method_29_code 148 = .ok (.iload_n 1, 1) by decide +kernel) rfl) ?_
  refine xA (ok_callV hC hnh (show decode prog_14_method_29_code 149 = .ok (.invokevirtual 299, 3) by decide +kernel) (by decide) (by decide) (by decide) (r0 := ("StyleCourtModel", xF13, 85)) rfl ⟨by decide, by decide, by decide +kernel⟩ w_1511 w_83 w_1508 w_1510 w_44) ?_
  refine xA (ok_goto hC (show decode prog_14_method_29_code 152 = .ok (.goto 127, 3) by decide +kernel) (by decide)) ?_
  refine xA (ok_iload_n hC (show decode prog_14_method_29_code 155 = .ok (.iload_n 2, 1) by decide +kernel) rfl) ?_
  refine xA (ok_bipush hC (show decode prog_14_method_29_code 156 = .ok (.bipush 10, 2) by decide +kernel) (by decide)) ?_
  refine xA (ok_iceq hC (show decode prog_14_method_29_code 158 = .ok (.if_icmp .eq 15, 3) by decide +kernel) (by decide)) ?_
  refine xA (ok_iload_n hC (show decode prog_14_method_29_code 161 = .ok (.iload_n 2, 1) by decide +kernel) rfl) ?_
  refine xA (ok_bipush hC (show decode prog_14_method_29_code 162 = .ok (.bipush 32, 2) by decide +kernel) (by decide)) ?_
  refine xA (ok_iclt hC (show decode prog_14_method_29_code 164 = .ok (.if_icmp .lt 107, 3) by decide +kernel) (by decide)) ?_
  refine xA (ok_iload_n hC (show decode prog_14_method_29_code 167 = .ok (.iload_n 2, 1) by decide +kernel) rfl) ?_
  refine xA (ok_bipush hC (show decode prog_14_method_29_code 168 = .ok (.bipush 126, 2) by decide +kernel) (by decide)) ?_
  refine xA (ok_icgt hC (show decode prog_14_method_29_code 170 = .ok (.if_icmp .gt 101, 3) by decide +kernel) (by decide)) ?_
  refine xA (ok_aload_n hC (show decode prog_14_method_29_code 173 = .ok (.aload_n 0, 1) by decide +kernel) rfl) ?_
  refine xA (ok_get hC (show decode prog_14_method_29_code 174 = .ok (.getfield 227, 3) by decide +kernel) (by decide) (r0 := ("StyleCourtModel", xF13, 85)) rfl (by decide) rfl w_1183) ?_
  refine xA (ok_istore_n hC (show decode prog_14_method_29_code 177 = .ok (.istore_n 3, 1) by decide +kernel) rfl (by decide)) ?_
  refine xA (ok_aload_n hC (show decode prog_14_method_29_code 178 = .ok (.aload_n 0, 1) by decide +kernel) rfl) ?_
  refine xA (ok_aload_n hC (show decode prog_14_method_29_code 179 = .ok (.aload_n 0, 1) by decide +kernel) rfl) ?_
  refine xA (ok_get hC (show decode prog_14_method_29_code 180 = .ok (.getfield 227, 3) by decide +kernel) (by decide) (r0 := ("StyleCourtModel", xF13, 85)) rfl (by decide) rfl w_1183) ?_
  refine xA (ok_callV hC hnh (show decode prog_14_method_29_code 183 = .ok (.invokevirtual 214, 3) by decide +kernel) (by decide) (by decide) (by decide) (r0 := ("StyleCourtModel", xF13, 85)) rfl ⟨by decide, by decide, by decide +kernel⟩ w_1440 w_83 w_1437 w_1439 w_29) ?_
  refine xA (ok_bipush hC (show decode prog_14_method_29_code 186 = .ok (.bipush 10, 2) by decide +kernel) (by decide)) ?_
  refine xA (ok_iceq hC (show decode prog_14_method_29_code 188 = .ok (.if_icmp .eq 55, 3) by decide +kernel) (by decide)) ?_
  refine xA (ok_aload_n hC (show decode prog_14_method_29_code 191 = .ok (.aload_n 0, 1) by decide +kernel) rfl) ?_
  refine xA (ok_aload_n hC (show decode prog_14_method_29_code 192 = .ok (.aload_n 0, 1) by decide +kernel) rfl) ?_
  refine xA (ok_get hC (show decode prog_14_method_29_code 193 = .ok (.getfield 227, 3) by decide +kernel) (by decide) (r0 := ("StyleCourtModel", xF13, 85)) rfl (by decide) rfl w_1183) ?_
  refine xA (ok_callV hC hnh (show decode prog_14_method_29_code 196 = .ok (.invokevirtual 214, 3) by decide +kernel) (by decide) (by decide) (by decide) (r0 := ("StyleCourtModel", xF13, 85)) rfl ⟨by decide, by decide, by decide +kernel⟩ w_1440 w_83 w_1437 w_1439 w_29) ?_
  refine xA (ok_bipush hC (show decode prog_14_method_29_code 199 = .ok (.bipush 32, 2) by decide +kernel) (by decide)) ?_
  refine xA (ok_iclt hC (show decode prog_14_method_29_code 201 = .ok (.if_icmp .lt 55, 3) by decide +kernel) (by decide)) ?_
  refine xA (ok_aload_n hC (show decode prog_14_method_29_code 204 = .ok (.aload_n 0, 1) by decide +kernel) rfl) ?_
  refine xA (ok_aload_n hC (show decode prog_14_method_29_code 205 = .ok (.aload_n 0, 1) by decide +kernel) rfl) ?_
  refine xA (ok_get hC (show decode prog_14_method_29_code 206 = .ok (.getfield 227, 3) by decide +kernel) (by decide) (r0 := ("StyleCourtModel", xF13, 85)) rfl (by decide) rfl w_1183) ?_
  refine xA (ok_callV hC hnh (show decode prog_14_method_29_code 209 = .ok (.invokevirtual 214, 3) by decide +kernel) (by decide) (by decide) (by decide) (r0 := ("StyleCourtModel", xF13, 85)) rfl ⟨by decide, by decide, by decide +kernel⟩ w_1440 w_83 w_1437 w_1439 w_29) ?_
  refine xA (ok_bipush hC (show decode prog_14_method_29_code 212 = .ok (.bipush 126, 2) by decide +kernel) (by decide)) ?_
  refine xA (ok_icgt hC (show decode prog_14_method_29_code 214 = .ok (.if_icmp .gt 42, 3) by decide +kernel) (by decide)) ?_
  refine xA (ok_aload_n hC (show decode prog_14_method_29_code 217 = .ok (.aload_n 0, 1) by decide +kernel) rfl) ?_
  refine xA (ok_aload_n hC (show decode prog_14_method_29_code 218 = .ok (.aload_n 0, 1) by decide +kernel) rfl) ?_
  refine xA (ok_get hC (show decode prog_14_method_29_code 219 = .ok (.getfield 227, 3) by decide +kernel) (by decide) (r0 := ("StyleCourtModel", xF13, 85)) rfl (by decide) rfl w_1183) ?_
  refine xA (ok_callV hC hnh (show decode prog_14_method_29_code 222 = .ok (.invokevirtual 214, 3) by decide +kernel) (by decide) (by decide) (by decide) (r0 := ("StyleCourtModel", xF13, 85)) rfl ⟨by decide, by decide, by decide +kernel⟩ w_1440 w_83 w_1437 w_1439 w_29) ?_
  refine xA (ok_bipush hC (show decode prog_14_method_29_code 225 = .ok (.bipush 60, 2) by decide +kernel) (by decide)) ?_
  refine xA (ok_iceq hC (show decode prog_14_method_29_code 227 = .ok (.if_icmp .eq 29, 3) by decide +kernel) (by decide)) ?_
  refine xA (ok_aload_n hC (show decode prog_14_method_29_code 230 = .ok (.aload_n 0, 1) by decide +kernel) rfl) ?_
  refine xA (ok_aload_n hC (show decode prog_14_method_29_code 231 = .ok (.aload_n 0, 1) by decide +kernel) rfl) ?_
  refine xA (ok_get hC (show decode prog_14_method_29_code 232 = .ok (.getfield 227, 3) by decide +kernel) (by decide) (r0 := ("StyleCourtModel", xF13, 85)) rfl (by decide) rfl w_1183) ?_
  refine xA (ok_callV hC hnh (show decode prog_14_method_29_code 235 = .ok (.invokevirtual 214, 3) by decide +kernel) (by decide) (by decide) (by decide) (r0 := ("StyleCourtModel", xF13, 85)) rfl ⟨by decide, by decide, by decide +kernel⟩ w_1440 w_83 w_1437 w_1439 w_29) ?_
  refine xA (ok_bipush hC (show decode prog_14_method_29_code 238 = .ok (.bipush 38, 2) by decide +kernel) (by decide)) ?_
  refine xA (ok_iceq hC (show decode prog_14_method_29_code 240 = .ok (.if_icmp .eq 16, 3) by decide +kernel) (by decide)) ?_
  refine xA (ok_aload_n hC (show decode prog_14_method_29_code 243 = .ok (.aload_n 0, 1) by decide +kernel) rfl) ?_
  refine xA (ok_dup hC (show decode prog_14_method_29_code 244 = .ok (.dup, 1) by decide +kernel)) ?_
  refine xA (ok_get hC (show decode prog_14_method_29_code 245 = .ok (.getfield 227, 3) by decide +kernel) (by decide) (r0 := ("StyleCourtModel", xF13, 85)) rfl (by decide) rfl w_1183) ?_
  refine xA (ok_iconst hC (show decode prog_14_method_29_code 248 = .ok (.iconst 1, 1) by decide +kernel) (by decide)) ?_
  refine xA (ok_iadd hC (show decode prog_14_method_29_code 249 = .ok (.iadd, 1) by decide +kernel)) ?_
  refine xA (ok_put hC (show decode prog_14_method_29_code 250 = .ok (.putfield 227, 3) by decide +kernel) (by decide) (r0 := ("StyleCourtModel", xF13, 85)) rfl (by decide) rfl (by decide +kernel) w_1183) ?_
  refine xA (ok_goto hC (show decode prog_14_method_29_code 253 = .ok (.goto (-75), 3) by decide +kernel) (by decide)) ?_
  refine xA (ok_aload_n hC (show decode prog_14_method_29_code 256 = .ok (.aload_n 0, 1) by decide +kernel) rfl) ?_
  refine xA (ok_iload_n hC (show decode prog_14_method_29_code 257 = .ok (.iload_n 3, 1) by decide +kernel) rfl) ?_
  refine xA (ok_aload_n hC (show decode prog_14_method_29_code 258 = .ok (.aload_n 0, 1) by decide +kernel) rfl) ?_
  refine xA (ok_get hC (show decode prog_14_method_29_code 259 = .ok (.getfield 227, 3) by decide +kernel) (by decide) (r0 := ("StyleCourtModel", xF13, 85)) rfl (by decide) rfl w_1183) ?_
  refine xA (ok_iload_n hC (show decode prog_14_method_29_code 262 = .ok (.iload_n 3, 1) by decide +kernel) rfl) ?_
  refine xA (ok_isub hC (show decode prog_14_method_29_code 263 = .ok (.isub, 1) by decide +kernel)) ?_
  refine xA (ok_iload_n hC (show decode prog_14_method_29_code 264 = .ok (.iload_n 1, 1) by decide +kernel) rfl) ?_
  refine xA (ok_callV hC hnh (show decode prog_14_method_29_code 265 = .ok (.invokevirtual 262, 3) by decide +kernel) (by decide) (by decide) (by decide) (r0 := ("StyleCourtModel", xF13, 85)) rfl ⟨by decide, by decide, by decide +kernel⟩ w_1515 w_83 w_1512 w_1514 w_45) ?_
  refine xA (ok_goto hC (show decode prog_14_method_29_code 268 = .ok (.goto 11, 3) by decide +kernel) (by decide)) ?_
  refine xA (ok_aload_n hC (show decode prog_14_method_29_code 271 = .ok (.aload_n 0, 1) by decide +kernel) rfl) ?_
  refine xA (ok_aload_n hC (show decode prog_14_method_29_code 272 = .ok (.aload_n 0, 1) by decide +kernel) rfl) ?_
  refine xA (ok_get hC (show decode prog_14_method_29_code 273 = .ok (.getfield 227, 3) by decide +kernel) (by decide) (r0 := ("StyleCourtModel", xF13, 85)) rfl (by decide) rfl w_1183) ?_
  refine xA (ok_callV hC hnh (show decode prog_14_method_29_code 276 = .ok (.invokevirtual 221, 3) by decide +kernel) (by decide) (by decide) (by decide) (r0 := ("StyleCourtModel", xF13, 85)) rfl ⟨by decide, by decide, by decide +kernel⟩ w_1448 w_83 w_1445 w_1447 w_31) ?_
  refine xA (ok_goto hC (show decode prog_14_method_29_code 279 = .ok (.goto (-247), 3) by decide +kernel) (by decide)) ?_
  refine xA (ok_iload_n hC (show decode prog_14_method_29_code 282 = .ok (.iload_n 1, 1) by decide +kernel) rfl) ?_
  refine xA (ok_iflt hC (show decode prog_14_method_29_code 283 = .ok (.ifCond .lt 11, 3) by decide +kernel) (by decide)) ?_
  refine xA (ok_aload_n hC (show decode prog_14_method_29_code 286 = .ok (.aload_n 0, 1) by decide +kernel) rfl) ?_
  refine xA (ok_aload_n hC (show decode prog_14_method_29_code 287 = .ok (.aload_n 0, 1) by decide +kernel) rfl) ?_
  refine xA (ok_get hC (show decode prog_14_method_29_code 288 = .ok (.getfield 208, 3) by decide +kernel) (by decide) (r0 := ("StyleCourtModel", xF13, 85)) rfl (by decide) rfl w_1154) ?_
  refine xA (ok_callV hC hnh (show decode prog_14_method_29_code 291 = .ok (.invokevirtual 221, 3) by decide +kernel) (by decide) (by decide) (by decide) (r0 := ("StyleCourtModel", xF13, 85)) rfl ⟨by decide, by decide, by decide +kernel⟩ w_1448 w_83 w_1445 w_1447 w_31) ?_
  refine xA (ok_vret hC hr (show decode prog_14_method_29_code 294 = .ok (.return_, 1) by decide +kernel)) ?_
  exact trivial

def tb_Mo_byteAt (X : xX) : List (Nat × xOp) := [(0, o_ild 1 1),
  (1, o_ald 0 2),
  (2, o_get 13 9 5),
  (5, o_icge 22 8),
  (8, o_ald 0 9),
  (9, o_get 13 7 12),
  (12, o_ald 0 13),
  (13, o_get 13 8 16),
  (16, o_ild 1 17),
  (17, o_iadd 18),
  (18, o_ld 0 19),
  (19, o_goto 23),
  (22, o_ic (-1) 23),
  (23, o_iret X.P)]
theorem tk_Mo_byteAt {X : xX} (hC : xCx X prog_14_method_13_code "StyleCourtModel" 2 0) (hr : X.meth.sig.returnType = (some .int)) (hnh : X.c.exceptionTable.isEmpty = true) (hin : X.meth.name = "byteAt") : xAll X (tb_Mo_byteAt X) := by
  refine xA (ok_iload_n hC (show decode prog_14_method_13_code 0 = .ok (.iload_n 1, 1) by decide +kernel) rfl) ?_
  refine xA (ok_aload_n hC (show decode prog_14_method_13_code 1 = .ok (.aload_n 0, 1) by decide +kernel) rfl) ?_
  refine xA (ok_get hC (show decode prog_14_method_13_code 2 = .ok (.getfield 208, 3) by decide +kernel) (by decide) (r0 := ("StyleCourtModel", xF13, 85)) rfl (by decide) rfl w_1154) ?_
  refine xA (ok_icge hC (show decode prog_14_method_13_code 5 = .ok (.if_icmp .ge 17, 3) by decide +kernel) (by decide)) ?_
  refine xA (ok_aload_n hC (show decode prog_14_method_13_code 8 = .ok (.aload_n 0, 1) by decide +kernel) rfl) ?_
  refine xA (ok_get hC (show decode prog_14_method_13_code 9 = .ok (.getfield 21, 3) by decide +kernel) (by decide) (r0 := ("StyleCourtModel", xF13, 85)) rfl (by decide) rfl w_1152) ?_
  refine xA (ok_aload_n hC (show decode prog_14_method_13_code 12 = .ok (.aload_n 0, 1) by decide +kernel) rfl) ?_
  refine xA (ok_get hC (show decode prog_14_method_13_code 13 = .ok (.getfield 205, 3) by decide +kernel) (by decide) (r0 := ("StyleCourtModel", xF13, 85)) rfl (by decide) rfl w_1153) ?_
  refine xA (ok_iload_n hC (show decode prog_14_method_13_code 16 = .ok (.iload_n 1, 1) by decide +kernel) rfl) ?_
  refine xA (ok_iadd hC (show decode prog_14_method_13_code 17 = .ok (.iadd, 1) by decide +kernel)) ?_
  refine xA (ok_iald hC (show decode prog_14_method_13_code 18 = .ok (.iaload, 1) by decide +kernel) (by decide) rfl) ?_
  refine xA (ok_goto hC (show decode prog_14_method_13_code 19 = .ok (.goto 4, 3) by decide +kernel) (by decide)) ?_
  refine xA (ok_iconst hC (show decode prog_14_method_13_code 22 = .ok (.iconst (-1), 1) by decide +kernel) (by decide)) ?_
  refine xA (ok_iret hC hr (show decode prog_14_method_13_code 23 = .ok (.ireturn, 1) by decide +kernel)) ?_
  exact trivial

def tb_Mo_closed (X : xX) : List (Nat × xOp) := [(0, o_ild 1 1),
  (1, o_ifge 16 4),
  (4, o_ald 0 5),
  (5, o_ald 0 6),
  (6, o_get 13 38 9),
  (9, o_ic 1 10),
  (10, o_iadd 11),
  (11, o_callV X.l X.D X.P 13 0 2 y_Mo_wrong 14),
  (14, o_ild 1 15),
  (15, o_iret X.P),
  (16, o_ald 0 17),
  (17, o_get 13 38 20),
  (20, o_ic 2 21),
  (21, o_iadd 22),
  (22, o_ist 2 23),
  (23, o_ald 0 24),
  (24, o_ild 2 25),
  (25, o_callV X.l X.D X.P 13 1 2 y_Mo_nameFrom 28),
  (28, o_ist 3 29),
  (29, o_ald 0 30),
  (30, o_get 13 6 33),
  (33, o_iflt 38 36),
  (36, o_ild 1 37),
  (37, o_iret X.P),
  (38, o_ald 0 39),
  (39, o_ald 0 40),
  (40, o_get 13 12 43),
  (43, o_ild 1 44),
  (44, o_ld 0 45),
  (45, o_ald 0 46),
  (46, o_get 13 13 49),
  (49, o_ild 1 50),
  (50, o_ld 0 51),
  (51, o_ild 2 52),
  (52, o_ild 3 53),
  (53, o_ild 2 54),
  (54, o_isub 55),
  (55, o_callV X.l X.D X.P 13 0 5 y_Mo_same 58),
  (58, o_ifne 68 61),
  (61, o_ald 0 62),
  (62, o_ild 2 63),
  (63, o_callV X.l X.D X.P 13 0 2 y_Mo_wrong 66),
  (66, o_ild 1 67),
  (67, o_iret X.P),
  (68, o_ald 0 69),
  (69, o_ild 3 70),
  (70, o_put 13 38 (.int) 73),
  (73, o_ald 0 74),
  (74, o_callV X.l X.D X.P 13 1 1 y_Mo_blanks 77),
  (77, o_ald 0 78),
  (78, o_ald 0 79),
  (79, o_get 13 38 82),
  (82, o_callV X.l X.D X.P 13 0 2 y_Mo_byteAt 85),
  (85, o_ic 62 87),
  (87, o_iceq 100 90),
  (90, o_ald 0 91),
  (91, o_ald 0 92),
  (92, o_get 13 38 95),
  (95, o_callV X.l X.D X.P 13 0 2 y_Mo_wrong 98),
  (98, o_ild 1 99),
  (99, o_iret X.P),
  (100, o_ald 0 101),
  (101, o_dup 102),
  (102, o_get 13 38 105),
  (105, o_ic 1 106),
  (106, o_iadd 107),
  (107, o_put 13 38 (.int) 110),
  (110, o_ald 0 111),
  (111, o_get 13 23 114),
  (114, o_ild 1 115),
  (115, o_ald 0 116),
  (116, o_get 13 32 119),
  (119, o_iast 0 120),
  (120, o_ald 0 121),
  (121, o_get 13 21 124),
  (124, o_ild 1 125),
  (125, o_ald 0 126),
  (126, o_get 13 38 129),
  (129, o_iast 0 130),
  (130, o_ald 0 131),
  (131, o_get 13 14 134),
  (134, o_ild 1 135),
  (135, o_ld 0 136),
  (136, o_iret X.P)]
theorem tk_Mo_closed {X : xX} (hC : xCx X prog_14_method_28_code "StyleCourtModel" 4 2) (hr : X.meth.sig.returnType = (some .int)) (hnh : X.c.exceptionTable.isEmpty = true) (hin : X.meth.name = "closed") : xAll X (tb_Mo_closed X) := by
  refine xA (ok_iload_n hC (show decode prog_14_method_28_code 0 = .ok (.iload_n 1, 1) by decide +kernel) rfl) ?_
  refine xA (ok_ifge hC (show decode prog_14_method_28_code 1 = .ok (.ifCond .ge 15, 3) by decide +kernel) (by decide)) ?_
  refine xA (ok_aload_n hC (show decode prog_14_method_28_code 4 = .ok (.aload_n 0, 1) by decide +kernel) rfl) ?_
  refine xA (ok_aload_n hC (show decode prog_14_method_28_code 5 = .ok (.aload_n 0, 1) by decide +kernel) rfl) ?_
  refine xA (ok_get hC (show decode prog_14_method_28_code 6 = .ok (.getfield 227, 3) by decide +kernel) (by decide) (r0 := ("StyleCourtModel", xF13, 85)) rfl (by decide) rfl w_1183) ?_
  refine xA (ok_iconst hC (show decode prog_14_method_28_code 9 = .ok (.iconst 1, 1) by decide +kernel) (by decide)) ?_
  refine xA (ok_iadd hC (show decode prog_14_method_28_code 10 = .ok (.iadd, 1) by decide +kernel)) ?_
  refine xA (ok_callV hC hnh (show decode prog_14_method_28_code 11 = .ok (.invokevirtual 221, 3) by decide +kernel) (by decide) (by decide) (by decide) (r0 := ("StyleCourtModel", xF13, 85)) rfl ⟨by decide, by decide, by decide +kernel⟩ w_1448 w_83 w_1445 w_1447 w_31) ?_
  refine xA (ok_iload_n hC (show decode prog_14_method_28_code 14 = .ok (.iload_n 1, 1) by decide +kernel) rfl) ?_
  refine xA (ok_iret hC hr (show decode prog_14_method_28_code 15 = .ok (.ireturn, 1) by decide +kernel)) ?_
  refine xA (ok_aload_n hC (show decode prog_14_method_28_code 16 = .ok (.aload_n 0, 1) by decide +kernel) rfl) ?_
  refine xA (ok_get hC (show decode prog_14_method_28_code 17 = .ok (.getfield 227, 3) by decide +kernel) (by decide) (r0 := ("StyleCourtModel", xF13, 85)) rfl (by decide) rfl w_1183) ?_
  refine xA (ok_iconst hC (show decode prog_14_method_28_code 20 = .ok (.iconst 2, 1) by decide +kernel) (by decide)) ?_
  refine xA (ok_iadd hC (show decode prog_14_method_28_code 21 = .ok (.iadd, 1) by decide +kernel)) ?_
  refine xA (ok_istore_n hC (show decode prog_14_method_28_code 22 = .ok (.istore_n 2, 1) by decide +kernel) rfl (by decide)) ?_
  refine xA (ok_aload_n hC (show decode prog_14_method_28_code 23 = .ok (.aload_n 0, 1) by decide +kernel) rfl) ?_
  refine xA (ok_iload_n hC (show decode prog_14_method_28_code 24 = .ok (.iload_n 2, 1) by decide +kernel) rfl) ?_
  refine xA (ok_callV hC hnh (show decode prog_14_method_28_code 25 = .ok (.invokevirtual 251, 3) by decide +kernel) (by decide) (by decide) (by decide) (r0 := ("StyleCourtModel", xF13, 85)) rfl ⟨by decide, by decide, by decide +kernel⟩ w_1452 w_83 w_1449 w_1451 w_32) ?_
  refine xA (ok_istore_n hC (show decode prog_14_method_28_code 28 = .ok (.istore_n 3, 1) by decide +kernel) rfl (by decide)) ?_
  refine xA (ok_aload_n hC (show decode prog_14_method_28_code 29 = .ok (.aload_n 0, 1) by decide +kernel) rfl) ?_
  refine xA (ok_get hC (show decode prog_14_method_28_code 30 = .ok (.getfield 211, 3) by decide +kernel) (by decide) (r0 := ("StyleCourtModel", xF13, 85)) rfl (by decide) rfl w_1151) ?_
  refine xA (ok_iflt hC (show decode prog_14_method_28_code 33 = .ok (.ifCond .lt 5, 3) by decide +kernel) (by decide)) ?_
  refine xA (ok_iload_n hC (show decode prog_14_method_28_code 36 = .ok (.iload_n 1, 1) by decide +kernel) rfl) ?_
  refine xA (ok_iret hC hr (show decode prog_14_method_28_code 37 = .ok (.ireturn, 1) by decide +kernel)) ?_
  refine xA (ok_aload_n hC (show decode prog_14_method_28_code 38 = .ok (.aload_n 0, 1) by decide +kernel) rfl) ?_
  refine xA (ok_aload_n hC (show decode prog_14_method_28_code 39 = .ok (.aload_n 0, 1) by decide +kernel) rfl) ?_
  refine xA (ok_get hC (show decode prog_14_method_28_code 40 = .ok (.getfield 24, 3) by decide +kernel) (by decide) (r0 := ("StyleCourtModel", xF13, 85)) rfl (by decide) rfl w_1157) ?_
  refine xA (ok_iload_n hC (show decode prog_14_method_28_code 43 = .ok (.iload_n 1, 1) by decide +kernel) rfl) ?_
  refine xA (ok_iald hC (show decode prog_14_method_28_code 44 = .ok (.iaload, 1) by decide +kernel) (by decide) rfl) ?_
  refine xA (ok_aload_n hC (show decode prog_14_method_28_code 45 = .ok (.aload_n 0, 1) by decide +kernel) rfl) ?_
  refine xA (ok_get hC (show decode prog_14_method_28_code 46 = .ok (.getfield 27, 3) by decide +kernel) (by decide) (r0 := ("StyleCourtModel", xF13, 85)) rfl (by decide) rfl w_1158) ?_
  refine xA (ok_iload_n hC (show decode prog_14_method_28_code 49 = .ok (.iload_n 1, 1) by decide +kernel) rfl) ?_
  refine xA (ok_iald hC (show decode prog_14_method_28_code 50 = .ok (.iaload, 1) by decide +kernel) (by decide) rfl) ?_
  refine xA (ok_iload_n hC (show decode prog_14_method_28_code 51 = .ok (.iload_n 2, 1) by decide +kernel) rfl) ?_
  refine xA (ok_iload_n hC (show decode prog_14_method_28_code 52 = .ok (.iload_n 3, 1) by decide +kernel) rfl) ?_
  refine xA (ok_iload_n hC (show decode prog_14_method_28_code 53 = .ok (.iload_n 2, 1) by decide +kernel) rfl) ?_
  refine xA (ok_isub hC (show decode prog_14_method_28_code 54 = .ok (.isub, 1) by decide +kernel)) ?_
  refine xA (ok_callV hC hnh (show decode prog_14_method_28_code 55 = .ok (.invokevirtual 239, 3) by decide +kernel) (by decide) (by decide) (by decide) (r0 := ("StyleCourtModel", xF13, 85)) rfl ⟨by decide, by decide, by decide +kernel⟩ w_1462 w_83 w_1459 w_1461 w_33) ?_
  refine xA (ok_ifne hC (show decode prog_14_method_28_code 58 = .ok (.ifCond .ne 10, 3) by decide +kernel) (by decide)) ?_
  refine xA (ok_aload_n hC (show decode prog_14_method_28_code 61 = .ok (.aload_n 0, 1) by decide +kernel) rfl) ?_
  refine xA (ok_iload_n hC (show decode prog_14_method_28_code 62 = .ok (.iload_n 2, 1) by decide +kernel) rfl) ?_
  refine xA (ok_callV hC hnh (show decode prog_14_method_28_code 63 = .ok (.invokevirtual 221, 3) by decide +kernel) (by decide) (by decide) (by decide) (r0 := ("StyleCourtModel", xF13, 85)) rfl ⟨by decide, by decide, by decide +kernel⟩ w_1448 w_83 w_1445 w_1447 w_31) ?_
  refine xA (ok_iload_n hC (show decode prog_14_method_28_code 66 = .ok (.iload_n 1, 1) by decide +kernel) rfl) ?_
  refine xA (ok_iret hC hr (show decode prog_14_method_28_code 67 = .ok (.ireturn, 1) by decide +kernel)) ?_
  refine xA (ok_aload_n hC (show decode prog_14_method_28_code 68 = .ok (.aload_n 0, 1) by decide +kernel) rfl) ?_
  refine xA (ok_iload_n hC (show decode prog_14_method_28_code 69 = .ok (.iload_n 3, 1) by decide +kernel) rfl) ?_
  refine xA (ok_put hC (show decode prog_14_method_28_code 70 = .ok (.putfield 227, 3) by decide +kernel) (by decide) (r0 := ("StyleCourtModel", xF13, 85)) rfl (by decide) rfl (by decide +kernel) w_1183) ?_
  refine xA (ok_aload_n hC (show decode prog_14_method_28_code 73 = .ok (.aload_n 0, 1) by decide +kernel) rfl) ?_
  refine xA (ok_callV hC hnh (show decode prog_14_method_28_code 74 = .ok (.invokevirtual 266, 3) by decide +kernel) (by decide) (by decide) (by decide) (r0 := ("StyleCourtModel", xF13, 85)) rfl ⟨by decide, by decide, by decide +kernel⟩ w_1466 w_83 w_1463 w_1465 w_34) ?_
  refine xA (ok_aload_n hC (show decode prog_14_method_28_code 77 = .ok (.aload_n 0, 1) by decide +kernel) rfl) ?_
  refine xA (ok_aload_n hC (show decode prog_14_method_28_code 78 = .ok (.aload_n 0, 1) by decide +kernel) rfl) ?_
  refine xA (ok_get hC (show decode prog_14_method_28_code 79 = .ok (.getfield 227, 3) by decide +kernel) (by decide) (r0 := ("StyleCourtModel", xF13, 85)) rfl (by decide) rfl w_1183) ?_
  refine xA (ok_callV hC hnh (show decode prog_14_method_28_code 82 = .ok (.invokevirtual 214, 3) by decide +kernel) (by decide) (by decide) (by decide) (r0 := ("StyleCourtModel", xF13, 85)) rfl ⟨by decide, by decide, by decide +kernel⟩ w_1440 w_83 w_1437 w_1439 w_29) ?_
  refine xA (ok_bipush hC (show decode prog_14_method_28_code 85 = .ok (.bipush 62, 2) by decide +kernel) (by decide)) ?_
  refine xA (ok_iceq hC (show decode prog_14_method_28_code 87 = .ok (.if_icmp .eq 13, 3) by decide +kernel) (by decide)) ?_
  refine xA (ok_aload_n hC (show decode prog_14_method_28_code 90 = .ok (.aload_n 0, 1) by decide +kernel) rfl) ?_
  refine xA (ok_aload_n hC (show decode prog_14_method_28_code 91 = .ok (.aload_n 0, 1) by decide +kernel) rfl) ?_
  refine xA (ok_get hC (show decode prog_14_method_28_code 92 = .ok (.getfield 227, 3) by decide +kernel) (by decide) (r0 := ("StyleCourtModel", xF13, 85)) rfl (by decide) rfl w_1183) ?_
  refine xA (ok_callV hC hnh (show decode prog_14_method_28_code 95 = .ok (.invokevirtual 221, 3) by decide +kernel) (by decide) (by decide) (by decide) (r0 := ("StyleCourtModel", xF13, 85)) rfl ⟨by decide, by decide, by decide +kernel⟩ w_1448 w_83 w_1445 w_1447 w_31) ?_
  refine xA (ok_iload_n hC (show decode prog_14_method_28_code 98 = .ok (.iload_n 1, 1) by decide +kernel) rfl) ?_
  refine xA (ok_iret hC hr (show decode prog_14_method_28_code 99 = .ok (.ireturn, 1) by decide +kernel)) ?_
  refine xA (ok_aload_n hC (show decode prog_14_method_28_code 100 = .ok (.aload_n 0, 1) by decide +kernel) rfl) ?_
  refine xA (ok_dup hC (show decode prog_14_method_28_code 101 = .ok (.dup, 1) by decide +kernel)) ?_
  refine xA (ok_get hC (show decode prog_14_method_28_code 102 = .ok (.getfield 227, 3) by decide +kernel) (by decide) (r0 := ("StyleCourtModel", xF13, 85)) rfl (by decide) rfl w_1183) ?_
  refine xA (ok_iconst hC (show decode prog_14_method_28_code 105 = .ok (.iconst 1, 1) by decide +kernel) (by decide)) ?_
  refine xA (ok_iadd hC (show decode prog_14_method_28_code 106 = .ok (.iadd, 1) by decide +kernel)) ?_
  refine xA (ok_put hC (show decode prog_14_method_28_code 107 = .ok (.putfield 227, 3) by decide +kernel) (by decide) (r0 := ("StyleCourtModel", xF13, 85)) rfl (by decide) rfl (by decide +kernel) w_1183) ?_
  refine xA (ok_aload_n hC (show decode prog_14_method_28_code 110 = .ok (.aload_n 0, 1) by decide +kernel) rfl) ?_
  refine xA (ok_get hC (show decode prog_14_method_28_code 111 = .ok (.getfield 57, 3) by decide +kernel) (by decide) (r0 := ("StyleCourtModel", xF13, 85)) rfl (by decide) rfl w_1168) ?_
  refine xA (ok_iload_n hC (show decode prog_14_method_28_code 114 = .ok (.iload_n 1, 1) by decide +kernel) rfl) ?_
  refine xA (ok_aload_n hC (show decode prog_14_method_28_code 115 = .ok (.aload_n 0, 1) by decide +kernel) rfl) ?_
  refine xA (ok_get hC (show decode prog_14_method_28_code 116 = .ok (.getfield 233, 3) by decide +kernel) (by decide) (r0 := ("StyleCourtModel", xF13, 85)) rfl (by decide) rfl w_1177) ?_
  refine xA (ok_iast hC (show decode prog_14_method_28_code 119 = .ok (.iastore, 1) by decide +kernel) (by decide) rfl) ?_
  refine xA (ok_aload_n hC (show decode prog_14_method_28_code 120 = .ok (.aload_n 0, 1) by decide +kernel) rfl) ?_
  refine xA (ok_get hC (show decode prog_14_method_28_code 121 = .ok (.getfield 51, 3) by decide +kernel) (by decide) (r0 := ("StyleCourtModel", xF13, 85)) rfl (by decide) rfl w_1166) ?_
  refine xA (ok_iload_n hC (show decode prog_14_method_28_code 124 = .ok (.iload_n 1, 1) by decide +kernel) rfl) ?_
  refine xA (ok_aload_n hC (show decode prog_14_method_28_code 125 = .ok (.aload_n 0, 1) by decide +kernel) rfl) ?_
  refine xA (ok_get hC (show decode prog_14_method_28_code 126 = .ok (.getfield 227, 3) by decide +kernel) (by decide) (r0 := ("StyleCourtModel", xF13, 85)) rfl (by decide) rfl w_1183) ?_
  refine xA (ok_iast hC (show decode prog_14_method_28_code 129 = .ok (.iastore, 1) by decide +kernel) (by decide) rfl) ?_
  refine xA (ok_aload_n hC (show decode prog_14_method_28_code 130 = .ok (.aload_n 0, 1) by decide +kernel) rfl) ?_
  refine xA (ok_get hC (show decode prog_14_method_28_code 131 = .ok (.getfield 30, 3) by decide +kernel) (by decide) (r0 := ("StyleCourtModel", xF13, 85)) rfl (by decide) rfl w_1159) ?_
  refine xA (ok_iload_n hC (show decode prog_14_method_28_code 134 = .ok (.iload_n 1, 1) by decide +kernel) rfl) ?_
  refine xA (ok_iald hC (show decode prog_14_method_28_code 135 = .ok (.iaload, 1) by decide +kernel) (by decide) rfl) ?_
  refine xA (ok_iret hC hr (show decode prog_14_method_28_code 136 = .ok (.ireturn, 1) by decide +kernel)) ?_
  exact trivial

def tb_Mo_wrong (X : xX) : List (Nat × xOp) := [(0, o_ald 0 1),
  (1, o_get 13 6 4),
  (4, o_ifge 12 7),
  (7, o_ald 0 8),
  (8, o_ild 1 9),
  (9, o_put 13 6 (.int) 12),
  (12, o_vret X.P)]
theorem tk_Mo_wrong {X : xX} (hC : xCx X prog_14_method_12_code "StyleCourtModel" 2 0) (hr : X.meth.sig.returnType = none) (hnh : X.c.exceptionTable.isEmpty = true) (hin : X.meth.name = "wrong") : xAll X (tb_Mo_wrong X) := by
  refine xA (ok_aload_n hC (show decode prog_14_method_12_code 0 = .ok (.aload_n 0, 1) by decide +kernel) rfl) ?_
  refine xA (ok_get hC (show decode prog_14_method_12_code 1 = .ok (.getfield 211, 3) by decide +kernel) (by decide) (r0 := ("StyleCourtModel", xF13, 85)) rfl (by decide) rfl w_1151) ?_
  refine xA (ok_ifge hC (show decode prog_14_method_12_code 4 = .ok (.ifCond .ge 8, 3) by decide +kernel) (by decide)) ?_
  refine xA (ok_aload_n hC (show decode prog_14_method_12_code 7 = .ok (.aload_n 0, 1) by decide +kernel) rfl) ?_
  refine xA (ok_iload_n hC (show decode prog_14_method_12_code 8 = .ok (.iload_n 1, 1) by decide +kernel) rfl) ?_
  refine xA (ok_put hC (show decode prog_14_method_12_code 9 = .ok (.putfield 211, 3) by decide +kernel) (by decide) (r0 := ("StyleCourtModel", xF13, 85)) rfl (by decide) rfl (by decide +kernel) w_1151) ?_
  refine xA (ok_vret hC hr (show decode prog_14_method_12_code 12 = .ok (.return_, 1) by decide +kernel)) ?_
  exact trivial

def tb_Mo_nameFrom (X : xX) : List (Nat × xOp) := [(0, o_ild 1 1),
  (1, o_ist 2 2),
  (2, o_ald 0 3),
  (3, o_ild 1 4),
  (4, o_callV X.l X.D X.P 13 0 2 y_Mo_byteAt 7),
  (7, o_callS X.l X.D X.P 0 1 y_Mo_isSmall 10),
  (10, o_ifne 20 13),
  (13, o_ald 0 14),
  (14, o_ild 1 15),
  (15, o_callV X.l X.D X.P 13 0 2 y_Mo_wrong 18),
  (18, o_ild 1 19),
  (19, o_iret X.P),
  (20, o_ald 0 21),
  (21, o_ild 2 22),
  (22, o_callV X.l X.D X.P 13 0 2 y_Mo_byteAt 25),
  (25, o_callS X.l X.D X.P 0 1 y_Mo_isSmall 28),
  (28, o_ifne 42 31),
  (31, o_ald 0 32),
  (32, o_ild 2 33),
  (33, o_callV X.l X.D X.P 13 0 2 y_Mo_byteAt 36),
  (36, o_callS X.l X.D X.P 0 1 y_Mo_isDigit 39),
  (39, o_ifeq 48 42),
  (42, o_inc 2 1 45),
  (45, o_goto 20),
  (48, o_ild 2 49),
  (49, o_ild 1 50),
  (50, o_isub 51),
  (51, o_ic 12 53),
  (53, o_icle 61 56),
  (56, o_ald 0 57),
  (57, o_ild 1 58),
  (58, o_callV X.l X.D X.P 13 0 2 y_Mo_wrong 61),
  (61, o_ild 2 62),
  (62, o_iret X.P)]
theorem tk_Mo_nameFrom {X : xX} (hC : xCx X prog_14_method_16_code "StyleCourtModel" 3 1) (hr : X.meth.sig.returnType = (some .int)) (hnh : X.c.exceptionTable.isEmpty = true) (hin : X.meth.name = "nameFrom") : xAll X (tb_Mo_nameFrom X) := by
  refine xA (ok_iload_n hC (show decode prog_14_method_16_code 0 = .ok (.iload_n 1, 1) by decide +kernel) rfl) ?_
  refine xA (ok_istore_n hC (show decode prog_14_method_16_code 1 = .ok (.istore_n 2, 1) by decide +kernel) rfl (by decide)) ?_
  refine xA (ok_aload_n hC (show decode prog_14_method_16_code 2 = .ok (.aload_n 0, 1) by decide +kernel) rfl) ?_
  refine xA (ok_iload_n hC (show decode prog_14_method_16_code 3 = .ok (.iload_n 1, 1) by decide +kernel) rfl) ?_
  refine xA (ok_callV hC hnh (show decode prog_14_method_16_code 4 = .ok (.invokevirtual 214, 3) by decide +kernel) (by decide) (by decide) (by decide) (r0 := ("StyleCourtModel", xF13, 85)) rfl ⟨by decide, by decide, by decide +kernel⟩ w_1440 w_83 w_1437 w_1439 w_29) ?_
  refine xA (ok_callS (hh := []) hC hnh (show decode prog_14_method_16_code 7 = .ok (.invokestatic 217, 3) by decide +kernel) (by decide) (by decide) ⟨by decide, by decide, by decide +kernel⟩ (Or.inl w_1455) w_83 w_1453 w_1454) ?_
  refine xA (ok_ifne hC (show decode prog_14_method_16_code 10 = .ok (.ifCond .ne 10, 3) by decide +kernel) (by decide)) ?_
  refine xA (ok_aload_n hC (show decode prog_14_method_16_code 13 = .ok (.aload_n 0, 1) by decide +kernel) rfl) ?_
  refine xA (ok_iload_n hC (show decode prog_14_method_16_code 14 = .ok (.iload_n 1, 1) by decide +kernel) rfl) ?_
  refine xA (ok_callV hC hnh (show decode prog_14_method_16_code 15 = .ok (.invokevirtual 221, 3) by decide +kernel) (by decide) (by decide) (by decide) (r0 := ("StyleCourtModel", xF13, 85)) rfl ⟨by decide, by decide, by decide +kernel⟩ w_1448 w_83 w_1445 w_1447 w_31) ?_
  refine xA (ok_iload_n hC (show decode prog_14_method_16_code 18 = .ok (.iload_n 1, 1) by decide +kernel) rfl) ?_
  refine xA (ok_iret hC hr (show decode prog_14_method_16_code 19 = .ok (.ireturn, 1) by decide +kernel)) ?_
  refine xA (ok_aload_n hC (show decode prog_14_method_16_code 20 = .ok (.aload_n 0, 1) by decide +kernel) rfl) ?_
  refine xA (ok_iload_n hC (show decode prog_14_method_16_code 21 = .ok (.iload_n 2, 1) by decide +kernel) rfl) ?_
  refine xA (ok_callV hC hnh (show decode prog_14_method_16_code 22 = .ok (.invokevirtual 214, 3) by decide +kernel) (by decide) (by decide) (by decide) (r0 := ("StyleCourtModel", xF13, 85)) rfl ⟨by decide, by decide, by decide +kernel⟩ w_1440 w_83 w_1437 w_1439 w_29) ?_
  refine xA (ok_callS (hh := []) hC hnh (show decode prog_14_method_16_code 25 = .ok (.invokestatic 217, 3) by decide +kernel) (by decide) (by decide) ⟨by decide, by decide, by decide +kernel⟩ (Or.inl w_1455) w_83 w_1453 w_1454) ?_
  refine xA (ok_ifne hC (show decode prog_14_method_16_code 28 = .ok (.ifCond .ne 14, 3) by decide +kernel) (by decide)) ?_
  refine xA (ok_aload_n hC (show decode prog_14_method_16_code 31 = .ok (.aload_n 0, 1) by decide +kernel) rfl) ?_
  refine xA (ok_iload_n hC (show decode prog_14_method_16_code 32 = .ok (.iload_n 2, 1) by decide +kernel) rfl) ?_
  refine xA (ok_callV hC hnh (show decode prog_14_method_16_code 33 = .ok (.invokevirtual 214, 3) by decide +kernel) (by decide) (by decide) (by decide) (r0 := ("StyleCourtModel", xF13, 85)) rfl ⟨by decide, by decide, by decide +kernel⟩ w_1440 w_83 w_1437 w_1439 w_29) ?_
  refine xA (ok_callS (hh := []) hC hnh (show decode prog_14_method_16_code 36 = .ok (.invokestatic 224, 3) by decide +kernel) (by decide) (by decide) ⟨by decide, by decide, by decide +kernel⟩ (Or.inl w_1458) w_83 w_1456 w_1457) ?_
  refine xA (ok_ifeq hC (show decode prog_14_method_16_code 39 = .ok (.ifCond .eq 9, 3) by decide +kernel) (by decide)) ?_
  refine xA (ok_iinc hC (show decode prog_14_method_16_code 42 = .ok (.iinc 2 1, 3) by decide +kernel) (by decide) (by decide)) ?_
  refine xA (ok_goto hC (show decode prog_14_method_16_code 45 = .ok (.goto (-25), 3) by decide +kernel) (by decide)) ?_
  refine xA (ok_iload_n hC (show decode prog_14_method_16_code 48 = .ok (.iload_n 2, 1) by decide +kernel) rfl) ?_
  refine xA (ok_iload_n hC (show decode prog_14_method_16_code 49 = .ok (.iload_n 1, 1) by decide +kernel) rfl) ?_
  refine xA (ok_isub hC (show decode prog_14_method_16_code 50 = .ok (.isub, 1) by decide +kernel)) ?_
  refine xA (ok_bipush hC (show decode prog_14_method_16_code 51 = .ok (.bipush 12, 2) by decide +kernel) (by decide)) ?_
  refine xA (ok_icle hC (show decode prog_14_method_16_code 53 = .ok (.if_icmp .le 8, 3) by decide +kernel) (by decide)) ?_
  refine xA (ok_aload_n hC (show decode prog_14_method_16_code 56 = .ok (.aload_n 0, 1) by decide +kernel) rfl) ?_
  refine xA (ok_iload_n hC (show decode prog_14_method_16_code 57 = .ok (.iload_n 1, 1) by decide +kernel) rfl) ?_
  refine xA (ok_callV hC hnh (show decode prog_14_method_16_code 58 = .ok (.invokevirtual 221, 3) by decide +kernel) (by decide) (by decide) (by decide) (r0 := ("StyleCourtModel", xF13, 85)) rfl ⟨by decide, by decide, by decide +kernel⟩ w_1448 w_83 w_1445 w_1447 w_31) ?_
  refine xA (ok_iload_n hC (show decode prog_14_method_16_code 61 = .ok (.iload_n 2, 1) by decide +kernel) rfl) ?_
  refine xA (ok_iret hC hr (show decode prog_14_method_16_code 62 = .ok (.ireturn, 1) by decide +kernel)) ?_
  exact trivial

def tb_Mo_isSmall (X : xX) : List (Nat × xOp) := [(0, o_ild 0 1),
  (1, o_ic 97 3),
  (3, o_iclt 16 6),
  (6, o_ild 0 7),
  (7, o_ic 122 9),
  (9, o_icgt 16 12),
  (12, o_ic 1 13),
  (13, o_goto 17),
  (16, o_ic 0 17),
  (17, o_zret .boolean X.P)]
theorem tk_Mo_isSmall {X : xX} (hC : xCx X prog_14_method_5_code "StyleCourtModel" 1 0) (hr : X.meth.sig.returnType = (some .boolean)) (hnh : X.c.exceptionTable.isEmpty = true) (hin : X.meth.name = "isSmall") : xAll X (tb_Mo_isSmall X) := by
  refine xA (ok_iload_n hC (show decode prog_14_method_5_code 0 = .ok (.iload_n 0, 1) by decide +kernel) rfl) ?_
  refine xA (ok_bipush hC (show decode prog_14_method_5_code 1 = .ok (.bipush 97, 2) by decide +kernel) (by decide)) ?_
  refine xA (ok_iclt hC (show decode prog_14_method_5_code 3 = .ok (.if_icmp .lt 13, 3) by decide +kernel) (by decide)) ?_
  refine xA (ok_iload_n hC (show decode prog_14_method_5_code 6 = .ok (.iload_n 0, 1) by decide +kernel) rfl) ?_
  refine xA (ok_bipush hC (show decode prog_14_method_5_code 7 = .ok (.bipush 122, 2) by decide +kernel) (by decide)) ?_
  refine xA (ok_icgt hC (show decode prog_14_method_5_code 9 = .ok (.if_icmp .gt 7, 3) by decide +kernel) (by decide)) ?_
  refine xA (ok_iconst hC (show decode prog_14_method_5_code 12 = .ok (.iconst 1, 1) by decide +kernel) (by decide)) ?_
  refine xA (ok_goto hC (show decode prog_14_method_5_code 13 = .ok (.goto 4, 3) by decide +kernel) (by decide)) ?_
  refine xA (ok_iconst hC (show decode prog_14_method_5_code 16 = .ok (.iconst 0, 1) by decide +kernel) (by decide)) ?_
  refine xA (ok_zret hC hr (show decode prog_14_method_5_code 17 = .ok (.ireturn, 1) by decide +kernel)) ?_
  exact trivial

def tb_Mo_isDigit (X : xX) : List (Nat × xOp) := [(0, o_ild 0 1),
  (1, o_ic 48 3),
  (3, o_iclt 16 6),
  (6, o_ild 0 7),
  (7, o_ic 57 9),
  (9, o_icgt 16 12),
  (12, o_ic 1 13),
  (13, o_goto 17),
  (16, o_ic 0 17),
  (17, o_zret .boolean X.P)]
theorem tk_Mo_isDigit {X : xX} (hC : xCx X prog_14_method_6_code "StyleCourtModel" 1 0) (hr : X.meth.sig.returnType = (some .boolean)) (hnh : X.c.exceptionTable.isEmpty = true) (hin : X.meth.name = "isDigit") : xAll X (tb_Mo_isDigit X) := by
  refine xA (ok_iload_n hC (show decode prog_14_method_6_code 0 = .ok (.iload_n 0, 1) by decide +kernel) rfl) ?_
  refine xA (ok_bipush hC (show decode prog_14_method_6_code 1 = .ok (.bipush 48, 2) by decide +kernel) (by decide)) ?_
  refine xA (ok_iclt hC (show decode prog_14_method_6_code 3 = .ok (.if_icmp .lt 13, 3) by decide +kernel) (by decide)) ?_
  refine xA (ok_iload_n hC (show decode prog_14_method_6_code 6 = .ok (.iload_n 0, 1) by decide +kernel) rfl) ?_
  refine xA (ok_bipush hC (show decode prog_14_method_6_code 7 = .ok (.bipush 57, 2) by decide +kernel) (by decide)) ?_
  refine xA (ok_icgt hC (show decode prog_14_method_6_code 9 = .ok (.if_icmp .gt 7, 3) by decide +kernel) (by decide)) ?_
  refine xA (ok_iconst hC (show decode prog_14_method_6_code 12 = .ok (.iconst 1, 1) by decide +kernel) (by decide)) ?_
  refine xA (ok_goto hC (show decode prog_14_method_6_code 13 = .ok (.goto 4, 3) by decide +kernel) (by decide)) ?_
  refine xA (ok_iconst hC (show decode prog_14_method_6_code 16 = .ok (.iconst 0, 1) by decide +kernel) (by decide)) ?_
  refine xA (ok_zret hC hr (show decode prog_14_method_6_code 17 = .ok (.ireturn, 1) by decide +kernel)) ?_
  exact trivial

def tb_Mo_same (X : xX) : List (Nat × xOp) := [(0, o_ild 2 1),
  (1, o_ild 4 3),
  (3, o_iceq 8 6),
  (6, o_ic 0 7),
  (7, o_zret .boolean X.P),
  (8, o_ic 0 9),
  (9, o_ist 5 11),
  (11, o_ild 5 13),
  (13, o_ild 2 14),
  (14, o_icge 46 17),
  (17, o_ald 0 18),
  (18, o_get 13 7 21),
  (21, o_ild 1 22),
  (22, o_ild 5 24),
  (24, o_iadd 25),
  (25, o_ld 0 26),
  (26, o_ald 0 27),
  (27, o_get 13 7 30),
  (30, o_ild 3 31),
  (31, o_ild 5 33),
  (33, o_iadd 34),
  (34, o_ld 0 35),
  (35, o_iceq 40 38),
  (38, o_ic 0 39),
  (39, o_zret .boolean X.P),
  (40, o_inc 5 1 43),
  (43, o_goto 11),
  (46, o_ic 1 47),
  (47, o_zret .boolean X.P)]
theorem tk_Mo_same {X : xX} (hC : xCx X prog_14_method_14_code "StyleCourtModel" 6 0) (hr : X.meth.sig.returnType = (some .boolean)) (hnh : X.c.exceptionTable.isEmpty = true) (hin : X.meth.name = "same") : xAll X (tb_Mo_same X) := by
  refine xA (ok_iload_n hC (show decode prog_14_method_14_code 0 = .ok (.iload_n 2, 1) by decide +kernel) rfl) ?_
  refine xA (ok_iload hC (show decode prog_14_method_14_code 1 = .ok (.iload 4, 2) by decide +kernel)) ?_
  refine xA (ok_iceq hC (show decode prog_14_method_14_code 3 = .ok (.if_icmp .eq 5, 3) by decide +kernel) (by decide)) ?_
  refine xA (ok_iconst hC (show decode prog_14_method_14_code 6 = .ok (.iconst 0, 1) by decide +kernel) (by decide)) ?_
  refine xA (ok_zret hC hr (show decode prog_14_method_14_code 7 = .ok (.ireturn, 1) by decide +kernel)) ?_
  refine xA (ok_iconst hC (show decode prog_14_method_14_code 8 = .ok (.iconst 0, 1) by decide +kernel) (by decide)) ?_
  refine xA (ok_istore hC (show decode prog_14_method_14_code 9 = .ok (.istore 5, 2) by decide +kernel) (by decide)) ?_
  refine xA (ok_iload hC (show decode prog_14_method_14_code 11 = .ok (.iload 5, 2) by decide +kernel)) ?_
  refine xA (ok_iload_n hC (show decode prog_14_method_14_code 13 = .ok (.iload_n 2, 1) by decide +kernel) rfl) ?_
  refine xA (ok_icge hC (show decode prog_14_method_14_code 14 = .ok (.if_icmp .ge 32, 3) by decide +kernel) (by decide)) ?_
  refine xA (ok_aload_n hC (show decode prog_14_method_14_code 17 = .ok (.aload_n 0, 1) by decide +kernel) rfl) ?_
  refine xA (ok_get hC (show decode prog_14_method_14_code 18 = .ok (.getfield 21, 3) by decide +kernel) (by decide) (r0 := ("StyleCourtModel", xF13, 85)) rfl (by decide) rfl w_1152) ?_
  refine xA (ok_iload_n hC (show decode prog_14_method_14_code 21 = .ok (.iload_n 1, 1) by decide +kernel) rfl) ?_
  refine xA (ok_iload hC (show decode prog_14_method_14_code 22 = .ok (.iload 5, 2) by decide +kernel)) ?_
  refine xA (ok_iadd hC (show decode prog_14_method_14_code 24 = .ok (.iadd, 1) by decide +kernel)) ?_
  refine xA (ok_iald hC (show decode prog_14_method_14_code 25 = .ok (.iaload, 1) by decide +kernel) (by decide) rfl) ?_
  refine xA (ok_aload_n hC (show decode prog_14_method_14_code 26 = .ok (.aload_n 0, 1) by decide +kernel) rfl) ?_
  refine xA (ok_get hC (show decode prog_14_method_14_code 27 = .ok (.getfield 21, 3) by decide +kernel) (by decide) (r0 := ("StyleCourtModel", xF13, 85)) rfl (by decide) rfl w_1152) ?_
  refine xA (ok_iload_n hC (show decode prog_14_method_14_code 30 = .ok (.iload_n 3, 1) by decide +kernel) rfl) ?_
  refine xA (ok_iload hC (show decode prog_14_method_14_code 31 = .ok (.iload 5, 2) by decide +kernel)) ?_
  refine xA (ok_iadd hC (show decode prog_14_method_14_code 33 = .ok (.iadd, 1) by decide +kernel)) ?_
  refine xA (ok_iald hC (show decode prog_14_method_14_code 34 = .ok (.iaload, 1) by decide +kernel) (by decide) rfl) ?_
  refine xA (ok_iceq hC (show decode prog_14_method_14_code 35 = .ok (.if_icmp .eq 5, 3) by decide +kernel) (by decide)) ?_
  refine xA (ok_iconst hC (show decode prog_14_method_14_code 38 = .ok (.iconst 0, 1) by decide +kernel) (by decide)) ?_
  refine xA (ok_zret hC hr (show decode prog_14_method_14_code 39 = .ok (.ireturn, 1) by decide +kernel)) ?_
  refine xA (ok_iinc hC (show decode prog_14_method_14_code 40 = .ok (.iinc 5 1, 3) by decide +kernel) (by decide) (by decide)) ?_
  refine xA (ok_goto hC (show decode prog_14_method_14_code 43 = .ok (.goto (-32), 3) by decide +kernel) (by decide)) ?_
  refine xA (ok_iconst hC (show decode prog_14_method_14_code 46 = .ok (.iconst 1, 1) by decide +kernel) (by decide)) ?_
  refine xA (ok_zret hC hr (show decode prog_14_method_14_code 47 = .ok (.ireturn, 1) by decide +kernel)) ?_
  exact trivial

def tb_Mo_blanks (X : xX) : List (Nat × xOp) := [(0, o_ald 0 1),
  (1, o_ald 0 2),
  (2, o_get 13 38 5),
  (5, o_callV X.l X.D X.P 13 0 2 y_Mo_byteAt 8),
  (8, o_callS X.l X.D X.P 0 1 y_Mo_isBlank 11),
  (11, o_ifeq 27 14),
  (14, o_ald 0 15),
  (15, o_dup 16),
  (16, o_get 13 38 19),
  (19, o_ic 1 20),
  (20, o_iadd 21),
  (21, o_put 13 38 (.int) 24),
  (24, o_goto 0),
  (27, o_vret X.P)]
theorem tk_Mo_blanks {X : xX} (hC : xCx X prog_14_method_18_code "StyleCourtModel" 1 1) (hr : X.meth.sig.returnType = none) (hnh : X.c.exceptionTable.isEmpty = true) (hin : X.meth.name = "blanks") : xAll X (tb_Mo_blanks X) := by
  refine xA (ok_aload_n hC (show decode prog_14_method_18_code 0 = .ok (.aload_n 0, 1) by decide +kernel) rfl) ?_
  refine xA (ok_aload_n hC (show decode prog_14_method_18_code 1 = .ok (.aload_n 0, 1) by decide +kernel) rfl) ?_
  refine xA (ok_get hC (show decode prog_14_method_18_code 2 = .ok (.getfield 227, 3) by decide +kernel) (by decide) (r0 := ("StyleCourtModel", xF13, 85)) rfl (by decide) rfl w_1183) ?_
  refine xA (ok_callV hC hnh (show decode prog_14_method_18_code 5 = .ok (.invokevirtual 214, 3) by decide +kernel) (by decide) (by decide) (by decide) (r0 := ("StyleCourtModel", xF13, 85)) rfl ⟨by decide, by decide, by decide +kernel⟩ w_1440 w_83 w_1437 w_1439 w_29) ?_
  refine xA (ok_callS (hh := []) hC hnh (show decode prog_14_method_18_code 8 = .ok (.invokestatic 230, 3) by decide +kernel) (by decide) (by decide) ⟨by decide, by decide, by decide +kernel⟩ (Or.inl w_1469) w_83 w_1467 w_1468) ?_
  refine xA (ok_ifeq hC (show decode prog_14_method_18_code 11 = .ok (.ifCond .eq 16, 3) by decide +kernel) (by decide)) ?_
  refine xA (ok_aload_n hC (show decode prog_14_method_18_code 14 = .ok (.aload_n 0, 1) by decide +kernel) rfl) ?_
  refine xA (ok_dup hC (show decode prog_14_method_18_code 15 = .ok (.dup, 1) by decide +kernel)) ?_
  refine xA (ok_get hC (show decode prog_14_method_18_code 16 = .ok (.getfield 227, 3) by decide +kernel) (by decide) (r0 := ("StyleCourtModel", xF13, 85)) rfl (by decide) rfl w_1183) ?_
  refine xA (ok_iconst hC (show decode prog_14_method_18_code 19 = .ok (.iconst 1, 1) by decide +kernel) (by decide)) ?_
  refine xA (ok_iadd hC (show decode prog_14_method_18_code 20 = .ok (.iadd, 1) by decide +kernel)) ?_
  refine xA (ok_put hC (show decode prog_14_method_18_code 21 = .ok (.putfield 227, 3) by decide +kernel) (by decide) (r0 := ("StyleCourtModel", xF13, 85)) rfl (by decide) rfl (by decide +kernel) w_1183) ?_
  refine xA (ok_goto hC (show decode prog_14_method_18_code 24 = .ok (.goto (-24), 3) by decide +kernel) (by decide)) ?_
  refine xA (ok_vret hC hr (show decode prog_14_method_18_code 27 = .ok (.return_, 1) by decide +kernel)) ?_
  exact trivial

def tb_Mo_isBlank (X : xX) : List (Nat × xOp) := [(0, o_ild 0 1),
  (1, o_ic 10 3),
  (3, o_iceq 12 6),
  (6, o_ild 0 7),
  (7, o_ic 32 9),
  (9, o_icne 16 12),
  (12, o_ic 1 13),
  (13, o_goto 17),
  (16, o_ic 0 17),
  (17, o_zret .boolean X.P)]
theorem tk_Mo_isBlank {X : xX} (hC : xCx X prog_14_method_7_code "StyleCourtModel" 1 0) (hr : X.meth.sig.returnType = (some .boolean)) (hnh : X.c.exceptionTable.isEmpty = true) (hin : X.meth.name = "isBlank") : xAll X (tb_Mo_isBlank X) := by
  refine xA (ok_iload_n hC (show decode prog_14_method_7_code 0 = .ok (.iload_n 0, 1) by decide +kernel) rfl) ?_
  refine xA (ok_bipush hC (show decode prog_14_method_7_code 1 = .ok (.bipush 10, 2) by decide +kernel) (by decide)) ?_
  refine xA (ok_iceq hC (show decode prog_14_method_7_code 3 = .ok (.if_icmp .eq 9, 3) by decide +kernel) (by decide)) ?_
  refine xA (ok_iload_n hC (show decode prog_14_method_7_code 6 = .ok (.iload_n 0, 1) by decide +kernel) rfl) ?_
  refine xA (ok_bipush hC (show decode prog_14_method_7_code 7 = .ok (.bipush 32, 2) by decide +kernel) (by decide)) ?_
  refine xA (ok_icne hC (show decode prog_14_method_7_code 9 = .ok (.if_icmp .ne 7, 3) by decide +kernel) (by decide)) ?_
  refine xA (ok_iconst hC (show decode prog_14_method_7_code 12 = .ok (.iconst 1, 1) by decide +kernel) (by decide)) ?_
  refine xA (ok_goto hC (show decode prog_14_method_7_code 13 = .ok (.goto 4, 3) by decide +kernel) (by decide)) ?_
  refine xA (ok_iconst hC (show decode prog_14_method_7_code 16 = .ok (.iconst 0, 1) by decide +kernel) (by decide)) ?_
  refine xA (ok_zret hC hr (show decode prog_14_method_7_code 17 = .ok (.ireturn, 1) by decide +kernel)) ?_
  exact trivial

def tb_Mo_comment (X : xX) : List (Nat × xOp) := [(0, o_ald 0 1),
  (1, o_ald 0 2),
  (2, o_get 13 38 5),
  (5, o_ic 3 6),
  (6, o_iadd 7),
  (7, o_callV X.l X.D X.P 13 0 2 y_Mo_byteAt 10),
  (10, o_ic 45 12),
  (12, o_iceq 26 15),
  (15, o_ald 0 16),
  (16, o_ald 0 17),
  (17, o_get 13 38 20),
  (20, o_ic 3 21),
  (21, o_iadd 22),
  (22, o_callV X.l X.D X.P 13 0 2 y_Mo_wrong 25),
  (25, o_vret X.P),
  (26, o_ald 0 27),
  (27, o_get 13 38 30),
  (30, o_ic 4 31),
  (31, o_iadd 32),
  (32, o_ist 1 33),
  (33, o_ild 1 34),
  (34, o_ald 0 35),
  (35, o_get 13 9 38),
  (38, o_icge 81 41),
  (41, o_ald 0 42),
  (42, o_ild 1 43),
  (43, o_callV X.l X.D X.P 13 0 2 y_Mo_byteAt 46),
  (46, o_ic 45 48),
  (48, o_icne 75 51),
  (51, o_ald 0 52),
  (52, o_ild 1 53),
  (53, o_ic 1 54),
  (54, o_iadd 55),
  (55, o_callV X.l X.D X.P 13 0 2 y_Mo_byteAt 58),
  (58, o_ic 45 60),
  (60, o_icne 75 63),
  (63, o_ald 0 64),
  (64, o_ild 1 65),
  (65, o_ic 2 66),
  (66, o_iadd 67),
  (67, o_callV X.l X.D X.P 13 0 2 y_Mo_byteAt 70),
  (70, o_ic 62 72),
  (72, o_iceq 81 75),
  (75, o_inc 1 1 78),
  (78, o_goto 33),
  (81, o_ild 1 82),
  (82, o_ald 0 83),
  (83, o_get 13 9 86),
  (86, o_iclt 97 89),
  (89, o_ald 0 90),
  (90, o_ald 0 91),
  (91, o_get 13 9 94),
  (94, o_callV X.l X.D X.P 13 0 2 y_Mo_wrong 97),
  (97, o_ald 0 98),
  (98, o_ild 1 99),
  (99, o_ic 3 100),
  (100, o_iadd 101),
  (101, o_put 13 38 (.int) 104),
  (104, o_vret X.P)]
theorem tk_Mo_comment {X : xX} (hC : xCx X prog_14_method_25_code "StyleCourtModel" 2 1) (hr : X.meth.sig.returnType = none) (hnh : X.c.exceptionTable.isEmpty = true) (hin : X.meth.name = "comment") : xAll X (tb_Mo_comment X) := by
  refine xA (ok_aload_n hC (show decode prog_14_method_25_code 0 = .ok (.aload_n 0, 1) by decide +kernel) rfl) ?_
  refine xA (ok_aload_n hC (show decode prog_14_method_25_code 1 = .ok (.aload_n 0, 1) by decide +kernel) rfl) ?_
  refine xA (ok_get hC (show decode prog_14_method_25_code 2 = .ok (.getfield 227, 3) by decide +kernel) (by decide) (r0 := ("StyleCourtModel", xF13, 85)) rfl (by decide) rfl w_1183) ?_
  refine xA (ok_iconst hC (show decode prog_14_method_25_code 5 = .ok (.iconst 3, 1) by decide +kernel) (by decide)) ?_
  refine xA (ok_iadd hC (show decode prog_14_method_25_code 6 = .ok (.iadd, 1) by decide +kernel)) ?_
  refine xA (ok_callV hC hnh (show decode prog_14_method_25_code 7 = .ok (.invokevirtual 214, 3) by decide +kernel) (by decide) (by decide) (by decide) (r0 := ("StyleCourtModel", xF13, 85)) rfl ⟨by decide, by decide, by decide +kernel⟩ w_1440 w_83 w_1437 w_1439 w_29) ?_
  refine xA (ok_bipush hC (show decode prog_14_method_25_code 10 = .ok (.bipush 45, 2) by decide +kernel) (by decide)) ?_
  refine xA (ok_iceq hC (show decode prog_14_method_25_code 12 = .ok (.if_icmp .eq 14, 3) by decide +kernel) (by decide)) ?_
  refine xA (ok_aload_n hC (show decode prog_14_method_25_code 15 = .ok (.aload_n 0, 1) by decide +kernel) rfl) ?_
  refine xA (ok_aload_n hC (show decode prog_14_method_25_code 16 = .ok (.aload_n 0, 1) by decide +kernel) rfl) ?_
  refine xA (ok_get hC (show decode prog_14_method_25_code 17 = .ok (.getfield 227, 3) by decide +kernel) (by decide) (r0 := ("StyleCourtModel", xF13, 85)) rfl (by decide) rfl w_1183) ?_
  refine xA (ok_iconst hC (show decode prog_14_method_25_code 20 = .ok (.iconst 3, 1) by decide +kernel) (by decide)) ?_
  refine xA (ok_iadd hC (show decode prog_14_method_25_code 21 = .ok (.iadd, 1) by decide +kernel)) ?_
  refine xA (ok_callV hC hnh (show decode prog_14_method_25_code 22 = .ok (.invokevirtual 221, 3) by decide +kernel) (by decide) (by decide) (by decide) (r0 := ("StyleCourtModel", xF13, 85)) rfl ⟨by decide, by decide, by decide +kernel⟩ w_1448 w_83 w_1445 w_1447 w_31) ?_
  refine xA (ok_vret hC hr (show decode prog_14_method_25_code 25 = .ok (.return_, 1) by decide +kernel)) ?_
  refine xA (ok_aload_n hC (show decode prog_14_method_25_code 26 = .ok (.aload_n 0, 1) by decide +kernel) rfl) ?_
  refine xA (ok_get hC (show decode prog_14_method_25_code 27 = .ok (.getfield 227, 3) by decide +kernel) (by decide) (r0 := ("StyleCourtModel", xF13, 85)) rfl (by decide) rfl w_1183) ?_
  refine xA (ok_iconst hC (show decode prog_14_method_25_code 30 = .ok (.iconst 4, 1) by decide +kernel) (by decide)) ?_
  refine xA (ok_iadd hC (show decode prog_14_method_25_code 31 = .ok (.iadd, 1) by decide +kernel)) ?_
  refine xA (ok_istore_n hC (show decode prog_14_method_25_code 32 = .ok (.istore_n 1, 1) by decide +kernel) rfl (by decide)) ?_
  refine xA (ok_iload_n hC (show decode prog_14_method_25_code 33 = .ok (.iload_n 1, 1) by decide +kernel) rfl) ?_
  refine xA (ok_aload_n hC (show decode prog_14_method_25_code 34 = .ok (.aload_n 0, 1) by decide +kernel) rfl) ?_
  refine xA (ok_get hC (show decode prog_14_method_25_code 35 = .ok (.getfield 208, 3) by decide +kernel) (by decide) (r0 := ("StyleCourtModel", xF13, 85)) rfl (by decide) rfl w_1154) ?_
  refine xA (ok_icge hC (show decode prog_14_method_25_code 38 = .ok (.if_icmp .ge 43, 3) by decide +kernel) (by decide)) ?_
  refine xA (ok_aload_n hC (show decode prog_14_method_25_code 41 = .ok (.aload_n 0, 1) by decide +kernel) rfl) ?_
  refine xA (ok_iload_n hC (show decode prog_14_method_25_code 42 = .ok (.iload_n 1, 1) by decide +kernel) rfl) ?_
  refine xA (ok_callV hC hnh (show decode prog_14_method_25_code 43 = .ok (.invokevirtual 214, 3) by decide +kernel) (by decide) (by decide) (by decide) (r0 := ("StyleCourtModel", xF13, 85)) rfl ⟨by decide, by decide, by decide +kernel⟩ w_1440 w_83 w_1437 w_1439 w_29) ?_
  refine xA (ok_bipush hC (show decode prog_14_method_25_code 46 = .ok (.bipush 45, 2) by decide +kernel) (by decide)) ?_
  refine xA (ok_icne hC (show decode prog_14_method_25_code 48 = .ok (.if_icmp .ne 27, 3) by decide +kernel) (by decide)) ?_
  refine xA (ok_aload_n hC (show decode prog_14_method_25_code 51 = .ok (.aload_n 0, 1) by decide +kernel) rfl) ?_
  refine xA (ok_iload_n hC (show decode prog_14_method_25_code 52 = .ok (.iload_n 1, 1) by decide +kernel) rfl) ?_
  refine xA (ok_iconst hC (show decode prog_14_method_25_code 53 = .ok (.iconst 1, 1) by decide +kernel) (by decide)) ?_
  refine xA (ok_iadd hC (show decode prog_14_method_25_code 54 = .ok (.iadd, 1) by decide +kernel)) ?_
  refine xA (ok_callV hC hnh (show decode prog_14_method_25_code 55 = .ok (.invokevirtual 214, 3) by decide +kernel) (by decide) (by decide) (by decide) (r0 := ("StyleCourtModel", xF13, 85)) rfl ⟨by decide, by decide, by decide +kernel⟩ w_1440 w_83 w_1437 w_1439 w_29) ?_
  refine xA (ok_bipush hC (show decode prog_14_method_25_code 58 = .ok (.bipush 45, 2) by decide +kernel) (by decide)) ?_
  refine xA (ok_icne hC (show decode prog_14_method_25_code 60 = .ok (.if_icmp .ne 15, 3) by decide +kernel) (by decide)) ?_
  refine xA (ok_aload_n hC (show decode prog_14_method_25_code 63 = .ok (.aload_n 0, 1) by decide +kernel) rfl) ?_
  refine xA (ok_iload_n hC (show decode prog_14_method_25_code 64 = .ok (.iload_n 1, 1) by decide +kernel) rfl) ?_
  refine xA (ok_iconst hC (show decode prog_14_method_25_code 65 = .ok (.iconst 2, 1) by decide +kernel) (by decide)) ?_
  refine xA (ok_iadd hC (show decode prog_14_method_25_code 66 = .ok (.iadd, 1) by decide +kernel)) ?_
  refine xA (ok_callV hC hnh (show decode prog_14_method_25_code 67 = .ok (.invokevirtual 214, 3) by decide +kernel) (by decide) (by decide) (by decide) (r0 := ("StyleCourtModel", xF13, 85)) rfl ⟨by decide, by decide, by decide +kernel⟩ w_1440 w_83 w_1437 w_1439 w_29) ?_
  refine xA (ok_bipush hC (show decode prog_14_method_25_code 70 = .ok (.bipush 62, 2) by decide +kernel) (by decide)) ?_
  refine xA (ok_iceq hC (show decode prog_14_method_25_code 72 = .ok (.if_icmp .eq 9, 3) by decide +kernel) (by decide)) ?_
  refine xA (ok_iinc hC (show decode prog_14_method_25_code 75 = .ok (.iinc 1 1, 3) by decide +kernel) (by decide) (by decide)) ?_
  refine xA (ok_goto hC (show decode prog_14_method_25_code 78 = .ok (.goto (-45), 3) by decide +kernel) (by decide)) ?_
  refine xA (ok_iload_n hC (show decode prog_14_method_25_code 81 = .ok (.iload_n 1, 1) by decide +kernel) rfl) ?_
  refine xA (ok_aload_n hC (show decode prog_14_method_25_code 82 = .ok (.aload_n 0, 1) by decide +kernel) rfl) ?_
  refine xA (ok_get hC (show decode prog_14_method_25_code 83 = .ok (.getfield 208, 3) by decide +kernel) (by decide) (r0 := ("StyleCourtModel", xF13, 85)) rfl (by decide) rfl w_1154) ?_
  refine xA (ok_iclt hC (show decode prog_14_method_25_code 86 = .ok (.if_icmp .lt 11, 3) by decide +kernel) (by decide)) ?_
  refine xA (ok_aload_n hC (show decode prog_14_method_25_code 89 = .ok (.aload_n 0, 1) by decide +kernel) rfl) ?_
  refine xA (ok_aload_n hC (show decode prog_14_method_25_code 90 = .ok (.aload_n 0, 1) by decide +kernel) rfl) ?_
  refine xA (ok_get hC (show decode prog_14_method_25_code 91 = .ok (.getfield 208, 3) by decide +kernel) (by decide) (r0 := ("StyleCourtModel", xF13, 85)) rfl (by decide) rfl w_1154) ?_
  refine xA (ok_callV hC hnh (show decode prog_14_method_25_code 94 = .ok (.invokevirtual 221, 3) by decide +kernel) (by decide) (by decide) (by decide) (r0 := ("StyleCourtModel", xF13, 85)) rfl ⟨by decide, by decide, by decide +kernel⟩ w_1448 w_83 w_1445 w_1447 w_31) ?_
  refine xA (ok_aload_n hC (show decode prog_14_method_25_code 97 = .ok (.aload_n 0, 1) by decide +kernel) rfl) ?_
  refine xA (ok_iload_n hC (show decode prog_14_method_25_code 98 = .ok (.iload_n 1, 1) by decide +kernel) rfl) ?_
  refine xA (ok_iconst hC (show decode prog_14_method_25_code 99 = .ok (.iconst 3, 1) by decide +kernel) (by decide)) ?_
  refine xA (ok_iadd hC (show decode prog_14_method_25_code 100 = .ok (.iadd, 1) by decide +kernel)) ?_
  refine xA (ok_put hC (show decode prog_14_method_25_code 101 = .ok (.putfield 227, 3) by decide +kernel) (by decide) (r0 := ("StyleCourtModel", xF13, 85)) rfl (by decide) rfl (by decide +kernel) w_1183) ?_
  refine xA (ok_vret hC hr (show decode prog_14_method_25_code 104 = .ok (.return_, 1) by decide +kernel)) ?_
  exact trivial

def tb_Mo_defined (X : xX) : List (Nat × xOp) := [(0, o_ald 0 1),
  (1, o_get 13 38 4),
  (4, o_ic 2 5),
  (5, o_iadd 6),
  (6, o_ist 1 7),
  (7, o_ald 0 8),
  (8, o_ild 1 9),
  (9, o_callV X.l X.D X.P 13 1 2 y_Mo_nameFrom 12),
  (12, o_ist 2 13),
  (13, o_ald 0 14),
  (14, o_get 13 6 17),
  (17, o_iflt 21 20),
  (20, o_vret X.P),
  (21, o_ald 0 22),
  (22, o_ild 1 23),
  (23, o_ild 2 24),
  (24, o_ild 1 25),
  (25, o_isub 26),
  (26, o_callV X.l X.D X.P 13 1 3 y_Mo_isFixed 29),
  (29, o_ifne 52 32),
  (32, o_ald 0 33),
  (33, o_ild 1 34),
  (34, o_ild 2 35),
  (35, o_ild 1 36),
  (36, o_isub 37),
  (37, o_callV X.l X.D X.P 13 1 3 y_Mo_entity 40),
  (40, o_ifge 52 43),
  (43, o_ald 0 44),
  (44, o_get 13 37 47),
  (47, o_ic 40 49),
  (49, o_icne 58 52),
  (52, o_ald 0 53),
  (53, o_ild 1 54),
  (54, o_callV X.l X.D X.P 13 0 2 y_Mo_wrong 57),
  (57, o_vret X.P),
  (58, o_ald 0 59),
  (59, o_ild 2 60),
  (60, o_put 13 38 (.int) 63),
  (63, o_ald 0 64),
  (64, o_callV X.l X.D X.P 13 1 1 y_Mo_blanks 67),
  (67, o_ald 0 68),
  (68, o_get 13 38 71),
  (71, o_ist 3 72),
  (72, o_ald 0 73),
  (73, o_ald 0 74),
  (74, o_ild 3 75),
  (75, o_callV X.l X.D X.P 13 1 2 y_Mo_stringFrom 78),
  (78, o_put 13 38 (.int) 81),
  (81, o_ald 0 82),
  (82, o_get 13 6 85),
  (85, o_iflt 89 88),
  (88, o_vret X.P),
  (89, o_ild 3 90),
  (90, o_ic 1 91),
  (91, o_iadd 92),
  (92, o_ist 4 94),
  (94, o_ild 4 96),
  (96, o_ald 0 97),
  (97, o_get 13 38 100),
  (100, o_ic 1 101),
  (101, o_isub 102),
  (102, o_icge 142 105),
  (105, o_ald 0 106),
  (106, o_ild 4 108),
  (108, o_callV X.l X.D X.P 13 0 2 y_Mo_byteAt 111),
  (111, o_ic 60 113),
  (113, o_iceq 130 116),
  (116, o_ald 0 117),
  (117, o_ild 4 119),
  (119, o_callV X.l X.D X.P 13 0 2 y_Mo_byteAt 122),
  (122, o_ic 38 124),
  (124, o_iceq 130 127),
  (127, o_goto 136),
  (130, o_ald 0 131),
  (131, o_ild 3 132),
  (132, o_callV X.l X.D X.P 13 0 2 y_Mo_wrong 135),
  (135, o_vret X.P),
  (136, o_inc 4 1 139),
  (139, o_goto 94),
  (142, o_ald 0 143),
  (143, o_callV X.l X.D X.P 13 1 1 y_Mo_blanks 146),
  (146, o_ald 0 147),
  (147, o_ald 0 148),
  (148, o_get 13 38 151),
  (151, o_callV X.l X.D X.P 13 0 2 y_Mo_byteAt 154),
  (154, o_ic 62 156),
  (156, o_iceq 168 159),
  (159, o_ald 0 160),
  (160, o_ald 0 161),
  (161, o_get 13 38 164),
  (164, o_callV X.l X.D X.P 13 0 2 y_Mo_wrong 167),
  (167, o_vret X.P),
  (168, o_ald 0 169),
  (169, o_dup 170),
  (170, o_get 13 38 173),
  (173, o_ic 1 174),
  (174, o_iadd 175),
  (175, o_put 13 38 (.int) 178),
  (178, o_ald 0 179),
  (179, o_get 13 33 182),
  (182, o_ald 0 183),
  (183, o_get 13 37 186),
  (186, o_ild 1 187),
  (187, o_iast 0 188),
  (188, o_ald 0 189),
  (189, o_get 13 34 192),
  (192, o_ald 0 193),
  (193, o_get 13 37 196),
  (196, o_ild 2 197),
  (197, o_ild 1 198),
  (198, o_isub 199),
  (199, o_iast 0 200),
  (200, o_ald 0 201),
  (201, o_get 13 35 204),
  (204, o_ald 0 205),
  (205, o_get 13 37 208),
  (208, o_ild 3 209),
  (209, o_ic 1 210),
  (210, o_iadd 211),
  (211, o_iast 0 212),
  (212, o_ald 0 213),
  (213, o_get 13 36 216),
  (216, o_ald 0 217),
  (217, o_get 13 37 220),
  (220, o_ald 0 221),
  (221, o_ild 3 222),
  (222, o_callV X.l X.D X.P 13 1 2 y_Mo_behindString 225),
  (225, o_ild 3 226),
  (226, o_isub 227),
  (227, o_ic 2 228),
  (228, o_isub 229),
  (229, o_iast 0 230),
  (230, o_ald 0 231),
  (231, o_dup 232),
  (232, o_get 13 37 235),
  (235, o_ic 1 236),
  (236, o_iadd 237),
  (237, o_put 13 37 (.int) 240),
  (240, o_vret X.P)]
theorem tk_Mo_defined {X : xX} (hC : xCx X prog_14_method_23_code "StyleCourtModel" 5 2) (hr : X.meth.sig.returnType = none) (hnh : X.c.exceptionTable.isEmpty = true) (hin : X.meth.name = "defined") : xAll X (tb_Mo_defined X) := by
  refine xA (ok_aload_n hC (show decode prog_14_method_23_code 0 = .ok (.aload_n 0, 1) by decide +kernel) rfl) ?_
  refine xA (ok_get hC (show decode prog_14_method_23_code 1 = .ok (.getfield 227, 3) by decide +kernel) (by decide) (r0 := ("StyleCourtModel", xF13, 85)) rfl (by decide) rfl w_1183) ?_
  refine xA (ok_iconst hC (show decode prog_14_method_23_code 4 = .ok (.iconst 2, 1) by decide +kernel) (by decide)) ?_
  refine xA (ok_iadd hC (show decode prog_14_method_23_code 5 = .ok (.iadd, 1) by decide +kernel)) ?_
  refine xA (ok_istore_n hC (show decode prog_14_method_23_code 6 = .ok (.istore_n 1, 1) by decide +kernel) rfl (by decide)) ?_
  refine xA (ok_aload_n hC (show decode prog_14_method_23_code 7 = .ok (.aload_n 0, 1) by decide +kernel) rfl) ?_
  refine xA (ok_iload_n hC (show decode prog_14_method_23_code 8 = .ok (.iload_n 1, 1) by decide +kernel) rfl) ?_
  refine xA (ok_callV hC hnh (show decode prog_14_method_23_code 9 = .ok (.invokevirtual 251, 3) by decide +kernel) (by decide) (by decide) (by decide) (r0 := ("StyleCourtModel", xF13, 85)) rfl ⟨by decide, by decide, by decide +kernel⟩ w_1452 w_83 w_1449 w_1451 w_32) ?_
  refine xA (ok_istore_n hC (show decode prog_14_method_23_code 12 = .ok (.istore_n 2, 1) by decide +kernel) rfl (by decide)) ?_
  refine xA (ok_aload_n hC (show decode prog_14_method_23_code 13 = .ok (.aload_n 0, 1) by decide +kernel) rfl) ?_
  refine xA (ok_get hC (show decode prog_14_method_23_code 14 = .ok (.getfield 211, 3) by decide +kernel) (by decide) (r0 := ("StyleCourtModel", xF13, 85)) rfl (by decide) rfl w_1151) ?_
  refine xA (ok_iflt hC (show decode prog_14_method_23_code 17 = .ok (.ifCond .lt 4, 3) by decide +kernel) (by decide)) ?_
  refine xA (ok_vret hC hr (show decode prog_14_method_23_code 20 = .ok (.return_, 1) by decide +kernel)) ?_
  refine xA (ok_aload_n hC (show decode prog_14_method_23_code 21 = .ok (.aload_n 0, 1) by decide +kernel) rfl) ?_
  refine xA (ok_iload_n hC (show decode prog_14_method_23_code 22 = .ok (.iload_n 1, 1) by decide +kernel) rfl) ?_
  refine xA (ok_iload_n hC (show decode prog_14_method_23_code 23 = .ok (.iload_n 2, 1) by decide +kernel) rfl) ?_
  refine xA (ok_iload_n hC (show decode prog_14_method_23_code 24 = .ok (.iload_n 1, 1) by decide +kernel) rfl) ?_
  refine xA (ok_isub hC (show decode prog_14_method_23_code 25 = .ok (.isub, 1) by decide +kernel)) ?_
  refine xA (ok_callV hC hnh (show decode prog_14_method_23_code 26 = .ok (.invokevirtual 258, 3) by decide +kernel) (by decide) (by decide) (by decide) (r0 := ("StyleCourtModel", xF13, 85)) rfl ⟨by decide, by decide, by decide +kernel⟩ w_1481 w_83 w_1478 w_1480 w_37) ?_
  refine xA (ok_ifne hC (show decode prog_14_method_23_code 29 = .ok (.ifCond .ne 23, 3) by decide +kernel) (by decide)) ?_
  refine xA (ok_aload_n hC (show decode prog_14_method_23_code 32 = .ok (.aload_n 0, 1) by decide +kernel) rfl) ?_
  refine xA (ok_iload_n hC (show decode prog_14_method_23_code 33 = .ok (.iload_n 1, 1) by decide +kernel) rfl) ?_
  refine xA (ok_iload_n hC (show decode prog_14_method_23_code 34 = .ok (.iload_n 2, 1) by decide +kernel) rfl) ?_
  refine xA (ok_iload_n hC (show decode prog_14_method_23_code 35 = .ok (.iload_n 1, 1) by decide +kernel) rfl) ?_
  refine xA (ok_isub hC (show decode prog_14_method_23_code 36 = .ok (.isub, 1) by decide +kernel)) ?_
  refine xA (ok_callV hC hnh (show decode prog_14_method_23_code 37 = .ok (.invokevirtual 254, 3) by decide +kernel) (by decide) (by decide) (by decide) (r0 := ("StyleCourtModel", xF13, 85)) rfl ⟨by decide, by decide, by decide +kernel⟩ w_1491 w_83 w_1488 w_1490 w_39) ?_
  refine xA (ok_ifge hC (show decode prog_14_method_23_code 40 = .ok (.ifCond .ge 12, 3) by decide +kernel) (by decide)) ?_
  refine xA (ok_aload_n hC (show decode prog_14_method_23_code 43 = .ok (.aload_n 0, 1) by decide +kernel) rfl) ?_
  refine xA (ok_get hC (show decode prog_14_method_23_code 44 = .ok (.getfield 236, 3) by decide +kernel) (by decide) (r0 := ("StyleCourtModel", xF13, 85)) rfl (by decide) rfl w_1182) ?_
  refine xA (ok_bipush hC (show decode prog_14_method_23_code 47 = .ok (.bipush 40, 2) by decide +kernel) (by decide)) ?_
  refine xA (ok_icne hC (show decode prog_14_method_23_code 49 = .ok (.if_icmp .ne 9, 3) by decide +kernel) (by decide)) ?_
  refine xA (ok_aload_n hC (show decode prog_14_method_23_code 52 = .ok (.aload_n 0, 1) by decide +kernel) rfl) ?_
  refine xA (ok_iload_n hC (show decode prog_14_method_23_code 53 = .ok (.iload_n 1, 1) by decide +kernel) rfl) ?_
  refine xA (ok_callV hC hnh (show decode prog_14_method_23_code 54 = .ok (.invokevirtual 221, 3) by decide +kernel) (by decide) (by decide) (by decide) (r0 := ("StyleCourtModel", xF13, 85)) rfl ⟨by decide, by decide, by decide +kernel⟩ w_1448 w_83 w_1445 w_1447 w_31) ?_
  refine xA (ok_vret hC hr (show decode prog_14_method_23_code 57 = .ok (.return_, 1) by decide +kernel)) ?_
  refine xA (ok_aload_n hC (show decode prog_14_method_23_code 58 = .ok (.aload_n 0, 1) by decide +kernel) rfl) ?_
  refine xA (ok_iload_n hC (show decode prog_14_method_23_code 59 = .ok (.iload_n 2, 1) by decide +kernel) rfl) ?_
  refine xA (ok_put hC (show decode prog_14_method_23_code 60 = .ok (.putfield 227, 3) by decide +kernel) (by decide) (r0 := ("StyleCourtModel", xF13, 85)) rfl (by decide) rfl (by decide +kernel) w_1183) ?_
  refine xA (ok_aload_n hC (show decode prog_14_method_23_code 63 = .ok (.aload_n 0, 1) by decide +kernel) rfl) ?_
  refine xA (ok_callV hC hnh (show decode prog_14_method_23_code 64 = .ok (.invokevirtual 266, 3) by decide +kernel) (by decide) (by decide) (by decide) (r0 := ("StyleCourtModel", xF13, 85)) rfl ⟨by decide, by decide, by decide +kernel⟩ w_1466 w_83 w_1463 w_1465 w_34) ?_
  refine xA (ok_aload_n hC (show decode prog_14_method_23_code 67 = .ok (.aload_n 0, 1) by decide +kernel) rfl) ?_
  refine xA (ok_get hC (show decode prog_14_method_23_code 68 = .ok (.getfield 227, 3) by decide +kernel) (by decide) (r0 := ("StyleCourtModel", xF13, 85)) rfl (by decide) rfl w_1183) ?_
  refine xA (ok_istore_n hC (show decode prog_14_method_23_code 71 = .ok (.istore_n 3, 1) by decide +kernel) rfl (by decide)) ?_
  refine xA (ok_aload_n hC (show decode prog_14_method_23_code 72 = .ok (.aload_n 0, 1) by decide +kernel) rfl) ?_
  refine xA (ok_aload_n hC (show decode prog_14_method_23_code 73 = .ok (.aload_n 0, 1) by decide +kernel) rfl) ?_
  refine xA (ok_iload_n hC (show decode prog_14_method_23_code 74 = .ok (.iload_n 3, 1) by decide +kernel) rfl) ?_
  refine xA (ok_callV hC hnh (show decode prog_14_method_23_code 75 = .ok (.invokevirtual 269, 3) by decide +kernel) (by decide) (by decide) (by decide) (r0 := ("StyleCourtModel", xF13, 85)) rfl ⟨by decide, by decide, by decide +kernel⟩ w_1495 w_83 w_1492 w_1494 w_40) ?_
  refine xA (ok_put hC (show decode prog_14_method_23_code 78 = .ok (.putfield 227, 3) by decide +kernel) (by decide) (r0 := ("StyleCourtModel", xF13, 85)) rfl (by decide) rfl (by decide +kernel) w_1183) ?_
  refine xA (ok_aload_n hC (show decode prog_14_method_23_code 81 = .ok (.aload_n 0, 1) by decide +kernel) rfl) ?_
  refine xA (ok_get hC (show decode prog_14_method_23_code 82 = .ok (.getfield 211, 3) by decide +kernel) (by decide) (r0 := ("StyleCourtModel", xF13, 85)) rfl (by decide) rfl w_1151) ?_
  refine xA (ok_iflt hC (show decode prog_14_method_23_code 85 = .ok (.ifCond .lt 4, 3) by decide +kernel) (by decide)) ?_
  refine xA (ok_vret hC hr (show decode prog_14_method_23_code 88 = .ok (.return_, 1) by decide +kernel)) ?_
  refine xA (ok_iload_n hC (show decode prog_14_method_23_code 89 = .ok (.iload_n 3, 1) by decide +kernel) rfl) ?_
  refine xA (ok_iconst hC (show decode prog_14_method_23_code 90 = .ok (.iconst 1, 1) by decide +kernel) (by decide)) ?_
  refine xA (ok_iadd hC (show decode prog_14_method_23_code 91 = .ok (.iadd, 1) by decide +kernel)) ?_
  refine xA (ok_istore hC (show decode prog_14_method_23_code 92 = .ok (.istore 4, 2) by decide +kernel) (by decide)) ?_
  refine xA (ok_iload hC (show decode prog_14_method_23_code 94 = .ok (.iload 4, 2) by decide +kernel)) ?_
  refine xA (ok_aload_n hC (show decode prog_14_method_23_code 96 = .ok (.aload_n 0, 1) by decide +kernel) rfl) ?_
  refine xA (ok_get hC (show decode prog_14_method_23_code 97 = .ok (.getfield 227, 3) by decide +kernel) (by decide) (r0 := ("StyleCourtModel", xF13, 85)) rfl (by decide) rfl w_1183) ?_
  refine xA (ok_iconst hC (show decode prog_14_method_23_code 100 = .ok (.iconst 1, 1) by decide +kernel) (by decide)) ?_
  refine xA (ok_isub hC (show decode prog_14_method_23_code 101 = .ok (.isub, 1) by decide +kernel)) ?_
  refine xA (ok_icge hC (show decode prog_14_method_23_code 102 = .ok (.if_icmp .ge 40, 3) by decide +kernel) (by decide)) ?_
  refine xA (ok_aload_n hC (show decode prog_14_method_23_code 105 = .ok (.aload_n 0, 1) by decide +kernel) rfl) ?_
  refine xA (ok_iload hC (show decode prog_14_method_23_code 106 = .ok (.iload 4, 2) by decide +kernel)) ?_
  refine xA (ok_callV hC hnh (show decode prog_14_method_23_code 108 = .ok (.invokevirtual 214, 3) by decide +kernel) (by decide) (by decide) (by decide) (r0 := ("StyleCourtModel", xF13, 85)) rfl ⟨by decide, by decide, by decide +kernel⟩ w_1440 w_83 w_1437 w_1439 w_29) ?_
  refine xA (ok_bipush hC (show decode prog_14_method_23_code 111 = .ok (.bipush 60, 2) by decide +kernel) (by decide)) ?_
  refine xA (ok_iceq hC (show decode prog_14_method_23_code 113 = .ok (.if_icmp .eq 17, 3) by decide +kernel) (by decide)) ?_
  refine xA (ok_aload_n hC (show decode prog_14_method_23_code 116 = .ok (.aload_n 0, 1) by decide +kernel) rfl) ?_
  refine xA (ok_iload hC (show decode prog_14_method_23_code 117 = .ok (.iload 4, 2) by decide +kernel)) ?_
  refine xA (ok_callV hC hnh (show decode prog_14_method_23_code 119 = .ok (.invokevirtual 214, 3) by decide +kernel) (by decide) (by decide) (by decide) (r0 := ("StyleCourtModel", xF13, 85)) rfl ⟨by decide, by decide, by decide +kernel⟩ w_1440 w_83 w_1437 w_1439 w_29) ?_
  refine xA (ok_bipush hC (show decode prog_14_method_23_code 122 = .ok (.bipush 38, 2) by decide +kernel) (by decide)) ?_
  refine xA (ok_iceq hC (show decode prog_14_method_23_code 124 = .ok (.if_icmp .eq 6, 3) by decide +kernel) (by decide)) ?_
  refine xA (ok_goto hC (show decode prog_14_method_23_code 127 = .ok (.goto 9, 3) by decide +kernel) (by decide)) ?_
  refine xA (ok_aload_n hC (show decode prog_14_method_23_code 130 = .ok (.aload_n 0, 1) by decide +kernel) rfl) ?_
  refine xA (ok_iload_n hC (show decode prog_14_method_23_code 131 = .ok (.iload_n 3, 1) by decide +kernel) rfl) ?_
  refine xA (ok_callV hC hnh (show decode prog_14_method_23_code 132 = .ok (.invokevirtual 221, 3) by decide +kernel) (by decide) (by decide) (by decide) (r0 := ("StyleCourtModel", xF13, 85)) rfl ⟨by decide, by decide, by decide +kernel⟩ w_1448 w_83 w_1445 w_1447 w_31) ?_
  refine xA (ok_vret hC hr (show decode prog_14_method_23_code 135 = .ok (.return_, 1) by decide +kernel)) ?_
  refine xA (ok_iinc hC (show decode prog_14_method_23_code 136 = .ok (.iinc 4 1, 3) by decide +kernel) (by decide) (by decide)) ?_
  refine xA (ok_goto hC (show decode prog_14_method_23_code 139 = .ok (.goto (-45), 3) by decide +kernel) (by decide)) ?_
  refine xA (ok_aload_n hC (show decode prog_14_method_23_code 142 = .ok (.aload_n 0, 1) by decide +kernel) rfl) ?_
  refine xA (ok_callV hC hnh (show decode prog_14_method_23_code 143 = .ok (.invokevirtual 266, 3) by decide +kernel) (by decide) (by decide) (by decide) (r0 := ("StyleCourtModel", xF13, 85)) rfl ⟨by decide, by decide, by decide +kernel⟩ w_1466 w_83 w_1463 w_1465 w_34) ?_
  refine xA (ok_aload_n hC (show decode prog_14_method_23_code 146 = .ok (.aload_n 0, 1) by decide +kernel) rfl) ?_
  refine xA (ok_aload_n hC (show decode prog_14_method_23_code 147 = .ok (.aload_n 0, 1) by decide +kernel) rfl) ?_
  refine xA (ok_get hC (show decode prog_14_method_23_code 148 = .ok (.getfield 227, 3) by decide +kernel) (by decide) (r0 := ("StyleCourtModel", xF13, 85)) rfl (by decide) rfl w_1183) ?_
  refine xA (ok_callV hC hnh (show decode prog_14_method_23_code 151 = .ok (.invokevirtual 214, 3) by decide +kernel) (by decide) (by decide) (by decide) (r0 := ("StyleCourtModel", xF13, 85)) rfl ⟨by decide, by decide, by decide +kernel⟩ w_1440 w_83 w_1437 w_1439 w_29) ?_
  refine xA (ok_bipush hC (show decode prog_14_method_23_code 154 = .ok (.bipush 62, 2) by decide +kernel) (by decide)) ?_
  refine xA (ok_iceq hC (show decode prog_14_method_23_code 156 = .ok (.if_icmp .eq 12, 3) by decide +kernel) (by decide)) ?_
  refine xA (ok_aload_n hC (show decode prog_14_method_23_code 159 = .ok (.aload_n 0, 1) by decide +kernel) rfl) ?_
  refine xA (ok_aload_n hC (show decode prog_14_method_23_code 160 = .ok (.aload_n 0, 1) by decide +kernel) rfl) ?_
  refine xA (ok_get hC (show decode prog_14_method_23_code 161 = .ok (.getfield 227, 3) by decide +kernel) (by decide) (r0 := ("StyleCourtModel", xF13, 85)) rfl (by decide) rfl w_1183) ?_
  refine xA (ok_callV hC hnh (show decode prog_14_method_23_code 164 = .ok (.invokevirtual 221, 3) by decide +kernel) (by decide) (by decide) (by decide) (r0 := ("StyleCourtModel", xF13, 85)) rfl ⟨by decide, by decide, by decide +kernel⟩ w_1448 w_83 w_1445 w_1447 w_31) ?_
  refine xA (ok_vret hC hr (show decode prog_14_method_23_code 167 = .ok (.return_, 1) by decide +kernel)) ?_
  refine xA (ok_aload_n hC (show decode prog_14_method_23_code 168 = .ok (.aload_n 0, 1) by decide +kernel) rfl) ?_
  refine xA (ok_dup hC (show decode prog_14_method_23_code 169 = .ok (.dup, 1) by decide +kernel)) ?_
  refine xA (ok_get hC (show decode prog_14_method_23_code 170 = .ok (.getfield 227, 3) by decide +kernel) (by decide) (r0 := ("StyleCourtModel", xF13, 85)) rfl (by decide) rfl w_1183) ?_
  refine xA (ok_iconst hC (show decode prog_14_method_23_code 173 = .ok (.iconst 1, 1) by decide +kernel) (by decide)) ?_
  refine xA (ok_iadd hC (show decode prog_14_method_23_code 174 = .ok (.iadd, 1) by decide +kernel)) ?_
  refine xA (ok_put hC (show decode prog_14_method_23_code 175 = .ok (.putfield 227, 3) by decide +kernel) (by decide) (r0 := ("StyleCourtModel", xF13, 85)) rfl (by decide) rfl (by decide +kernel) w_1183) ?_
  refine xA (ok_aload_n hC (show decode prog_14_method_23_code 178 = .ok (.aload_n 0, 1) by decide +kernel) rfl) ?_
  refine xA (ok_get hC (show decode prog_14_method_23_code 179 = .ok (.getfield 85, 3) by decide +kernel) (by decide) (r0 := ("StyleCourtModel", xF13, 85)) rfl (by decide) rfl w_1178) ?_
  refine xA (ok_aload_n hC (show decode prog_14_method_23_code 182 = .ok (.aload_n 0, 1) by decide +kernel) rfl) ?_
  refine xA (ok_get hC (show decode prog_14_method_23_code 183 = .ok (.getfield 236, 3) by decide +kernel) (by decide) (r0 := ("StyleCourtModel", xF13, 85)) rfl (by decide) rfl w_1182) ?_
  refine xA (ok_iload_n hC (show decode prog_14_method_23_code 186 = .ok (.iload_n 1, 1) by decide +kernel) rfl) ?_
  refine xA (ok_iast hC (show decode prog_14_method_23_code 187 = .ok (.iastore, 1) by decide +kernel) (by decide) rfl) ?_
  refine xA (ok_aload_n hC (show decode prog_14_method_23_code 188 = .ok (.aload_n 0, 1) by decide +kernel) rfl) ?_
  refine xA (ok_get hC (show decode prog_14_method_23_code 189 = .ok (.getfield 88, 3) by decide +kernel) (by decide) (r0 := ("StyleCourtModel", xF13, 85)) rfl (by decide) rfl w_1179) ?_
  refine xA (ok_aload_n hC (show decode prog_14_method_23_code 192 = .ok (.aload_n 0, 1) by decide +kernel) rfl) ?_
  refine xA (ok_get hC (show decode prog_14_method_23_code 193 = .ok (.getfield 236, 3) by decide +kernel) (by decide) (r0 := ("StyleCourtModel", xF13, 85)) rfl (by decide) rfl w_1182) ?_
  refine xA (ok_iload_n hC (show decode prog_14_method_23_code 196 = .ok (.iload_n 2, 1) by decide +kernel) rfl) ?_
  refine xA (ok_iload_n hC (show decode prog_14_method_23_code 197 = .ok (.iload_n 1, 1) by decide +kernel) rfl) ?_
  refine xA (ok_isub hC (show decode prog_14_method_23_code 198 = .ok (.isub, 1) by decide +kernel)) ?_
  refine xA (ok_iast hC (show decode prog_14_method_23_code 199 = .ok (.iastore, 1) by decide +kernel) (by decide) rfl) ?_
  refine xA (ok_aload_n hC (show decode prog_14_method_23_code 200 = .ok (.aload_n 0, 1) by decide +kernel) rfl) ?_
  refine xA (ok_get hC (show decode prog_14_method_23_code 201 = .ok (.getfield 91, 3) by decide +kernel) (by decide) (r0 := ("StyleCourtModel", xF13, 85)) rfl (by decide) rfl w_1180) ?_
  refine xA (ok_aload_n hC (show decode prog_14_method_23_code 204 = .ok (.aload_n 0, 1) by decide +kernel) rfl) ?_
  refine xA (ok_get hC (show decode prog_14_method_23_code 205 = .ok (.getfield 236, 3) by decide +kernel) (by decide) (r0 := ("StyleCourtModel", xF13, 85)) rfl (by decide) rfl w_1182) ?_
  refine xA (ok_iload_n hC (show decode prog_14_method_23_code 208 = .ok (.iload_n 3, 1) by decide +kernel) rfl) ?_
  refine xA (ok_iconst hC (show decode prog_14_method_23_code 209 = .ok (.iconst 1, 1) by decide +kernel) (by decide)) ?_
  refine xA (ok_iadd hC (show decode prog_14_method_23_code 210 = .ok (.iadd, 1) by decide +kernel)) ?_
  refine xA (ok_iast hC (show decode prog_14_method_23_code 211 = .ok (.iastore, 1) by decide +kernel) (by decide) rfl) ?_
  refine xA (ok_aload_n hC (show decode prog_14_method_23_code 212 = .ok (.aload_n 0, 1) by decide +kernel) rfl) ?_
  refine xA (ok_get hC (show decode prog_14_method_23_code 213 = .ok (.getfield 94, 3) by decide +kernel) (by decide) (r0 := ("StyleCourtModel", xF13, 85)) rfl (by decide) rfl w_1181) ?_
  refine xA (ok_aload_n hC (show decode prog_14_method_23_code 216 = .ok (.aload_n 0, 1) by decide +kernel) rfl) ?_
  refine xA (ok_get hC (show decode prog_14_method_23_code 217 = .ok (.getfield 236, 3) by decide +kernel) (by decide) (r0 := ("StyleCourtModel", xF13, 85)) rfl (by decide) rfl w_1182) ?_
  refine xA (ok_aload_n hC (show decode prog_14_method_23_code 220 = .ok (.aload_n 0, 1) by decide +kernel) rfl) ?_
  refine xA (ok_iload_n hC (show decode prog_14_method_23_code 221 = .ok (.iload_n 3, 1) by decide +kernel) rfl) ?_
  refine xA (ok_callV hC hnh (show decode prog_14_method_23_code 222 = .ok (.invokevirtual 272, 3) by decide +kernel) (by decide) (by decide) (by decide) (r0 := ("StyleCourtModel", xF13, 85)) rfl ⟨by decide, by decide, by decide +kernel⟩ w_1499 w_83 w_1496 w_1498 w_41) ?_
  refine xA (ok_iload_n hC (show decode prog_14_method_23_code 225 = .ok (.iload_n 3, 1) by decide +kernel) rfl) ?_
  refine xA (ok_isub hC (show decode prog_14_method_23_code 226 = .ok (.isub, 1) by decide +kernel)) ?_
  refine xA (ok_iconst hC (show decode prog_14_method_23_code 227 = .ok (.iconst 2, 1) by decide +kernel) (by decide)) ?_
  refine xA (ok_isub hC (show decode prog_14_method_23_code 228 = .ok (.isub, 1) by decide +kernel)) ?_
  refine xA (ok_iast hC (show decode prog_14_method_23_code 229 = .ok (.iastore, 1) by decide +kernel) (by decide) rfl) ?_
  refine xA (ok_aload_n hC (show decode prog_14_method_23_code 230 = .ok (.aload_n 0, 1) by decide +kernel) rfl) ?_
  refine xA (ok_dup hC (show decode prog_14_method_23_code 231 = .ok (.dup, 1) by decide +kernel)) ?_
  refine xA (ok_get hC (show decode prog_14_method_23_code 232 = .ok (.getfield 236, 3) by decide +kernel) (by decide) (r0 := ("StyleCourtModel", xF13, 85)) rfl (by decide) rfl w_1182) ?_
  refine xA (ok_iconst hC (show decode prog_14_method_23_code 235 = .ok (.iconst 1, 1) by decide +kernel) (by decide)) ?_
  refine xA (ok_iadd hC (show decode prog_14_method_23_code 236 = .ok (.iadd, 1) by decide +kernel)) ?_
  refine xA (ok_put hC (show decode prog_14_method_23_code 237 = .ok (.putfield 236, 3) by decide +kernel) (by decide) (r0 := ("StyleCourtModel", xF13, 85)) rfl (by decide) rfl (by decide +kernel) w_1182) ?_
  refine xA (ok_vret hC hr (show decode prog_14_method_23_code 240 = .ok (.return_, 1) by decide +kernel)) ?_
  exact trivial
