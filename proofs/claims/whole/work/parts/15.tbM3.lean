def tb_Mo_selector (X : xX) : List (Nat × xOp) := [(0, o_ald 0 1),
  (1, o_get 13 53 4),
  (4, o_ild 1 5),
  (5, o_ald 0 6),
  (6, o_get 13 51 9),
  (9, o_iast 0 10),
  (10, o_ald 0 11),
  (11, o_get 13 54 14),
  (14, o_ild 1 15),
  (15, o_ic 0 16),
  (16, o_iast 0 17),
  (17, o_ald 0 18),
  (18, o_get 13 56 21),
  (21, o_ild 1 22),
  (22, o_ic 0 23),
  (23, o_iast 0 24),
  (24, o_ald 0 25),
  (25, o_ild 1 26),
  (26, o_ic 0 27),
  (27, o_callV X.l X.D X.P 13 4 3 y_Mo_step 30),
  (30, o_ald 0 31),
  (31, o_get 13 6 34),
  (34, o_ifge 82 37),
  (37, o_ald 0 38),
  (38, o_ic 62 40),
  (40, o_callV X.l X.D X.P 13 0 2 y_Mo_isSign 43),
  (43, o_ifne 64 46),
  (46, o_ald 0 47),
  (47, o_ic 47 49),
  (49, o_callV X.l X.D X.P 13 0 2 y_Mo_isSign 52),
  (52, o_ifne 64 55),
  (55, o_ald 0 56),
  (56, o_ic 43 58),
  (58, o_callV X.l X.D X.P 13 0 2 y_Mo_isSign 61),
  (61, o_ifeq 82 64),
  (64, o_ald 0 65),
  (65, o_get 13 49 68),
  (68, o_ist 2 69),
  (69, o_ald 0 70),
  (70, o_callV X.l X.D X.P 13 1 1 y_Mo_next 73),
  (73, o_ald 0 74),
  (74, o_ild 1 75),
  (75, o_ild 2 76),
  (76, o_callV X.l X.D X.P 13 4 3 y_Mo_step 79),
  (79, o_goto 30),
  (82, o_vret X.P)]
theorem tk_Mo_selector {X : xX} (hC : xCx X prog_14_method_38_code "StyleCourtModel" 3 5) (hr : X.meth.sig.returnType = none) (hnh : X.c.exceptionTable.isEmpty = true) (hin : X.meth.name = "selector") : xAll X (tb_Mo_selector X) := by
  refine xA (ok_aload_n hC (show decode prog_14_method_38_code 0 = .ok (.aload_n 0, 1) by decide +kernel) rfl) ?_
  refine xA (ok_get hC (show decode prog_14_method_38_code 1 = .ok (.getfield 103, 3) by decide +kernel) (by decide) (r0 := ("StyleCourtModel", xF13, 85)) rfl (by decide) rfl w_1198) ?_
  refine xA (ok_iload_n hC (show decode prog_14_method_38_code 4 = .ok (.iload_n 1, 1) by decide +kernel) rfl) ?_
  refine xA (ok_aload_n hC (show decode prog_14_method_38_code 5 = .ok (.aload_n 0, 1) by decide +kernel) rfl) ?_
  refine xA (ok_get hC (show decode prog_14_method_38_code 6 = .ok (.getfield 357, 3) by decide +kernel) (by decide) (r0 := ("StyleCourtModel", xF13, 85)) rfl (by decide) rfl w_1196) ?_
  refine xA (ok_iast hC (show decode prog_14_method_38_code 9 = .ok (.iastore, 1) by decide +kernel) (by decide) rfl) ?_
  refine xA (ok_aload_n hC (show decode prog_14_method_38_code 10 = .ok (.aload_n 0, 1) by decide +kernel) rfl) ?_
  refine xA (ok_get hC (show decode prog_14_method_38_code 11 = .ok (.getfield 106, 3) by decide +kernel) (by decide) (r0 := ("StyleCourtModel", xF13, 85)) rfl (by decide) rfl w_1199) ?_
  refine xA (ok_iload_n hC (show decode prog_14_method_38_code 14 = .ok (.iload_n 1, 1) by decide +kernel) rfl) ?_
  refine xA (ok_iconst hC (show decode prog_14_method_38_code 15 = .ok (.iconst 0, 1) by decide +kernel) (by decide)) ?_
  refine xA (ok_iast hC (show decode prog_14_method_38_code 16 = .ok (.iastore, 1) by decide +kernel) (by decide) rfl) ?_
  refine xA (ok_aload_n hC (show decode prog_14_method_38_code 17 = .ok (.aload_n 0, 1) by decide +kernel) rfl) ?_
  refine xA (ok_get hC (show decode prog_14_method_38_code 18 = .ok (.getfield 112, 3) by decide +kernel) (by decide) (r0 := ("StyleCourtModel", xF13, 85)) rfl (by decide) rfl w_1201) ?_
  refine xA (ok_iload_n hC (show decode prog_14_method_38_code 21 = .ok (.iload_n 1, 1) by decide +kernel) rfl) ?_
  refine xA (ok_iconst hC (show decode prog_14_method_38_code 22 = .ok (.iconst 0, 1) by decide +kernel) (by decide)) ?_
  refine xA (ok_iast hC (show decode prog_14_method_38_code 23 = .ok (.iastore, 1) by decide +kernel) (by decide) rfl) ?_
  refine xA (ok_aload_n hC (show decode prog_14_method_38_code 24 = .ok (.aload_n 0, 1) by decide +kernel) rfl) ?_
  refine xA (ok_iload_n hC (show decode prog_14_method_38_code 25 = .ok (.iload_n 1, 1) by decide +kernel) rfl) ?_
  refine xA (ok_iconst hC (show decode prog_14_method_38_code 26 = .ok (.iconst 0, 1) by decide +kernel) (by decide)) ?_
  refine xA (ok_callV hC hnh (show decode prog_14_method_38_code 27 = .ok (.invokevirtual 366, 3) by decide +kernel) (by decide) (by decide) (by decide) (r0 := ("StyleCourtModel", xF13, 85)) rfl ⟨by decide, by decide, by decide +kernel⟩ w_1535 w_83 w_1532 w_1534 w_49) ?_
  refine xA (ok_aload_n hC (show decode prog_14_method_38_code 30 = .ok (.aload_n 0, 1) by decide +kernel) rfl) ?_
  refine xA (ok_get hC (show decode prog_14_method_38_code 31 = .ok (.getfield 211, 3) by decide +kernel) (by decide) (r0 := ("StyleCourtModel", xF13, 85)) rfl (by decide) rfl w_1151) ?_
  refine xA (ok_ifge hC (show decode prog_14_method_38_code 34 = .ok (.ifCond .ge 48, 3) by decide +kernel) (by decide)) ?_
  refine xA (ok_aload_n hC (show decode prog_14_method_38_code 37 = .ok (.aload_n 0, 1) by decide +kernel) rfl) ?_
  refine xA (ok_bipush hC (show decode prog_14_method_38_code 38 = .ok (.bipush 62, 2) by decide +kernel) (by decide)) ?_
  refine xA (ok_callV hC hnh (show decode prog_14_method_38_code 40 = .ok (.invokevirtual 332, 3) by decide +kernel) (by decide) (by decide) (by decide) (r0 := ("StyleCourtModel", xF13, 85)) rfl ⟨by decide, by decide, by decide +kernel⟩ w_1539 w_83 w_1536 w_1538 w_50) ?_
  refine xA (ok_ifne hC (show decode prog_14_method_38_code 43 = .ok (.ifCond .ne 21, 3) by decide +kernel) (by decide)) ?_
  refine xA (ok_aload_n hC (show decode prog_14_method_38_code 46 = .ok (.aload_n 0, 1) by decide +kernel) rfl) ?_
  refine xA (ok_bipush hC (show decode prog_14_method_38_code 47 = .ok (.bipush 47, 2) by decide +kernel) (by decide)) ?_
  refine xA (ok_callV hC hnh (show decode prog_14_method_38_code 49 = .ok (.invokevirtual 332, 3) by decide +kernel) (by decide) (by decide) (by decide) (r0 := ("StyleCourtModel", xF13, 85)) rfl ⟨by decide, by decide, by decide +kernel⟩ w_1539 w_83 w_1536 w_1538 w_50) ?_
  refine xA (ok_ifne hC (show decode prog_14_method_38_code 52 = .ok (.ifCond .ne 12, 3) by decide +kernel) (by decide)) ?_
  refine xA (ok_aload_n hC (show decode prog_14_method_38_code 55 = .ok (.aload_n 0, 1) by decide +kernel) rfl) ?_
  refine xA (ok_bipush hC (show decode prog_14_method_38_code 56 = .ok (.bipush 43, 2) by decide +kernel) (by decide)) ?_
  refine xA (ok_callV hC hnh (show decode prog_14_method_38_code 58 = .ok (.invokevirtual 332, 3) by decide +kernel) (by decide) (by decide) (by decide) (r0 := ("StyleCourtModel", xF13, 85)) rfl ⟨by decide, by decide, by decide +kernel⟩ w_1539 w_83 w_1536 w_1538 w_50) ?_
  refine xA (ok_ifeq hC (show decode prog_14_method_38_code 61 = .ok (.ifCond .eq 21, 3) by decide +kernel) (by decide)) ?_
  refine xA (ok_aload_n hC (show decode prog_14_method_38_code 64 = .ok (.aload_n 0, 1) by decide +kernel) rfl) ?_
  refine xA (ok_get hC (show decode prog_14_method_38_code 65 = .ok (.getfield 323, 3) by decide +kernel) (by decide) (r0 := ("StyleCourtModel", xF13, 85)) rfl (by decide) rfl w_1194) ?_
  refine xA (ok_istore_n hC (show decode prog_14_method_38_code 68 = .ok (.istore_n 2, 1) by decide +kernel) rfl (by decide)) ?_
  refine xA (ok_aload_n hC (show decode prog_14_method_38_code 69 = .ok (.aload_n 0, 1) by decide +kernel) rfl) ?_
  refine xA (ok_callV hC hnh (show decode prog_14_method_38_code 70 = .ok (.invokevirtual 335, 3) by decide +kernel) (by decide) (by decide) (by decide) (r0 := ("StyleCourtModel", xF13, 85)) rfl ⟨by decide, by decide, by decide +kernel⟩ w_1527 w_83 w_1524 w_1526 w_47) ?_
  refine xA (ok_aload_n hC (show decode prog_14_method_38_code 73 = .ok (.aload_n 0, 1) by decide +kernel) rfl) ?_
  refine xA (ok_iload_n hC (show decode prog_14_method_38_code 74 = .ok (.iload_n 1, 1) by decide +kernel) rfl) ?_
  refine xA (ok_iload_n hC (show decode prog_14_method_38_code 75 = .ok (.iload_n 2, 1) by decide +kernel) rfl) ?_
  refine xA (ok_callV hC hnh (show decode prog_14_method_38_code 76 = .ok (.invokevirtual 366, 3) by decide +kernel) (by decide) (by decide) (by decide) (r0 := ("StyleCourtModel", xF13, 85)) rfl ⟨by decide, by decide, by decide +kernel⟩ w_1535 w_83 w_1532 w_1534 w_49) ?_
  refine xA (ok_goto hC (show decode prog_14_method_38_code 79 = .ok (.goto (-49), 3) by decide +kernel) (by decide)) ?_
  refine xA (ok_vret hC hr (show decode prog_14_method_38_code 82 = .ok (.return_, 1) by decide +kernel)) ?_
  exact trivial

def tb_Mo_step (X : xX) : List (Nat × xOp) := [(0, o_ald 0 1),
  (1, o_get 13 6 4),
  (4, o_iflt 8 7),
  (7, o_vret X.P),
  (8, o_ald 0 9),
  (9, o_get 13 54 12),
  (12, o_ild 1 13),
  (13, o_ld 0 14),
  (14, o_ic 8 16),
  (16, o_iceq 36 19),
  (19, o_ald 0 20),
  (20, o_ic 42 22),
  (22, o_callV X.l X.D X.P 13 0 2 y_Mo_isSign 25),
  (25, o_ifne 45 28),
  (28, o_ald 0 29),
  (29, o_get 13 45 32),
  (32, o_ic 1 33),
  (33, o_iceq 45 36),
  (36, o_ald 0 37),
  (37, o_ald 0 38),
  (38, o_get 13 46 41),
  (41, o_callV X.l X.D X.P 13 0 2 y_Mo_wrong 44),
  (44, o_vret X.P),
  (45, o_ald 0 46),
  (46, o_get 13 51 49),
  (49, o_ist 3 50),
  (50, o_ald 0 51),
  (51, o_get 13 57 54),
  (54, o_ild 3 55),
  (55, o_ald 0 56),
  (56, o_get 13 8 59),
  (59, o_ald 0 60),
  (60, o_get 13 46 63),
  (63, o_iadd 64),
  (64, o_iast 0 65),
  (65, o_ald 0 66),
  (66, o_get 13 58 69),
  (69, o_ild 3 70),
  (70, o_ald 0 71),
  (71, o_get 13 45 74),
  (74, o_ic 1 75),
  (75, o_icne 90 78),
  (78, o_ald 0 79),
  (79, o_get 13 47 82),
  (82, o_ald 0 83),
  (83, o_get 13 46 86),
  (86, o_isub 87),
  (87, o_goto 91),
  (90, o_ic 0 91),
  (91, o_iast 0 92),
  (92, o_ald 0 93),
  (93, o_get 13 56 96),
  (96, o_ild 1 97),
  (97, o_dup2 98),
  (98, o_ld 0 99),
  (99, o_ald 0 100),
  (100, o_get 13 45 103),
  (103, o_ic 1 104),
  (104, o_icne 111 107),
  (107, o_ic 1 108),
  (108, o_goto 112),
  (111, o_ic 0 112),
  (112, o_iadd 113),
  (113, o_iast 0 114),
  (114, o_ald 0 115),
  (115, o_get 13 59 118),
  (118, o_ild 3 119),
  (119, o_ild 2 120),
  (120, o_iast 0 121),
  (121, o_ald 0 122),
  (122, o_get 13 60 125),
  (125, o_ild 3 126),
  (126, o_ald 0 127),
  (127, o_get 13 52 130),
  (130, o_iast 0 131),
  (131, o_ald 0 132),
  (132, o_get 13 61 135),
  (135, o_ild 3 136),
  (136, o_ic 0 137),
  (137, o_iast 0 138),
  (138, o_ald 0 139),
  (139, o_callV X.l X.D X.P 13 1 1 y_Mo_next 142),
  (142, o_ald 0 143),
  (143, o_get 13 6 146),
  (146, o_ifge 240 149),
  (149, o_ald 0 150),
  (150, o_ic 91 152),
  (152, o_callV X.l X.D X.P 13 0 2 y_Mo_isSign 155),
  (155, o_ifne 167 158),
  (158, o_ald 0 159),
  (159, o_ic 58 161),
  (161, o_callV X.l X.D X.P 13 0 2 y_Mo_isSign 164),
  (164, o_ifeq 240 167),
  (167, o_ald 0 168),
  (168, o_get 13 61 171),
  (171, o_ild 3 172),
  (172, o_ld 0 173),
  (173, o_ic 4 174),
  (174, o_icne 186 177),
  (177, o_ald 0 178),
  (178, o_ald 0 179),
  (179, o_get 13 46 182),
  (182, o_callV X.l X.D X.P 13 0 2 y_Mo_wrong 185),
  (185, o_vret X.P),
  (186, o_ald 0 187),
  (187, o_ic 91 189),
  (189, o_callV X.l X.D X.P 13 0 2 y_Mo_isSign 192),
  (192, o_ifeq 202 195),
  (195, o_ald 0 196),
  (196, o_callV X.l X.D X.P 13 3 1 y_Mo_bracket 199),
  (199, o_goto 206),
  (202, o_ald 0 203),
  (203, o_callV X.l X.D X.P 13 3 1 y_Mo_colon 206),
  (206, o_ald 0 207),
  (207, o_dup 208),
  (208, o_get 13 52 211),
  (211, o_ic 1 212),
  (212, o_iadd 213),
  (213, o_put 13 52 (.int) 216),
  (216, o_ald 0 217),
  (217, o_get 13 61 220),
  (220, o_ild 3 221),
  (221, o_dup2 222),
  (222, o_ld 0 223),
  (223, o_ic 1 224),
  (224, o_iadd 225),
  (225, o_iast 0 226),
  (226, o_ald 0 227),
  (227, o_get 13 56 230),
  (230, o_ild 1 231),
  (231, o_dup2 232),
  (232, o_ld 0 233),
  (233, o_ic 100 235),
  (235, o_iadd 236),
  (236, o_iast 0 237),
  (237, o_goto 142),
  (240, o_ald 0 241),
  (241, o_dup 242),
  (242, o_get 13 51 245),
  (245, o_ic 1 246),
  (246, o_iadd 247),
  (247, o_put 13 51 (.int) 250),
  (250, o_ald 0 251),
  (251, o_get 13 54 254),
  (254, o_ild 1 255),
  (255, o_dup2 256),
  (256, o_ld 0 257),
  (257, o_ic 1 258),
  (258, o_iadd 259),
  (259, o_iast 0 260),
  (260, o_vret X.P)]
theorem tk_Mo_step {X : xX} (hC : xCx X prog_14_method_37_code "StyleCourtModel" 4 4) (hr : X.meth.sig.returnType = none) (hnh : X.c.exceptionTable.isEmpty = true) (hin : X.meth.name = "step") : xAll X (tb_Mo_step X) := by
  refine xA (ok_aload_n hC (show decode prog_14_method_37_code 0 = .ok (.aload_n 0, 1) by decide +kernel) rfl) ?_
  refine xA (ok_get hC (show decode prog_14_method_37_code 1 = .ok (.getfield 211, 3) by decide +kernel) (by decide) (r0 := ("StyleCourtModel", xF13, 85)) rfl (by decide) rfl w_1151) ?_
  refine xA (ok_iflt hC (show decode prog_14_method_37_code 4 = .ok (.ifCond .lt 4, 3) by decide +kernel) (by decide)) ?_
  refine xA (ok_vret hC hr (show decode prog_14_method_37_code 7 = .ok (.return_, 1) by decide +kernel)) ?_
  refine xA (ok_aload_n hC (show decode prog_14_method_37_code 8 = .ok (.aload_n 0, 1) by decide +kernel) rfl) ?_
  refine xA (ok_get hC (show decode prog_14_method_37_code 9 = .ok (.getfield 106, 3) by decide +kernel) (by decide) (r0 := ("StyleCourtModel", xF13, 85)) rfl (by decide) rfl w_1199) ?_
  refine xA (ok_iload_n hC (show decode prog_14_method_37_code 12 = .ok (.iload_n 1, 1) by decide +kernel) rfl) ?_
  refine xA (ok_iald hC (show decode prog_14_method_37_code 13 = .ok (.iaload, 1) by decide +kernel) (by decide) rfl) ?_
  refine xA (ok_bipush hC (show decode prog_14_method_37_code 14 = .ok (.bipush 8, 2) by decide +kernel) (by decide)) ?_
  refine xA (ok_iceq hC (show decode prog_14_method_37_code 16 = .ok (.if_icmp .eq 20, 3) by decide +kernel) (by decide)) ?_
  refine xA (ok_aload_n hC (show decode prog_14_method_37_code 19 = .ok (.aload_n 0, 1) by decide +kernel) rfl) ?_
  refine xA (ok_bipush hC (show decode prog_14_method_37_code 20 = .ok (.bipush 42, 2) by decide +kernel) (by decide)) ?_
  refine xA (ok_callV hC hnh (show decode prog_14_method_37_code 22 = .ok (.invokevirtual 332, 3) by decide +kernel) (by decide) (by decide) (by decide) (r0 := ("StyleCourtModel", xF13, 85)) rfl ⟨by decide, by decide, by decide +kernel⟩ w_1539 w_83 w_1536 w_1538 w_50) ?_
  refine xA (ok_ifne hC (show decode prog_14_method_37_code 25 = .ok (.ifCond .ne 20, 3) by decide +kernel) (by decide)) ?_
  refine xA (ok_aload_n hC (show decode prog_14_method_37_code 28 = .ok (.aload_n 0, 1) by decide +kernel) rfl) ?_
  refine xA (ok_get hC (show decode prog_14_method_37_code 29 = .ok (.getfield 326, 3) by decide +kernel) (by decide) (r0 := ("StyleCourtModel", xF13, 85)) rfl (by decide) rfl w_1190) ?_
  refine xA (ok_iconst hC (show decode prog_14_method_37_code 32 = .ok (.iconst 1, 1) by decide +kernel) (by decide)) ?_
  refine xA (ok_iceq hC (show decode prog_14_method_37_code 33 = .ok (.if_icmp .eq 12, 3) by decide +kernel) (by decide)) ?_
  refine xA (ok_aload_n hC (show decode prog_14_method_37_code 36 = .ok (.aload_n 0, 1) by decide +kernel) rfl) ?_
  refine xA (ok_aload_n hC (show decode prog_14_method_37_code 37 = .ok (.aload_n 0, 1) by decide +kernel) rfl) ?_
  refine xA (ok_get hC (show decode prog_14_method_37_code 38 = .ok (.getfield 320, 3) by decide +kernel) (by decide) (r0 := ("StyleCourtModel", xF13, 85)) rfl (by decide) rfl w_1191) ?_
  refine xA (ok_callV hC hnh (show decode prog_14_method_37_code 41 = .ok (.invokevirtual 221, 3) by decide +kernel) (by decide) (by decide) (by decide) (r0 := ("StyleCourtModel", xF13, 85)) rfl ⟨by decide, by decide, by decide +kernel⟩ w_1448 w_83 w_1445 w_1447 w_31) ?_
  refine xA (ok_vret hC hr (show decode prog_14_method_37_code 44 = .ok (.return_, 1) by decide +kernel)) ?_
  refine xA (ok_aload_n hC (show decode prog_14_method_37_code 45 = .ok (.aload_n 0, 1) by decide +kernel) rfl) ?_
  refine xA (ok_get hC (show decode prog_14_method_37_code 46 = .ok (.getfield 357, 3) by decide +kernel) (by decide) (r0 := ("StyleCourtModel", xF13, 85)) rfl (by decide) rfl w_1196) ?_
  refine xA (ok_istore_n hC (show decode prog_14_method_37_code 49 = .ok (.istore_n 3, 1) by decide +kernel) rfl (by decide)) ?_
  refine xA (ok_aload_n hC (show decode prog_14_method_37_code 50 = .ok (.aload_n 0, 1) by decide +kernel) rfl) ?_
  refine xA (ok_get hC (show decode prog_14_method_37_code 51 = .ok (.getfield 115, 3) by decide +kernel) (by decide) (r0 := ("StyleCourtModel", xF13, 85)) rfl (by decide) rfl w_1202) ?_
  refine xA (ok_iload_n hC (show decode prog_14_method_37_code 54 = .ok (.iload_n 3, 1) by decide +kernel) rfl) ?_
  refine xA (ok_aload_n hC (show decode prog_14_method_37_code 55 = .ok (.aload_n 0, 1) by decide +kernel) rfl) ?_
  refine xA (ok_get hC (show decode prog_14_method_37_code 56 = .ok (.getfield 205, 3) by decide +kernel) (by decide) (r0 := ("StyleCourtModel", xF13, 85)) rfl (by decide) rfl w_1153) ?_
  refine xA (ok_aload_n hC (show decode prog_14_method_37_code 59 = .ok (.aload_n 0, 1) by decide +kernel) rfl) ?_
  refine xA (ok_get hC (show decode prog_14_method_37_code 60 = .ok (.getfield 320, 3) by decide +kernel) (by decide) (r0 := ("StyleCourtModel", xF13, 85)) rfl (by decide) rfl w_1191) ?_
  refine xA (ok_iadd hC (show decode prog_14_method_37_code 63 = .ok (.iadd, 1) by decide +kernel)) ?_
  refine xA (ok_iast hC (show decode prog_14_method_37_code 64 = .ok (.iastore, 1) by decide +kernel) (by decide) rfl) ?_
  refine xA (ok_aload_n hC (show decode prog_14_method_37_code 65 = .ok (.aload_n 0, 1) by decide +kernel) rfl) ?_
  refine xA (ok_get hC (show decode prog_14_method_37_code 66 = .ok (.getfield 118, 3) by decide +kernel) (by decide) (r0 := ("StyleCourtModel", xF13, 85)) rfl (by decide) rfl w_1203) ?_
  refine xA (ok_iload_n hC (show decode prog_14_method_37_code 69 = .ok (.iload_n 3, 1) by decide +kernel) rfl) ?_
  refine xA (ok_aload_n hC (show decode prog_14_method_37_code 70 = .ok (.aload_n 0, 1) by decide +kernel) rfl) ?_
  refine xA (ok_get hC (show decode prog_14_method_37_code 71 = .ok (.getfield 326, 3) by decide +kernel) (by decide) (r0 := ("StyleCourtModel", xF13, 85)) rfl (by decide) rfl w_1190) ?_
  refine xA (ok_iconst hC (show decode prog_14_method_37_code 74 = .ok (.iconst 1, 1) by decide +kernel) (by decide)) ?_
  refine xA (ok_icne hC (show decode prog_14_method_37_code 75 = .ok (.if_icmp .ne 15, 3) by decide +kernel) (by decide)) ?_
  refine xA (ok_aload_n hC (show decode prog_14_method_37_code 78 = .ok (.aload_n 0, 1) by decide +kernel) rfl) ?_
  refine xA (ok_get hC (show decode prog_14_method_37_code 79 = .ok (.getfield 317, 3) by decide +kernel) (by decide) (r0 := ("StyleCourtModel", xF13, 85)) rfl (by decide) rfl w_1192) ?_
  refine xA (ok_aload_n hC (show decode prog_14_method_37_code 82 = .ok (.aload_n 0, 1) by decide +kernel) rfl) ?_
  refine xA (ok_get hC (show decode prog_14_method_37_code 83 = .ok (.getfield 320, 3) by decide +kernel) (by decide) (r0 := ("StyleCourtModel", xF13, 85)) rfl (by decide) rfl w_1191) ?_
  refine xA (ok_isub hC (show decode prog_14_method_37_code 86 = .ok (.isub, 1) by decide +kernel)) ?_
  refine xA (ok_goto hC (show decode prog_14_method_37_code 87 = .ok (.goto 4, 3) by decide +kernel) (by decide)) ?_
  refine xA (ok_iconst hC (show decode prog_14_method_37_code 90 = .ok (.iconst 0, 1) by decide +kernel) (by decide)) ?_
  refine xA (ok_iast hC (show decode prog_14_method_37_code 91 = .ok (.iastore, 1) by decide +kernel) (by decide) rfl) ?_
  refine xA (ok_aload_n hC (show decode prog_14_method_37_code 92 = .ok (.aload_n 0, 1) by decide +kernel) rfl) ?_
  refine xA (ok_get hC (show decode prog_14_method_37_code 93 = .ok (.getfield 112, 3) by decide +kernel) (by decide) (r0 := ("StyleCourtModel", xF13, 85)) rfl (by decide) rfl w_1201) ?_
  refine xA (ok_iload_n hC (show decode prog_14_method_37_code 96 = .ok (.iload_n 1, 1) by decide +kernel) rfl) ?_
  refine xA (ok_dup2 hC (show decode prog_14_method_37_code 97 = .ok (.dup2, 1) by decide +kernel)) ?_
  refine xA (ok_iald hC (show decode prog_14_method_37_code 98 = .ok (.iaload, 1) by decide +kernel) (by decide) rfl) ?_
  refine xA (ok_aload_n hC (show decode prog_14_method_37_code 99 = .ok (.aload_n 0, 1) by decide +kernel) rfl) ?_
  refine xA (ok_get hC (show decode prog_14_method_37_code 100 = .ok (.getfield 326, 3) by decide +kernel) (by decide) (r0 := ("StyleCourtModel", xF13, 85)) rfl (by decide) rfl w_1190) ?_
  refine xA (ok_iconst hC (show decode prog_14_method_37_code 103 = .ok (.iconst 1, 1) by decide +kernel) (by decide)) ?_
  refine xA (ok_icne hC (show decode prog_14_method_37_code 104 = .ok (.if_icmp .ne 7, 3) by decide +kernel) (by decide)) ?_
  refine xA (ok_iconst hC (show decode prog_14_method_37_code 107 = .ok (.iconst 1, 1) by decide +kernel) (by decide)) ?_
  refine xA (ok_goto hC (show decode prog_14_method_37_code 108 = .ok (.goto 4, 3) by decide +kernel) (by decide)) ?_
  refine xA (ok_iconst hC (show decode prog_14_method_37_code 111 = .ok (.iconst 0, 1) by decide +kernel) (by decide)) ?_
  refine xA (ok_iadd hC (show decode prog_14_method_37_code 112 = .ok (.iadd, 1) by decide +kernel)) ?_
  refine xA (ok_iast hC (show decode prog_14_method_37_code 113 = .ok (.iastore, 1) by decide +kernel) (by decide) rfl) ?_
  refine xA (ok_aload_n hC (show decode prog_14_method_37_code 114 = .ok (.aload_n 0, 1) by decide +kernel) rfl) ?_
  refine xA (ok_get hC (show decode prog_14_method_37_code 115 = .ok (.getfield 121, 3) by decide +kernel) (by decide) (r0 := ("StyleCourtModel", xF13, 85)) rfl (by decide) rfl w_1204) ?_
  refine xA (ok_iload_n hC (show decode prog_14_method_37_code 118 = .ok (.iload_n 3, 1) by decide +kernel) rfl) ?_
  refine xA (ok_iload_n hC (show decode prog_14_method_37_code 119 = .ok (.iload_n 2, 1) by decide +kernel) rfl) ?_
  refine xA (ok_iast hC (show decode prog_14_method_37_code 120 = .ok (.iastore, 1) by decide +kernel) (by decide) rfl) ?_
  refine xA (ok_aload_n hC (show decode prog_14_method_37_code 121 = .ok (.aload_n 0, 1) by decide +kernel) rfl) ?_
  refine xA (ok_get hC (show decode prog_14_method_37_code 122 = .ok (.getfield 124, 3) by decide +kernel) (by decide) (r0 := ("StyleCourtModel", xF13, 85)) rfl (by decide) rfl w_1205) ?_
  refine xA (ok_iload_n hC (show decode prog_14_method_37_code 125 = .ok (.iload_n 3, 1) by decide +kernel) rfl) ?_
  refine xA (ok_aload_n hC (show decode prog_14_method_37_code 126 = .ok (.aload_n 0, 1) by decide +kernel) rfl) ?_
  refine xA (ok_get hC (show decode prog_14_method_37_code 127 = .ok (.getfield 341, 3) by decide +kernel) (by decide) (r0 := ("StyleCourtModel", xF13, 85)) rfl (by decide) rfl w_1197) ?_
  refine xA (ok_iast hC (show decode prog_14_method_37_code 130 = .ok (.iastore, 1) by decide +kernel) (by decide) rfl) ?_
  refine xA (ok_aload_n hC (show decode prog_14_method_37_code 131 = .ok (.aload_n 0, 1) by decide +kernel) rfl) ?_
  refine xA (ok_get hC (show decode prog_14_method_37_code 132 = .ok (.getfield 127, 3) by decide +kernel) (by decide) (r0 := ("StyleCourtModel", xF13, 85)) rfl (by decide) rfl w_1206) ?_
  refine xA (ok_iload_n hC (show decode prog_14_method_37_code 135 = .ok (.iload_n 3, 1) by decide +kernel) rfl) ?_
  refine xA (ok_iconst hC (show decode prog_14_method_37_code 136 = .ok (.iconst 0, 1) by decide +kernel) (by decide)) ?_
  refine xA (ok_iast hC (show decode prog_14_method_37_code 137 = .ok (.iastore, 1) by decide +kernel) (by decide) rfl) ?_
  refine xA (ok_aload_n hC (show decode prog_14_method_37_code 138 = .ok (.aload_n 0, 1) by decide +kernel) rfl) ?_
  refine xA (ok_callV hC hnh (show decode prog_14_method_37_code 139 = .ok (.invokevirtual 335, 3) by decide +kernel) (by decide) (by decide) (by decide) (r0 := ("StyleCourtModel", xF13, 85)) rfl ⟨by decide, by decide, by decide +kernel⟩ w_1527 w_83 w_1524 w_1526 w_47) ?_
  refine xA (ok_aload_n hC (show decode prog_14_method_37_code 142 = .ok (.aload_n 0, 1) by decide +kernel) rfl) ?_
  refine xA (ok_get hC (show decode prog_14_method_37_code 143 = .ok (.getfield 211, 3) by decide +kernel) (by decide) (r0 := ("StyleCourtModel", xF13, 85)) rfl (by decide) rfl w_1151) ?_
  refine xA (ok_ifge hC (show decode prog_14_method_37_code 146 = .ok (.ifCond .ge 94, 3) by decide +kernel) (by decide)) ?_
  refine xA (ok_aload_n hC (show decode prog_14_method_37_code 149 = .ok (.aload_n 0, 1) by decide +kernel) rfl) ?_
  refine xA (ok_bipush hC (show decode prog_14_method_37_code 150 = .ok (.bipush 91, 2) by decide +kernel) (by decide)) ?_
  refine xA (ok_callV hC hnh (show decode prog_14_method_37_code 152 = .ok (.invokevirtual 332, 3) by decide +kernel) (by decide) (by decide) (by decide) (r0 := ("StyleCourtModel", xF13, 85)) rfl ⟨by decide, by decide, by decide +kernel⟩ w_1539 w_83 w_1536 w_1538 w_50) ?_
  refine xA (ok_ifne hC (show decode prog_14_method_37_code 155 = .ok (.ifCond .ne 12, 3) by decide +kernel) (by decide)) ?_
  refine xA (ok_aload_n hC (show decode prog_14_method_37_code 158 = .ok (.aload_n 0, 1) by decide +kernel) rfl) ?_
  refine xA (ok_bipush hC (show decode prog_14_method_37_code 159 = .ok (.bipush 58, 2) by decide +kernel) (by decide)) ?_
  refine xA (ok_callV hC hnh (show decode prog_14_method_37_code 161 = .ok (.invokevirtual 332, 3) by decide +kernel) (by decide) (by decide) (by decide) (r0 := ("StyleCourtModel", xF13, 85)) rfl ⟨by decide, by decide, by decide +kernel⟩ w_1539 w_83 w_1536 w_1538 w_50) ?_
  refine xA (ok_ifeq hC (show decode prog_14_method_37_code 164 = .ok (.ifCond .eq 76, 3) by decide +kernel) (by decide)) ?_
  refine xA (ok_aload_n hC (show decode prog_14_method_37_code 167 = .ok (.aload_n 0, 1) by decide +kernel) rfl) ?_
  refine xA (ok_get hC (show decode prog_14_method_37_code 168 = .ok (.getfield 127, 3) by decide +kernel) (by decide) (r0 := ("StyleCourtModel", xF13, 85)) rfl (by decide) rfl w_1206) ?_
  refine xA (ok_iload_n hC (show decode prog_14_method_37_code 171 = .ok (.iload_n 3, 1) by decide +kernel) rfl) ?_
  refine xA (ok_iald hC (show decode prog_14_method_37_code 172 = .ok (.iaload, 1) by decide +kernel) (by decide) rfl) ?_
  refine xA (ok_iconst hC (show decode prog_14_method_37_code 173 = .ok (.iconst 4, 1) by decide +kernel) (by decide)) ?_
  refine xA (ok_icne hC (show decode prog_14_method_37_code 174 = .ok (.if_icmp .ne 12, 3) by decide +kernel) (by decide)) ?_
  refine xA (ok_aload_n hC (show decode prog_14_method_37_code 177 = .ok (.aload_n 0, 1) by decide +kernel) rfl) ?_
  refine xA (ok_aload_n hC (show decode prog_14_method_37_code 178 = .ok (.aload_n 0, 1) by decide +kernel) rfl) ?_
  refine xA (ok_get hC (show decode prog_14_method_37_code 179 = .ok (.getfield 320, 3) by decide +kernel) (by decide) (r0 := ("StyleCourtModel", xF13, 85)) rfl (by decide) rfl w_1191) ?_
  refine xA (ok_callV hC hnh (show decode prog_14_method_37_code 182 = .ok (.invokevirtual 221, 3) by decide +kernel) (by decide) (by decide) (by decide) (r0 := ("StyleCourtModel", xF13, 85)) rfl ⟨by decide, by decide, by decide +kernel⟩ w_1448 w_83 w_1445 w_1447 w_31) ?_
  refine xA (ok_vret hC hr (show decode prog_14_method_37_code 185 = .ok (.return_, 1) by decide +kernel)) ?_
  refine xA (ok_aload_n hC (show decode prog_14_method_37_code 186 = .ok (.aload_n 0, 1) by decide +kernel) rfl) ?_
  refine xA (ok_bipush hC (show decode prog_14_method_37_code 187 = .ok (.bipush 91, 2) by decide +kernel) (by decide)) ?_
  refine xA (ok_callV hC hnh (show decode prog_14_method_37_code 189 = .ok (.invokevirtual 332, 3) by decide +kernel) (by decide) (by decide) (by decide) (r0 := ("StyleCourtModel", xF13, 85)) rfl ⟨by decide, by decide, by decide +kernel⟩ w_1539 w_83 w_1536 w_1538 w_50) ?_
  refine xA (ok_ifeq hC (show decode prog_14_method_37_code 192 = .ok (.ifCond .eq 10, 3) by decide +kernel) (by decide)) ?_
  refine xA (ok_aload_n hC (show decode prog_14_method_37_code 195 = .ok (.aload_n 0, 1) by decide +kernel) rfl) ?_
  refine xA (ok_callV hC hnh (show decode prog_14_method_37_code 196 = .ok (.invokevirtual 360, 3) by decide +kernel) (by decide) (by decide) (by decide) (r0 := ("StyleCourtModel", xF13, 85)) rfl ⟨by decide, by decide, by decide +kernel⟩ w_1543 w_83 w_1540 w_1542 w_51) ?_
  refine xA (ok_goto hC (show decode prog_14_method_37_code 199 = .ok (.goto 7, 3) by decide +kernel) (by decide)) ?_
  refine xA (ok_aload_n hC (show decode prog_14_method_37_code 202 = .ok (.aload_n 0, 1) by decide +kernel) rfl) ?_
  refine xA (ok_callV hC hnh (show decode prog_14_method_37_code 203 = .ok (.invokevirtual 363, 3) by decide +kernel) (by decide) (by decide) (by decide) (r0 := ("StyleCourtModel", xF13, 85)) rfl ⟨by decide, by decide, by decide +kernel⟩ w_1555 w_83 w_1552 w_1554 w_54) ?_
  refine xA (ok_aload_n hC (show decode prog_14_method_37_code 206 = .ok (.aload_n 0, 1) by decide +kernel) rfl) ?_
  refine xA (ok_dup hC (show decode prog_14_method_37_code 207 = .ok (.dup, 1) by decide +kernel)) ?_
  refine xA (ok_get hC (show decode prog_14_method_37_code 208 = .ok (.getfield 341, 3) by decide +kernel) (by decide) (r0 := ("StyleCourtModel", xF13, 85)) rfl (by decide) rfl w_1197) ?_
  refine xA (ok_iconst hC (show decode prog_14_method_37_code 211 = .ok (.iconst 1, 1) by decide +kernel) (by decide)) ?_
  refine xA (ok_iadd hC (show decode prog_14_method_37_code 212 = .ok (.iadd, 1) by decide +kernel)) ?_
  refine xA (ok_put hC (show decode prog_14_method_37_code 213 = .ok (.putfield 341, 3) by decide +kernel) (by decide) (r0 := ("StyleCourtModel", xF13, 85)) rfl (by decide) rfl (by decide +kernel) w_1197) ?_
  refine xA (ok_aload_n hC (show decode prog_14_method_37_code 216 = .ok (.aload_n 0, 1) by decide +kernel) rfl) ?_
  refine xA (ok_get hC (show decode prog_14_method_37_code 217 = .ok (.getfield 127, 3) by decide +kernel) (by decide) (r0 := ("StyleCourtModel", xF13, 85)) rfl (by decide) rfl w_1206) ?_
  refine xA (ok_iload_n hC (show decode prog_14_method_37_code 220 = .ok (.iload_n 3, 1) by decide +kernel) rfl) ?_
  refine xA (ok_dup2 hC (show decode prog_14_method_37_code 221 = .ok (.dup2, 1) by decide +kernel)) ?_
  refine xA (ok_iald hC (show decode prog_14_method_37_code 222 = .ok (.iaload, 1) by decide +kernel) (by decide) rfl) ?_
  refine xA (ok_iconst hC (show decode prog_14_method_37_code 223 = .ok (.iconst 1, 1) by decide +kernel) (by decide)) ?_
  refine xA (ok_iadd hC (show decode prog_14_method_37_code 224 = .ok (.iadd, 1) by decide +kernel)) ?_
  refine xA (ok_iast hC (show decode prog_14_method_37_code 225 = .ok (.iastore, 1) by decide +kernel) (by decide) rfl) ?_
  refine xA (ok_aload_n hC (show decode prog_14_method_37_code 226 = .ok (.aload_n 0, 1) by decide +kernel) rfl) ?_
  refine xA (ok_get hC (show decode prog_14_method_37_code 227 = .ok (.getfield 112, 3) by decide +kernel) (by decide) (r0 := ("StyleCourtModel", xF13, 85)) rfl (by decide) rfl w_1201) ?_
  refine xA (ok_iload_n hC (show decode prog_14_method_37_code 230 = .ok (.iload_n 1, 1) by decide +kernel) rfl) ?_
  refine xA (ok_dup2 hC (show decode prog_14_method_37_code 231 = .ok (.dup2, 1) by decide +kernel)) ?_
  refine xA (ok_iald hC (show decode prog_14_method_37_code 232 = .ok (.iaload, 1) by decide +kernel) (by decide) rfl) ?_
  refine xA (ok_bipush hC (show decode prog_14_method_37_code 233 = .ok (.bipush 100, 2) by decide +kernel) (by decide)) ?_
  refine xA (ok_iadd hC (show decode prog_14_method_37_code 235 = .ok (.iadd, 1) by decide +kernel)) ?_
  refine xA (ok_iast hC (show decode prog_14_method_37_code 236 = .ok (.iastore, 1) by decide +kernel) (by decide) rfl) ?_
  refine xA (ok_goto hC (show decode prog_14_method_37_code 237 = .ok (.goto (-95), 3) by decide +kernel) (by decide)) ?_
  refine xA (ok_aload_n hC (show decode prog_14_method_37_code 240 = .ok (.aload_n 0, 1) by decide +kernel) rfl) ?_
  refine xA (ok_dup hC (show decode prog_14_method_37_code 241 = .ok (.dup, 1) by decide +kernel)) ?_
  refine xA (ok_get hC (show decode prog_14_method_37_code 242 = .ok (.getfield 357, 3) by decide +kernel) (by decide) (r0 := ("StyleCourtModel", xF13, 85)) rfl (by decide) rfl w_1196) ?_
  refine xA (ok_iconst hC (show decode prog_14_method_37_code 245 = .ok (.iconst 1, 1) by decide +kernel) (by decide)) ?_
  refine xA (ok_iadd hC (show decode prog_14_method_37_code 246 = .ok (.iadd, 1) by decide +kernel)) ?_
  refine xA (ok_put hC (show decode prog_14_method_37_code 247 = .ok (.putfield 357, 3) by decide +kernel) (by decide) (r0 := ("StyleCourtModel", xF13, 85)) rfl (by decide) rfl (by decide +kernel) w_1196) ?_
  refine xA (ok_aload_n hC (show decode prog_14_method_37_code 250 = .ok (.aload_n 0, 1) by decide +kernel) rfl) ?_
  refine xA (ok_get hC (show decode prog_14_method_37_code 251 = .ok (.getfield 106, 3) by decide +kernel) (by decide) (r0 := ("StyleCourtModel", xF13, 85)) rfl (by decide) rfl w_1199) ?_
  refine xA (ok_iload_n hC (show decode prog_14_method_37_code 254 = .ok (.iload_n 1, 1) by decide +kernel) rfl) ?_
  refine xA (ok_dup2 hC (show decode prog_14_method_37_code 255 = .ok (.dup2, 1) by decide +kernel)) ?_
  refine xA (ok_iald hC (show decode prog_14_method_37_code 256 = .ok (.iaload, 1) by decide +kernel) (by decide) rfl) ?_
  refine xA (ok_iconst hC (show decode prog_14_method_37_code 257 = .ok (.iconst 1, 1) by decide +kernel) (by decide)) ?_
  refine xA (ok_iadd hC (show decode prog_14_method_37_code 258 = .ok (.iadd, 1) by decide +kernel)) ?_
  refine xA (ok_iast hC (show decode prog_14_method_37_code 259 = .ok (.iastore, 1) by decide +kernel) (by decide) rfl) ?_
  refine xA (ok_vret hC hr (show decode prog_14_method_37_code 260 = .ok (.return_, 1) by decide +kernel)) ?_
  exact trivial

def tb_Mo_isSign (X : xX) : List (Nat × xOp) := [(0, o_ald 0 1),
  (1, o_get 13 45 4),
  (4, o_ic 4 5),
  (5, o_icne 20 8),
  (8, o_ald 0 9),
  (9, o_get 13 49 12),
  (12, o_ild 1 13),
  (13, o_icne 20 16),
  (16, o_ic 1 17),
  (17, o_goto 21),
  (20, o_ic 0 21),
  (21, o_zret .boolean X.P)]
theorem tk_Mo_isSign {X : xX} (hC : xCx X prog_14_method_32_code "StyleCourtModel" 2 0) (hr : X.meth.sig.returnType = (some .boolean)) (hnh : X.c.exceptionTable.isEmpty = true) (hin : X.meth.name = "isSign") : xAll X (tb_Mo_isSign X) := by
  refine xA (ok_aload_n hC (show decode prog_14_method_32_code 0 = .ok (.aload_n 0, 1) by decide +kernel) rfl) ?_
  refine xA (ok_get hC (show decode prog_14_method_32_code 1 = .ok (.getfield 326, 3) by decide +kernel) (by decide) (r0 := ("StyleCourtModel", xF13, 85)) rfl (by decide) rfl w_1190) ?_
  refine xA (ok_iconst hC (show decode prog_14_method_32_code 4 = .ok (.iconst 4, 1) by decide +kernel) (by decide)) ?_
  refine xA (ok_icne hC (show decode prog_14_method_32_code 5 = .ok (.if_icmp .ne 15, 3) by decide +kernel) (by decide)) ?_
  refine xA (ok_aload_n hC (show decode prog_14_method_32_code 8 = .ok (.aload_n 0, 1) by decide +kernel) rfl) ?_
  refine xA (ok_get hC (show decode prog_14_method_32_code 9 = .ok (.getfield 323, 3) by decide +kernel) (by decide) (r0 := ("StyleCourtModel", xF13, 85)) rfl (by decide) rfl w_1194) ?_
  refine xA (ok_iload_n hC (show decode prog_14_method_32_code 12 = .ok (.iload_n 1, 1) by decide +kernel) rfl) ?_
  refine xA (ok_icne hC (show decode prog_14_method_32_code 13 = .ok (.if_icmp .ne 7, 3) by decide +kernel) (by decide)) ?_
  refine xA (ok_iconst hC (show decode prog_14_method_32_code 16 = .ok (.iconst 1, 1) by decide +kernel) (by decide)) ?_
  refine xA (ok_goto hC (show decode prog_14_method_32_code 17 = .ok (.goto 4, 3) by decide +kernel) (by decide)) ?_
  refine xA (ok_iconst hC (show decode prog_14_method_32_code 20 = .ok (.iconst 0, 1) by decide +kernel) (by decide)) ?_
  refine xA (ok_zret hC hr (show decode prog_14_method_32_code 21 = .ok (.ireturn, 1) by decide +kernel)) ?_
  exact trivial

def tb_Mo_bracket (X : xX) : List (Nat × xOp) := [(0, o_ald 0 1),
  (1, o_callV X.l X.D X.P 13 1 1 y_Mo_next 4),
  (4, o_ald 0 5),
  (5, o_ic 1 6),
  (6, o_callV X.l X.D X.P 13 1 2 y_Mo_needKind 9),
  (9, o_ald 0 10),
  (10, o_get 13 6 13),
  (13, o_iflt 17 16),
  (16, o_vret X.P),
  (17, o_ald 0 18),
  (18, o_get 13 62 21),
  (21, o_ald 0 22),
  (22, o_get 13 52 25),
  (25, o_ic 1 26),
  (26, o_iast 0 27),
  (27, o_ald 0 28),
  (28, o_get 13 63 31),
  (31, o_ald 0 32),
  (32, o_get 13 52 35),
  (35, o_ald 0 36),
  (36, o_get 13 8 39),
  (39, o_ald 0 40),
  (40, o_get 13 46 43),
  (43, o_iadd 44),
  (44, o_iast 0 45),
  (45, o_ald 0 46),
  (46, o_get 13 64 49),
  (49, o_ald 0 50),
  (50, o_get 13 52 53),
  (53, o_ald 0 54),
  (54, o_get 13 47 57),
  (57, o_ald 0 58),
  (58, o_get 13 46 61),
  (61, o_isub 62),
  (62, o_iast 0 63),
  (63, o_ald 0 64),
  (64, o_callV X.l X.D X.P 13 1 1 y_Mo_next 67),
  (67, o_ald 0 68),
  (68, o_ic 61 70),
  (70, o_callV X.l X.D X.P 13 0 2 y_Mo_isSign 73),
  (73, o_ifeq 147 76),
  (76, o_ald 0 77),
  (77, o_callV X.l X.D X.P 13 1 1 y_Mo_next 80),
  (80, o_ald 0 81),
  (81, o_ic 3 82),
  (82, o_callV X.l X.D X.P 13 1 2 y_Mo_needKind 85),
  (85, o_ald 0 86),
  (86, o_get 13 6 89),
  (89, o_iflt 93 92),
  (92, o_vret X.P),
  (93, o_ald 0 94),
  (94, o_get 13 62 97),
  (97, o_ald 0 98),
  (98, o_get 13 52 101),
  (101, o_ic 2 102),
  (102, o_iast 0 103),
  (103, o_ald 0 104),
  (104, o_get 13 65 107),
  (107, o_ald 0 108),
  (108, o_get 13 52 111),
  (111, o_ald 0 112),
  (112, o_get 13 8 115),
  (115, o_ald 0 116),
  (116, o_get 13 46 119),
  (119, o_iadd 120),
  (120, o_ic 1 121),
  (121, o_iadd 122),
  (122, o_iast 0 123),
  (123, o_ald 0 124),
  (124, o_get 13 66 127),
  (127, o_ald 0 128),
  (128, o_get 13 52 131),
  (131, o_ald 0 132),
  (132, o_get 13 47 135),
  (135, o_ald 0 136),
  (136, o_get 13 46 139),
  (139, o_isub 140),
  (140, o_ic 2 141),
  (141, o_isub 142),
  (142, o_iast 0 143),
  (143, o_ald 0 144),
  (144, o_callV X.l X.D X.P 13 1 1 y_Mo_next 147),
  (147, o_ald 0 148),
  (148, o_ic 93 150),
  (150, o_callV X.l X.D X.P 13 2 2 y_Mo_need 153),
  (153, o_vret X.P)]
theorem tk_Mo_bracket {X : xX} (hC : xCx X prog_14_method_35_code "StyleCourtModel" 1 3) (hr : X.meth.sig.returnType = none) (hnh : X.c.exceptionTable.isEmpty = true) (hin : X.meth.name = "bracket") : xAll X (tb_Mo_bracket X) := by
  refine xA (ok_aload_n hC (show decode prog_14_method_35_code 0 = .ok (.aload_n 0, 1) by decide +kernel) rfl) ?_
  refine xA (ok_callV hC hnh (show decode prog_14_method_35_code 1 = .ok (.invokevirtual 335, 3) by decide +kernel) (by decide) (by decide) (by decide) (r0 := ("StyleCourtModel", xF13, 85)) rfl ⟨by decide, by decide, by decide +kernel⟩ w_1527 w_83 w_1524 w_1526 w_47) ?_
  refine xA (ok_aload_n hC (show decode prog_14_method_35_code 4 = .ok (.aload_n 0, 1) by decide +kernel) rfl) ?_
  refine xA (ok_iconst hC (show decode prog_14_method_35_code 5 = .ok (.iconst 1, 1) by decide +kernel) (by decide)) ?_
  refine xA (ok_callV hC hnh (show decode prog_14_method_35_code 6 = .ok (.invokevirtual 338, 3) by decide +kernel) (by decide) (by decide) (by decide) (r0 := ("StyleCourtModel", xF13, 85)) rfl ⟨by decide, by decide, by decide +kernel⟩ w_1547 w_83 w_1544 w_1546 w_52) ?_
  refine xA (ok_aload_n hC (show decode prog_14_method_35_code 9 = .ok (.aload_n 0, 1) by decide +kernel) rfl) ?_
  refine xA (ok_get hC (show decode prog_14_method_35_code 10 = .ok (.getfield 211, 3) by decide +kernel) (by decide) (r0 := ("StyleCourtModel", xF13, 85)) rfl (by decide) rfl w_1151) ?_
  refine xA (ok_iflt hC (show decode prog_14_method_35_code 13 = .ok (.ifCond .lt 4, 3) by decide +kernel) (by decide)) ?_
  refine xA (ok_vret hC hr (show decode prog_14_method_35_code 16 = .ok (.return_, 1) by decide +kernel)) ?_
  refine xA (ok_aload_n hC (show decode prog_14_method_35_code 17 = .ok (.aload_n 0, 1) by decide +kernel) rfl) ?_
  refine xA (ok_get hC (show decode prog_14_method_35_code 18 = .ok (.getfield 130, 3) by decide +kernel) (by decide) (r0 := ("StyleCourtModel", xF13, 85)) rfl (by decide) rfl w_1207) ?_
  refine xA (ok_aload_n hC (show decode prog_14_method_35_code 21 = .ok (.aload_n 0, 1) by decide +kernel) rfl) ?_
  refine xA (ok_get hC (show decode prog_14_method_35_code 22 = .ok (.getfield 341, 3) by decide +kernel) (by decide) (r0 := ("StyleCourtModel", xF13, 85)) rfl (by decide) rfl w_1197) ?_
  refine xA (ok_iconst hC (show decode prog_14_method_35_code 25 = .ok (.iconst 1, 1) by decide +kernel) (by decide)) ?_
  refine xA (ok_iast hC (show decode prog_14_method_35_code 26 = .ok (.iastore, 1) by decide +kernel) (by decide) rfl) ?_
  refine xA (ok_aload_n hC (show decode prog_14_method_35_code 27 = .ok (.aload_n 0, 1) by decide +kernel) rfl) ?_
  refine xA (ok_get hC (show decode prog_14_method_35_code 28 = .ok (.getfield 133, 3) by decide +kernel) (by decide) (r0 := ("StyleCourtModel", xF13, 85)) rfl (by decide) rfl w_1208) ?_
  refine xA (ok_aload_n hC (show decode prog_14_method_35_code 31 = .ok (.aload_n 0, 1) by decide +kernel) rfl) ?_
  refine xA (ok_get hC (show decode prog_14_method_35_code 32 = .ok (.getfield 341, 3) by decide +kernel) (by decide) (r0 := ("StyleCourtModel", xF13, 85)) rfl (by decide) rfl w_1197) ?_
  refine xA (ok_aload_n hC (show decode prog_14_method_35_code 35 = .ok (.aload_n 0, 1) by decide +kernel) rfl) ?_
  refine xA (ok_get hC (show decode prog_14_method_35_code 36 = .ok (.getfield 205, 3) by decide +kernel) (by decide) (r0 := ("StyleCourtModel", xF13, 85)) rfl (by decide) rfl w_1153) ?_
  refine xA (ok_aload_n hC (show decode prog_14_method_35_code 39 = .ok (.aload_n 0, 1) by decide +kernel) rfl) ?_
  refine xA (ok_get hC (show decode prog_14_method_35_code 40 = .ok (.getfield 320, 3) by decide +kernel) (by decide) (r0 := ("StyleCourtModel", xF13, 85)) rfl (by decide) rfl w_1191) ?_
  refine xA (ok_iadd hC (show decode prog_14_method_35_code 43 = .ok (.iadd, 1) by decide +kernel)) ?_
  refine xA (ok_iast hC (show decode prog_14_method_35_code 44 = .ok (.iastore, 1) by decide +kernel) (by decide) rfl) ?_
  refine xA (ok_aload_n hC (show decode prog_14_method_35_code 45 = .ok (.aload_n 0, 1) by decide +kernel) rfl) ?_
  refine xA (ok_get hC (show decode prog_14_method_35_code 46 = .ok (.getfield 136, 3) by decide +kernel) (by decide) (r0 := ("StyleCourtModel", xF13, 85)) rfl (by decide) rfl w_1209) ?_
  refine xA (ok_aload_n hC (show decode prog_14_method_35_code 49 = .ok (.aload_n 0, 1) by decide +kernel) rfl) ?_
  refine xA (ok_get hC (show decode prog_14_method_35_code 50 = .ok (.getfield 341, 3) by decide +kernel) (by decide) (r0 := ("StyleCourtModel", xF13, 85)) rfl (by decide) rfl w_1197) ?_
  refine xA (ok_aload_n hC (show decode prog_14_method_35_code 53 = .ok (.aload_n 0, 1) by decide +kernel) rfl) ?_
  refine xA (ok_get hC (show decode prog_14_method_35_code 54 = .ok (.getfield 317, 3) by decide +kernel) (by decide) (r0 := ("StyleCourtModel", xF13, 85)) rfl (by decide) rfl w_1192) ?_
  refine xA (ok_aload_n hC (show decode prog_14_method_35_code 57 = .ok (.aload_n 0, 1) by decide +kernel) rfl) ?_
  refine xA (ok_get hC (show decode prog_14_method_35_code 58 = .ok (.getfield 320, 3) by decide +kernel) (by decide) (r0 := ("StyleCourtModel", xF13, 85)) rfl (by decide) rfl w_1191) ?_
  refine xA (ok_isub hC (show decode prog_14_method_35_code 61 = .ok (.isub, 1) by decide +kernel)) ?_
  refine xA (ok_iast hC (show decode prog_14_method_35_code 62 = .ok (.iastore, 1) by decide +kernel) (by decide) rfl) ?_
  refine xA (ok_aload_n hC (show decode prog_14_method_35_code 63 = .ok (.aload_n 0, 1) by decide +kernel) rfl) ?_
  refine xA (ok_callV hC hnh (show decode prog_14_method_35_code 64 = .ok (.invokevirtual 335, 3) by decide +kernel) (by decide) (by decide) (by decide) (r0 := ("StyleCourtModel", xF13, 85)) rfl ⟨by decide, by decide, by decide +kernel⟩ w_1527 w_83 w_1524 w_1526 w_47) ?_
  refine xA (ok_aload_n hC (show decode prog_14_method_35_code 67 = .ok (.aload_n 0, 1) by decide +kernel) rfl) ?_
  refine xA (ok_bipush hC (show decode prog_14_method_35_code 68 = .ok (.bipush 61, 2) by decide +kernel) (by decide)) ?_
  refine xA (ok_callV hC hnh (show decode prog_14_method_35_code 70 = .ok (.invokevirtual 332, 3) by decide +kernel) (by decide) (by decide) (by decide) (r0 := ("StyleCourtModel", xF13, 85)) rfl ⟨by decide, by decide, by decide +kernel⟩ w_1539 w_83 w_1536 w_1538 w_50) ?_
  refine xA (ok_ifeq hC (show decode prog_14_method_35_code 73 = .ok (.ifCond .eq 74, 3) by decide +kernel) (by decide)) ?_
  refine xA (ok_aload_n hC (show decode prog_14_method_35_code 76 = .ok (.aload_n 0, 1) by decide +kernel) rfl) ?_
  refine xA (ok_callV hC hnh (show decode prog_14_method_35_code 77 = .ok (.invokevirtual 335, 3) by decide +kernel) (by decide) (by decide) (by decide) (r0 := ("StyleCourtModel", xF13, 85)) rfl ⟨by decide, by decide, by decide +kernel⟩ w_1527 w_83 w_1524 w_1526 w_47) ?_
  refine xA (ok_aload_n hC (show decode prog_14_method_35_code 80 = .ok (.aload_n 0, 1) by decide +kernel) rfl) ?_
  refine xA (ok_iconst hC (show decode prog_14_method_35_code 81 = .ok (.iconst 3, 1) by decide +kernel) (by decide)) ?_
  refine xA (ok_callV hC hnh (show decode prog_14_method_35_code 82 = .ok (.invokevirtual 338, 3) by decide +kernel) (by decide) (by decide) (by decide) (r0 := ("StyleCourtModel", xF13, 85)) rfl ⟨by decide, by decide, by decide +kernel⟩ w_1547 w_83 w_1544 w_1546 w_52) ?_
  refine xA (ok_aload_n hC (show decode prog_14_method_35_code 85 = .ok (.aload_n 0, 1) by decide +kernel) rfl) ?_
  refine xA (ok_get hC (show decode prog_14_method_35_code 86 = .ok (.getfield 211, 3) by decide +kernel) (by decide) (r0 := ("StyleCourtModel", xF13, 85)) rfl (by decide) rfl w_1151) ?_
  refine xA (ok_iflt hC (show decode prog_14_method_35_code 89 = .ok (.ifCond .lt 4, 3) by decide +kernel) (by decide)) ?_
  refine xA (ok_vret hC hr (show decode prog_14_method_35_code 92 = .ok (.return_, 1) by decide +kernel)) ?_
  refine xA (ok_aload_n hC (show decode prog_14_method_35_code 93 = .ok (.aload_n 0, 1) by decide +kernel) rfl) ?_
  refine xA (ok_get hC (show decode prog_14_method_35_code 94 = .ok (.getfield 130, 3) by decide +kernel) (by decide) (r0 := ("StyleCourtModel", xF13, 85)) rfl (by decide) rfl w_1207) ?_
  refine xA (ok_aload_n hC (show decode prog_14_method_35_code 97 = .ok (.aload_n 0, 1) by decide +kernel) rfl) ?_
  refine xA (ok_get hC (show decode prog_14_method_35_code 98 = .ok (.getfield 341, 3) by decide +kernel) (by decide) (r0 := ("StyleCourtModel", xF13, 85)) rfl (by decide) rfl w_1197) ?_
  refine xA (ok_iconst hC (show decode prog_14_method_35_code 101 = .ok (.iconst 2, 1) by decide +kernel) (by decide)) ?_
  refine xA (ok_iast hC (show decode prog_14_method_35_code 102 = .ok (.iastore, 1) by decide +kernel) (by decide) rfl) ?_
  refine xA (ok_aload_n hC (show decode prog_14_method_35_code 103 = .ok (.aload_n 0, 1) by decide +kernel) rfl) ?_
  refine xA (ok_get hC (show decode prog_14_method_35_code 104 = .ok (.getfield 139, 3) by decide +kernel) (by decide) (r0 := ("StyleCourtModel", xF13, 85)) rfl (by decide) rfl w_1210) ?_
  refine xA (ok_aload_n hC (show decode prog_14_method_35_code 107 = .ok (.aload_n 0, 1) by decide +kernel) rfl) ?_
  refine xA (ok_get hC (show decode prog_14_method_35_code 108 = .ok (.getfield 341, 3) by decide +kernel) (by decide) (r0 := ("StyleCourtModel", xF13, 85)) rfl (by decide) rfl w_1197) ?_
  refine xA (ok_aload_n hC (show decode prog_14_method_35_code 111 = .ok (.aload_n 0, 1) by decide +kernel) rfl) ?_
  refine xA (ok_get hC (show decode prog_14_method_35_code 112 = .ok (.getfield 205, 3) by decide +kernel) (by decide) (r0 := ("StyleCourtModel", xF13, 85)) rfl (by decide) rfl w_1153) ?_
  refine xA (ok_aload_n hC (show decode prog_14_method_35_code 115 = .ok (.aload_n 0, 1) by decide +kernel) rfl) ?_
  refine xA (ok_get hC (show decode prog_14_method_35_code 116 = .ok (.getfield 320, 3) by decide +kernel) (by decide) (r0 := ("StyleCourtModel", xF13, 85)) rfl (by decide) rfl w_1191) ?_
  refine xA (ok_iadd hC (show decode prog_14_method_35_code 119 = .ok (.iadd, 1) by decide +kernel)) ?_
  refine xA (ok_iconst hC (show decode prog_14_method_35_code 120 = .ok (.iconst 1, 1) by decide +kernel) (by decide)) ?_
  refine xA (ok_iadd hC (show decode prog_14_method_35_code 121 = .ok (.iadd, 1) by decide +kernel)) ?_
  refine xA (ok_iast hC (show decode prog_14_method_35_code 122 = .ok (.iastore, 1) by decide +kernel) (by decide) rfl) ?_
  refine xA (ok_aload_n hC (show decode prog_14_method_35_code 123 = .ok (.aload_n 0, 1) by decide +kernel) rfl) ?_
  refine xA (ok_get hC (show decode prog_14_method_35_code 124 = .ok (.getfield 142, 3) by decide +kernel) (by decide) (r0 := ("StyleCourtModel", xF13, 85)) rfl (by decide) rfl w_1211) ?_
  refine xA (ok_aload_n hC (show decode prog_14_method_35_code 127 = .ok (.aload_n 0, 1) by decide +kernel) rfl) ?_
  refine xA (ok_get hC (show decode prog_14_method_35_code 128 = .ok (.getfield 341, 3) by decide +kernel) (by decide) (r0 := ("StyleCourtModel", xF13, 85)) rfl (by decide) rfl w_1197) ?_
  refine xA (ok_aload_n hC (show decode prog_14_method_35_code 131 = .ok (.aload_n 0, 1) by decide +kernel) rfl) ?_
  refine xA (ok_get hC (show decode prog_14_method_35_code 132 = .ok (.getfield 317, 3) by decide +kernel) (by decide) (r0 := ("StyleCourtModel", xF13, 85)) rfl (by decide) rfl w_1192) ?_
  refine xA (ok_aload_n hC (show decode prog_14_method_35_code 135 = .ok (.aload_n 0, 1) by decide +kernel) rfl) ?_
  refine xA (ok_get hC (show decode prog_14_method_35_code 136 = .ok (.getfield 320, 3) by decide +kernel) (by decide) (r0 := ("StyleCourtModel", xF13, 85)) rfl (by decide) rfl w_1191) ?_
  refine xA (ok_isub hC (show decode prog_14_method_35_code 139 = .ok (.isub, 1) by decide +kernel)) ?_
  refine xA (ok_iconst hC (show decode prog_14_method_35_code 140 = .ok (.iconst 2, 1) by decide +kernel) (by decide)) ?_
  refine xA (ok_isub hC (show decode prog_14_method_35_code 141 = .ok (.isub, 1) by decide +kernel)) ?_
  refine xA (ok_iast hC (show decode prog_14_method_35_code 142 = .ok (.iastore, 1) by decide +kernel) (by decide) rfl) ?_
  refine xA (ok_aload_n hC (show decode prog_14_method_35_code 143 = .ok (.aload_n 0, 1) by decide +kernel) rfl) ?_
  refine xA (ok_callV hC hnh (show decode prog_14_method_35_code 144 = .ok (.invokevirtual 335, 3) by decide +kernel) (by decide) (by decide) (by decide) (r0 := ("StyleCourtModel", xF13, 85)) rfl ⟨by decide, by decide, by decide +kernel⟩ w_1527 w_83 w_1524 w_1526 w_47) ?_
  refine xA (ok_aload_n hC (show decode prog_14_method_35_code 147 = .ok (.aload_n 0, 1) by decide +kernel) rfl) ?_
  refine xA (ok_bipush hC (show decode prog_14_method_35_code 148 = .ok (.bipush 93, 2) by decide +kernel) (by decide)) ?_
  refine xA (ok_callV hC hnh (show decode prog_14_method_35_code 150 = .ok (.invokevirtual 344, 3) by decide +kernel) (by decide) (by decide) (by decide) (r0 := ("StyleCourtModel", xF13, 85)) rfl ⟨by decide, by decide, by decide +kernel⟩ w_1551 w_83 w_1548 w_1550 w_53) ?_
  refine xA (ok_vret hC hr (show decode prog_14_method_35_code 153 = .ok (.return_, 1) by decide +kernel)) ?_
  exact trivial

def tb_Mo_needKind (X : xX) : List (Nat × xOp) := [(0, o_ald 0 1),
  (1, o_get 13 6 4),
  (4, o_ifge 23 7),
  (7, o_ald 0 8),
  (8, o_get 13 45 11),
  (11, o_ild 1 12),
  (12, o_iceq 23 15),
  (15, o_ald 0 16),
  (16, o_ald 0 17),
  (17, o_get 13 46 20),
  (20, o_callV X.l X.D X.P 13 0 2 y_Mo_wrong 23),
  (23, o_vret X.P)]
theorem tk_Mo_needKind {X : xX} (hC : xCx X prog_14_method_34_code "StyleCourtModel" 2 1) (hr : X.meth.sig.returnType = none) (hnh : X.c.exceptionTable.isEmpty = true) (hin : X.meth.name = "needKind") : xAll X (tb_Mo_needKind X) := by
  refine xA (ok_aload_n hC (show decode prog_14_method_34_code 0 = .ok (.aload_n 0, 1) by decide +kernel) rfl) ?_
  refine xA (ok_get hC (show decode prog_14_method_34_code 1 = .ok (.getfield 211, 3) by decide +kernel) (by decide) (r0 := ("StyleCourtModel", xF13, 85)) rfl (by decide) rfl w_1151) ?_
  refine xA (ok_ifge hC (show decode prog_14_method_34_code 4 = .ok (.ifCond .ge 19, 3) by decide +kernel) (by decide)) ?_
  refine xA (ok_aload_n hC (show decode prog_14_method_34_code 7 = .ok (.aload_n 0, 1) by decide +kernel) rfl) ?_
  refine xA (ok_get hC (show decode prog_14_method_34_code 8 = .ok (.getfield 326, 3) by decide +kernel) (by decide) (r0 := ("StyleCourtModel", xF13, 85)) rfl (by decide) rfl w_1190) ?_
  refine xA (ok_iload_n hC (show decode prog_14_method_34_code 11 = .ok (.iload_n 1, 1) by decide +kernel) rfl) ?_
  refine xA (ok_iceq hC (show decode prog_14_method_34_code 12 = .ok (.if_icmp .eq 11, 3) by decide +kernel) (by decide)) ?_
  refine xA (ok_aload_n hC (show decode prog_14_method_34_code 15 = .ok (.aload_n 0, 1) by decide +kernel) rfl) ?_
  refine xA (ok_aload_n hC (show decode prog_14_method_34_code 16 = .ok (.aload_n 0, 1) by decide +kernel) rfl) ?_
  refine xA (ok_get hC (show decode prog_14_method_34_code 17 = .ok (.getfield 320, 3) by decide +kernel) (by decide) (r0 := ("StyleCourtModel", xF13, 85)) rfl (by decide) rfl w_1191) ?_
  refine xA (ok_callV hC hnh (show decode prog_14_method_34_code 20 = .ok (.invokevirtual 221, 3) by decide +kernel) (by decide) (by decide) (by decide) (r0 := ("StyleCourtModel", xF13, 85)) rfl ⟨by decide, by decide, by decide +kernel⟩ w_1448 w_83 w_1445 w_1447 w_31) ?_
  refine xA (ok_vret hC hr (show decode prog_14_method_34_code 23 = .ok (.return_, 1) by decide +kernel)) ?_
  exact trivial

def tb_Mo_need (X : xX) : List (Nat × xOp) := [(0, o_ald 0 1),
  (1, o_get 13 6 4),
  (4, o_iflt 8 7),
  (7, o_vret X.P),
  (8, o_ald 0 9),
  (9, o_ild 1 10),
  (10, o_callV X.l X.D X.P 13 0 2 y_Mo_isSign 13),
  (13, o_ifeq 23 16),
  (16, o_ald 0 17),
  (17, o_callV X.l X.D X.P 13 1 1 y_Mo_next 20),
  (20, o_goto 31),
  (23, o_ald 0 24),
  (24, o_ald 0 25),
  (25, o_get 13 46 28),
  (28, o_callV X.l X.D X.P 13 0 2 y_Mo_wrong 31),
  (31, o_vret X.P)]
theorem tk_Mo_need {X : xX} (hC : xCx X prog_14_method_33_code "StyleCourtModel" 2 2) (hr : X.meth.sig.returnType = none) (hnh : X.c.exceptionTable.isEmpty = true) (hin : X.meth.name = "need") : xAll X (tb_Mo_need X) := by
  refine xA (ok_aload_n hC (show decode prog_14_method_33_code 0 = .ok (.aload_n 0, 1) by decide +kernel) rfl) ?_
  refine xA (ok_get hC (show decode prog_14_method_33_code 1 = .ok (.getfield 211, 3) by decide +kernel) (by decide) (r0 := ("StyleCourtModel", xF13, 85)) rfl (by decide) rfl w_1151) ?_
  refine xA (ok_iflt hC (show decode prog_14_method_33_code 4 = .ok (.ifCond .lt 4, 3) by decide +kernel) (by decide)) ?_
  refine xA (ok_vret hC hr (show decode prog_14_method_33_code 7 = .ok (.return_, 1) by decide +kernel)) ?_
  refine xA (ok_aload_n hC (show decode prog_14_method_33_code 8 = .ok (.aload_n 0, 1) by decide +kernel) rfl) ?_
  refine xA (ok_iload_n hC (show decode prog_14_method_33_code 9 = .ok (.iload_n 1, 1) by decide +kernel) rfl) ?_
  refine xA (ok_callV hC hnh (show decode prog_14_method_33_code 10 = .ok (.invokevirtual 332, 3) by decide +kernel) (by decide) (by decide) (by decide) (r0 := ("StyleCourtModel", xF13, 85)) rfl ⟨by decide, by decide, by decide +kernel⟩ w_1539 w_83 w_1536 w_1538 w_50) ?_
  refine xA (ok_ifeq hC (show decode prog_14_method_33_code 13 = .ok (.ifCond .eq 10, 3) by decide +kernel) (by decide)) ?_
  refine xA (ok_aload_n hC (show decode prog_14_method_33_code 16 = .ok (.aload_n 0, 1) by decide +kernel) rfl) ?_
  refine xA (ok_callV hC hnh (show decode prog_14_method_33_code 17 = .ok (.invokevirtual 335, 3) by decide +kernel) (by decide) (by decide) (by decide) (r0 := ("StyleCourtModel", xF13, 85)) rfl ⟨by decide, by decide, by decide +kernel⟩ w_1527 w_83 w_1524 w_1526 w_47) ?_
  refine xA (ok_goto hC (show decode prog_14_method_33_code 20 = .ok (.goto 11, 3) by decide +kernel) (by decide)) ?_
  refine xA (ok_aload_n hC (show decode prog_14_method_33_code 23 = .ok (.aload_n 0, 1) by decide +kernel) rfl) ?_
  refine xA (ok_aload_n hC (show decode prog_14_method_33_code 24 = .ok (.aload_n 0, 1) by decide +kernel) rfl) ?_
  refine xA (ok_get hC (show decode prog_14_method_33_code 25 = .ok (.getfield 320, 3) by decide +kernel) (by decide) (r0 := ("StyleCourtModel", xF13, 85)) rfl (by decide) rfl w_1191) ?_
  refine xA (ok_callV hC hnh (show decode prog_14_method_33_code 28 = .ok (.invokevirtual 221, 3) by decide +kernel) (by decide) (by decide) (by decide) (r0 := ("StyleCourtModel", xF13, 85)) rfl ⟨by decide, by decide, by decide +kernel⟩ w_1448 w_83 w_1445 w_1447 w_31) ?_
  refine xA (ok_vret hC hr (show decode prog_14_method_33_code 31 = .ok (.return_, 1) by decide +kernel)) ?_
  exact trivial

def tb_Mo_colon (X : xX) : List (Nat × xOp) := [(0, o_ald 0 1),
  (1, o_callV X.l X.D X.P 13 1 1 y_Mo_next 4),
  (4, o_ald 0 5),
  (5, o_ic 1 6),
  (6, o_callV X.l X.D X.P 13 1 2 y_Mo_needKind 9),
  (9, o_ald 0 10),
  (10, o_get 13 6 13),
  (13, o_iflt 17 16),
  (16, o_vret X.P),
  (17, o_ald 0 18),
  (18, o_get 13 8 21),
  (21, o_ald 0 22),
  (22, o_get 13 46 25),
  (25, o_iadd 26),
  (26, o_ist 1 27),
  (27, o_ald 0 28),
  (28, o_get 13 47 31),
  (31, o_ald 0 32),
  (32, o_get 13 46 35),
  (35, o_isub 36),
  (36, o_ist 2 37),
  (37, o_ald 0 38),
  (38, o_ild 1 39),
  (39, o_ild 2 40),
  (40, o_lc 439855772532 43),
  (43, o_callV X.l X.D X.P 13 0 4 y_Mo_isWord 46),
  (46, o_ifeq 53 49),
  (49, o_ic 3 50),
  (50, o_goto 120),
  (53, o_ald 0 54),
  (54, o_ild 1 55),
  (55, o_ild 2 56),
  (56, o_lc 1818325876 59),
  (59, o_callV X.l X.D X.P 13 0 4 y_Mo_isWord 62),
  (62, o_ifeq 69 65),
  (65, o_ic 4 66),
  (66, o_goto 120),
  (69, o_ald 0 70),
  (70, o_ild 1 71),
  (71, o_ild 2 72),
  (72, o_lc 435627783289 75),
  (75, o_callV X.l X.D X.P 13 0 4 y_Mo_isWord 78),
  (78, o_ifeq 85 81),
  (81, o_ic 5 82),
  (82, o_goto 120),
  (85, o_ald 0 86),
  (86, o_ild 1 87),
  (87, o_ild 2 88),
  (88, o_lc 7238760 91),
  (91, o_callV X.l X.D X.P 13 0 4 y_Mo_isWord 94),
  (94, o_ifeq 102 97),
  (97, o_ic 6 99),
  (99, o_goto 120),
  (102, o_ald 0 103),
  (103, o_ild 1 104),
  (104, o_ild 2 105),
  (105, o_lc 7237492 108),
  (108, o_callV X.l X.D X.P 13 0 4 y_Mo_isWord 111),
  (111, o_ifeq 119 114),
  (114, o_ic 7 116),
  (116, o_goto 120),
  (119, o_ic 0 120),
  (120, o_ist 3 121),
  (121, o_ild 3 122),
  (122, o_ifne 134 125),
  (125, o_ald 0 126),
  (126, o_ald 0 127),
  (127, o_get 13 46 130),
  (130, o_callV X.l X.D X.P 13 0 2 y_Mo_wrong 133),
  (133, o_vret X.P),
  (134, o_ald 0 135),
  (135, o_get 13 62 138),
  (138, o_ald 0 139),
  (139, o_get 13 52 142),
  (142, o_ild 3 143),
  (143, o_iast 0 144),
  (144, o_ald 0 145),
  (145, o_callV X.l X.D X.P 13 1 1 y_Mo_next 148),
  (148, o_ild 3 149),
  (149, o_ic 6 151),
  (151, o_icge 155 154),
  (154, o_vret X.P),
  (155, o_ald 0 156),
  (156, o_ic 40 158),
  (158, o_callV X.l X.D X.P 13 2 2 y_Mo_need 161),
  (161, o_ald 0 162),
  (162, o_ild 3 163),
  (163, o_ic 6 165),
  (165, o_icne 172 168),
  (168, o_ic 2 169),
  (169, o_goto 173),
  (172, o_ic 1 173),
  (173, o_callV X.l X.D X.P 13 1 2 y_Mo_needKind 176),
  (176, o_ald 0 177),
  (177, o_get 13 6 180),
  (180, o_iflt 184 183),
  (183, o_vret X.P),
  (184, o_ald 0 185),
  (185, o_get 13 67 188),
  (188, o_ald 0 189),
  (189, o_get 13 52 192),
  (192, o_ald 0 193),
  (193, o_get 13 48 196),
  (196, o_iast 0 197),
  (197, o_ald 0 198),
  (198, o_get 13 63 201),
  (201, o_ald 0 202),
  (202, o_get 13 52 205),
  (205, o_ald 0 206),
  (206, o_get 13 8 209),
  (209, o_ald 0 210),
  (210, o_get 13 46 213),
  (213, o_iadd 214),
  (214, o_iast 0 215),
  (215, o_ald 0 216),
  (216, o_get 13 64 219),
  (219, o_ald 0 220),
  (220, o_get 13 52 223),
  (223, o_ald 0 224),
  (224, o_get 13 47 227),
  (227, o_ald 0 228),
  (228, o_get 13 46 231),
  (231, o_isub 232),
  (232, o_iast 0 233),
  (233, o_ald 0 234),
  (234, o_callV X.l X.D X.P 13 1 1 y_Mo_next 237),
  (237, o_ald 0 238),
  (238, o_ic 41 240),
  (240, o_callV X.l X.D X.P 13 2 2 y_Mo_need 243),
  (243, o_vret X.P)]
theorem tk_Mo_colon {X : xX} (hC : xCx X prog_14_method_36_code "StyleCourtModel" 4 3) (hr : X.meth.sig.returnType = none) (hnh : X.c.exceptionTable.isEmpty = true) (hin : X.meth.name = "colon") : xAll X (tb_Mo_colon X) := by
  refine xA (ok_aload_n hC (show decode prog_14_method_36_code 0 = .ok (.aload_n 0, 1) by decide +kernel) rfl) ?_
  refine xA (ok_callV hC hnh (show decode prog_14_method_36_code 1 = .ok (.invokevirtual 335, 3) by decide +kernel) (by decide) (by decide) (by decide) (r0 := ("StyleCourtModel", xF13, 85)) rfl ⟨by decide, by decide, by decide +kernel⟩ w_1527 w_83 w_1524 w_1526 w_47) ?_
  refine xA (ok_aload_n hC (show decode prog_14_method_36_code 4 = .ok (.aload_n 0, 1) by decide +kernel) rfl) ?_
  refine xA (ok_iconst hC (show decode prog_14_method_36_code 5 = .ok (.iconst 1, 1) by decide +kernel) (by decide)) ?_
  refine xA (ok_callV hC hnh (show decode prog_14_method_36_code 6 = .ok (.invokevirtual 338, 3) by decide +kernel) (by decide) (by decide) (by decide) (r0 := ("StyleCourtModel", xF13, 85)) rfl ⟨by decide, by decide, by decide +kernel⟩ w_1547 w_83 w_1544 w_1546 w_52) ?_
  refine xA (ok_aload_n hC (show decode prog_14_method_36_code 9 = .ok (.aload_n 0, 1) by decide +kernel) rfl) ?_
  refine xA (ok_get hC (show decode prog_14_method_36_code 10 = .ok (.getfield 211, 3) by decide +kernel) (by decide) (r0 := ("StyleCourtModel", xF13, 85)) rfl (by decide) rfl w_1151) ?_
  refine xA (ok_iflt hC (show decode prog_14_method_36_code 13 = .ok (.ifCond .lt 4, 3) by decide +kernel) (by decide)) ?_
  refine xA (ok_vret hC hr (show decode prog_14_method_36_code 16 = .ok (.return_, 1) by decide +kernel)) ?_
  refine xA (ok_aload_n hC (show decode prog_14_method_36_code 17 = .ok (.aload_n 0, 1) by decide +kernel) rfl) ?_
  refine xA (ok_get hC (show decode prog_14_method_36_code 18 = .ok (.getfield 205, 3) by decide +kernel) (by decide) (r0 := ("StyleCourtModel", xF13, 85)) rfl (by decide) rfl w_1153) ?_
  refine xA (ok_aload_n hC (show decode prog_14_method_36_code 21 = .ok (.aload_n 0, 1) by decide +kernel) rfl) ?_
  refine xA (ok_get hC (show decode prog_14_method_36_code 22 = .ok (.getfield 320, 3) by decide +kernel) (by decide) (r0 := ("StyleCourtModel", xF13, 85)) rfl (by decide) rfl w_1191) ?_
  refine xA (ok_iadd hC (show decode prog_14_method_36_code 25 = .ok (.iadd, 1) by decide +kernel)) ?_
  refine xA (ok_istore_n hC (show decode prog_14_method_36_code 26 = .ok (.istore_n 1, 1) by decide +kernel) rfl (by decide)) ?_
  refine xA (ok_aload_n hC (show decode prog_14_method_36_code 27 = .ok (.aload_n 0, 1) by decide +kernel) rfl) ?_
  refine xA (ok_get hC (show decode prog_14_method_36_code 28 = .ok (.getfield 317, 3) by decide +kernel) (by decide) (r0 := ("StyleCourtModel", xF13, 85)) rfl (by decide) rfl w_1192) ?_
  refine xA (ok_aload_n hC (show decode prog_14_method_36_code 31 = .ok (.aload_n 0, 1) by decide +kernel) rfl) ?_
  refine xA (ok_get hC (show decode prog_14_method_36_code 32 = .ok (.getfield 320, 3) by decide +kernel) (by decide) (r0 := ("StyleCourtModel", xF13, 85)) rfl (by decide) rfl w_1191) ?_
  refine xA (ok_isub hC (show decode prog_14_method_36_code 35 = .ok (.isub, 1) by decide +kernel)) ?_
  refine xA (ok_istore_n hC (show decode prog_14_method_36_code 36 = .ok (.istore_n 2, 1) by decide +kernel) rfl (by decide)) ?_
  refine xA (ok_aload_n hC (show decode prog_14_method_36_code 37 = .ok (.aload_n 0, 1) by decide +kernel) rfl) ?_
  refine xA (ok_iload_n hC (show decode prog_14_method_36_code 38 = .ok (.iload_n 1, 1) by decide +kernel) rfl) ?_
  refine xA (ok_iload_n hC (show decode prog_14_method_36_code 39 = .ok (.iload_n 2, 1) by decide +kernel) rfl) ?_
  refine xA (ok_ldc2 hC (show decode prog_14_method_36_code 40 = .ok (.ldc2_w 347, 3) by decide +kernel) w_1556) ?_
  refine xA (ok_callV hC hnh (show decode prog_14_method_36_code 43 = .ok (.invokevirtual 245, 3) by decide +kernel) (by decide) (by decide) (by decide) (r0 := ("StyleCourtModel", xF13, 85)) rfl ⟨by decide, by decide, by decide +kernel⟩ w_1486 w_83 w_1483 w_1485 w_38) ?_
  refine xA (ok_ifeq hC (show decode prog_14_method_36_code 46 = .ok (.ifCond .eq 7, 3) by decide +kernel) (by decide)) ?_
  refine xA (ok_iconst hC (show decode prog_14_method_36_code 49 = .ok (.iconst 3, 1) by decide +kernel) (by decide)) ?_
  refine xA (ok_goto hC (show decode prog_14_method_36_code 50 = .ok (.goto 70, 3) by decide +kernel) (by decide)) ?_
  refine xA (ok_aload_n hC (show decode prog_14_method_36_code 53 = .ok (.aload_n 0, 1) by decide +kernel) rfl) ?_
  refine xA (ok_iload_n hC (show decode prog_14_method_36_code 54 = .ok (.iload_n 1, 1) by decide +kernel) rfl) ?_
  refine xA (ok_iload_n hC (show decode prog_14_method_36_code 55 = .ok (.iload_n 2, 1) by decide +kernel) rfl) ?_
  refine xA (ok_ldc2 hC (show decode prog_14_method_36_code 56 = .ok (.ldc2_w 349, 3) by decide +kernel) w_1557) ?_
  refine xA (ok_callV hC hnh (show decode prog_14_method_36_code 59 = .ok (.invokevirtual 245, 3) by decide +kernel) (by decide) (by decide) (by decide) (r0 := ("StyleCourtModel", xF13, 85)) rfl ⟨by decide, by decide, by decide +kernel⟩ w_1486 w_83 w_1483 w_1485 w_38) ?_
  refine xA (ok_ifeq hC (show decode prog_14_method_36_code 62 = .ok (.ifCond .eq 7, 3) by decide +kernel) (by decide)) ?_
  refine xA (ok_iconst hC (show decode prog_14_method_36_code 65 = .ok (.iconst 4, 1) by decide +kernel) (by decide)) ?_
  refine xA (ok_goto hC (show decode prog_14_method_36_code 66 = .ok (.goto 54, 3) by decide +kernel) (by decide)) ?_
  refine xA (ok_aload_n hC (show decode prog_14_method_36_code 69 = .ok (.aload_n 0, 1) by decide +kernel) rfl) ?_
  refine xA (ok_iload_n hC (show decode prog_14_method_36_code 70 = .ok (.iload_n 1, 1) by decide +kernel) rfl) ?_
  refine xA (ok_iload_n hC (show decode prog_14_method_36_code 71 = .ok (.iload_n 2, 1) by decide +kernel) rfl) ?_
  refine xA (ok_ldc2 hC (show decode prog_14_method_36_code 72 = .ok (.ldc2_w 351, 3) by decide +kernel) w_1558) ?_
  refine xA (ok_callV hC hnh (show decode prog_14_method_36_code 75 = .ok (.invokevirtual 245, 3) by decide +kernel) (by decide) (by decide) (by decide) (r0 := ("StyleCourtModel", xF13, 85)) rfl ⟨by decide, by decide, by decide +kernel⟩ w_1486 w_83 w_1483 w_1485 w_38) ?_
  refine xA (ok_ifeq hC (show decode prog_14_method_36_code 78 = .ok (.ifCond .eq 7, 3) by decide +kernel) (by decide)) ?_
  refine xA (ok_iconst hC (show decode prog_14_method_36_code 81 = .ok (.iconst 5, 1) by decide +kernel) (by decide)) ?_
  refine xA (ok_goto hC (show decode prog_14_method_36_code 82 = .ok (.goto 38, 3) by decide +kernel) (by decide)) ?_
  refine xA (ok_aload_n hC (show decode prog_14_method_36_code 85 = .ok (.aload_n 0, 1) by decide +kernel) rfl) ?_
  refine xA (ok_iload_n hC (show decode prog_14_method_36_code 86 = .ok (.iload_n 1, 1) by decide +kernel) rfl) ?_
  refine xA (ok_iload_n hC (show decode prog_14_method_36_code 87 = .ok (.iload_n 2, 1) by decide +kernel) rfl) ?_
  refine xA (ok_ldc2 hC (show decode prog_14_method_36_code 88 = .ok (.ldc2_w 353, 3) by decide +kernel) w_1559) ?_
  refine xA (ok_callV hC hnh (show decode prog_14_method_36_code 91 = .ok (.invokevirtual 245, 3) by decide +kernel) (by decide) (by decide) (by decide) (r0 := ("StyleCourtModel", xF13, 85)) rfl ⟨by decide, by decide, by decide +kernel⟩ w_1486 w_83 w_1483 w_1485 w_38) ?_
  refine xA (ok_ifeq hC (show decode prog_14_method_36_code 94 = .ok (.ifCond .eq 8, 3) by decide +kernel) (by decide)) ?_
  refine xA (ok_bipush hC (show decode prog_14_method_36_code 97 = .ok (.bipush 6, 2) by decide +kernel) (by decide)) ?_
  refine xA (ok_goto hC (show decode prog_14_method_36_code 99 = .ok (.goto 21, 3) by decide +kernel) (by decide)) ?_
  refine xA (ok_aload_n hC (show decode prog_14_method_36_code 102 = .ok (.aload_n 0, 1) by decide +kernel) rfl) ?_
  refine xA (ok_iload_n hC (show decode prog_14_method_36_code 103 = .ok (.iload_n 1, 1) by decide +kernel) rfl) ?_
  refine xA (ok_iload_n hC (show decode prog_14_method_36_code 104 = .ok (.iload_n 2, 1) by decide +kernel) rfl) ?_
  refine xA (ok_ldc2 hC (show decode prog_14_method_36_code 105 = .ok (.ldc2_w 355, 3) by decide +kernel) w_1560) ?_
  refine xA (ok_callV hC hnh (show decode prog_14_method_36_code 108 = .ok (.invokevirtual 245, 3) by decide +kernel) (by decide) (by decide) (by decide) (r0 := ("StyleCourtModel", xF13, 85)) rfl ⟨by decide, by decide, by decide +kernel⟩ w_1486 w_83 w_1483 w_1485 w_38) ?_
  refine xA (ok_ifeq hC (show decode prog_14_method_36_code 111 = .ok (.ifCond .eq 8, 3) by decide +kernel) (by decide)) ?_
  refine xA (ok_bipush hC (show decode prog_14_method_36_code 114 = .ok (.bipush 7, 2) by decide +kernel) (by decide)) ?_
  refine xA (ok_goto hC (show decode prog_14_method_36_code 116 = .ok (.goto 4, 3) by decide +kernel) (by decide)) ?_
  refine xA (ok_iconst hC (show decode prog_14_method_36_code 119 = .ok (.iconst 0, 1) by decide +kernel) (by decide)) ?_
  refine xA (ok_istore_n hC (show decode prog_14_method_36_code 120 = .ok (.istore_n 3, 1) by decide +kernel) rfl (by decide)) ?_
  refine xA (ok_iload_n hC (show decode prog_14_method_36_code 121 = .ok (.iload_n 3, 1) by decide +kernel) rfl) ?_
  refine xA (ok_ifne hC (show decode prog_14_method_36_code 122 = .ok (.ifCond .ne 12, 3) by decide +kernel) (by decide)) ?_
  refine xA (ok_aload_n hC (show decode prog_14_method_36_code 125 = .ok (.aload_n 0, 1) by decide +kernel) rfl) ?_
  refine xA (ok_aload_n hC (show decode prog_14_method_36_code 126 = .ok (.aload_n 0, 1) by decide +kernel) rfl) ?_
  refine xA (ok_get hC (show decode prog_14_method_36_code 127 = .ok (.getfield 320, 3) by decide +kernel) (by decide) (r0 := ("StyleCourtModel", xF13, 85)) rfl (by decide) rfl w_1191) ?_
  refine xA (ok_callV hC hnh (show decode prog_14_method_36_code 130 = .ok (.invokevirtual 221, 3) by decide +kernel) (by decide) (by decide) (by decide) (r0 := ("StyleCourtModel", xF13, 85)) rfl ⟨by decide, by decide, by decide +kernel⟩ w_1448 w_83 w_1445 w_1447 w_31) ?_
  refine xA (ok_vret hC hr (show decode prog_14_method_36_code 133 = .ok (.return_, 1) by decide +kernel)) ?_
  refine xA (ok_aload_n hC (show decode prog_14_method_36_code 134 = .ok (.aload_n 0, 1) by decide +kernel) rfl) ?_
  refine xA (ok_get hC (show decode prog_14_method_36_code 135 = .ok (.getfield 130, 3) by decide +kernel) (by decide) (r0 := ("StyleCourtModel", xF13, 85)) rfl (by decide) rfl w_1207) ?_
  refine xA (ok_aload_n hC (show decode prog_14_method_36_code 138 = .ok (.aload_n 0, 1) by decide +kernel) rfl) ?_
  refine xA (ok_get hC (show decode prog_14_method_36_code 139 = .ok (.getfield 341, 3) by decide +kernel) (by decide) (r0 := ("StyleCourtModel", xF13, 85)) rfl (by decide) rfl w_1197) ?_
  refine xA (ok_iload_n hC (show decode prog_14_method_36_code 142 = .ok (.iload_n 3, 1) by decide +kernel) rfl) ?_
  refine xA (ok_iast hC (show decode prog_14_method_36_code 143 = .ok (.iastore, 1) by decide +kernel) (by decide) rfl) ?_
  refine xA (ok_aload_n hC (show decode prog_14_method_36_code 144 = .ok (.aload_n 0, 1) by decide +kernel) rfl) ?_
  refine xA (ok_callV hC hnh (show decode prog_14_method_36_code 145 = .ok (.invokevirtual 335, 3) by decide +kernel) (by decide) (by decide) (by decide) (r0 := ("StyleCourtModel", xF13, 85)) rfl ⟨by decide, by decide, by decide +kernel⟩ w_1527 w_83 w_1524 w_1526 w_47) ?_
  refine xA (ok_iload_n hC (show decode prog_14_method_36_code 148 = .ok (.iload_n 3, 1) by decide +kernel) rfl) ?_
  refine xA (ok_bipush hC (show decode prog_14_method_36_code 149 = .ok (.bipush 6, 2) by decide +kernel) (by decide)) ?_
  refine xA (ok_icge hC (show decode prog_14_method_36_code 151 = .ok (.if_icmp .ge 4, 3) by decide +kernel) (by decide)) ?_
  refine xA (ok_vret hC hr (show decode prog_14_method_36_code 154 = .ok (.return_, 1) by decide +kernel)) ?_
  refine xA (ok_aload_n hC (show decode prog_14_method_36_code 155 = .ok (.aload_n 0, 1) by decide +kernel) rfl) ?_
  refine xA (ok_bipush hC (show decode prog_14_method_36_code 156 = .ok (.bipush 40, 2) by decide +kernel) (by decide)) ?_
  refine xA (ok_callV hC hnh (show decode prog_14_method_36_code 158 = .ok (.invokevirtual 344, 3) by decide +kernel) (by decide) (by decide) (by decide) (r0 := ("StyleCourtModel", xF13, 85)) rfl ⟨by decide, by decide, by decide +kernel⟩ w_1551 w_83 w_1548 w_1550 w_53) ?_
  refine xA (ok_aload_n hC (show decode prog_14_method_36_code 161 = .ok (.aload_n 0, 1) by decide +kernel) rfl) ?_
  refine xA (ok_iload_n hC (show decode prog_14_method_36_code 162 = .ok (.iload_n 3, 1) by decide +kernel) rfl) ?_
  refine xA (ok_bipush hC (show decode prog_14_method_36_code 163 = .ok (.bipush 6, 2) by decide +kernel) (by decide)) ?_
  refine xA (ok_icne hC (show decode prog_14_method_36_code 165 = .ok (.if_icmp .ne 7, 3) by decide +kernel) (by decide)) ?_
  refine xA (ok_iconst hC (show decode prog_14_method_36_code 168 = .ok (.iconst 2, 1) by decide +kernel) (by decide)) ?_
  refine xA (ok_goto hC (show decode prog_14_method_36_code 169 = .ok (.goto 4, 3) by decide +kernel) (by decide)) ?_
  refine xA (ok_iconst hC (show decode prog_14_method_36_code 172 = .ok (.iconst 1, 1) by decide +kernel) (by decide)) ?_
  refine xA (ok_callV hC hnh (show decode prog_14_method_36_code 173 = .ok (.invokevirtual 338, 3) by decide +kernel) (by decide) (by decide) (by decide) (r0 := ("StyleCourtModel", xF13, 85)) rfl ⟨by decide, by decide, by decide +kernel⟩ w_1547 w_83 w_1544 w_1546 w_52) ?_
  refine xA (ok_aload_n hC (show decode prog_14_method_36_code 176 = .ok (.aload_n 0, 1) by decide +kernel) rfl) ?_
  refine xA (ok_get hC (show decode prog_14_method_36_code 177 = .ok (.getfield 211, 3) by decide +kernel) (by decide) (r0 := ("StyleCourtModel", xF13, 85)) rfl (by decide) rfl w_1151) ?_
  refine xA (ok_iflt hC (show decode prog_14_method_36_code 180 = .ok (.ifCond .lt 4, 3) by decide +kernel) (by decide)) ?_
  refine xA (ok_vret hC hr (show decode prog_14_method_36_code 183 = .ok (.return_, 1) by decide +kernel)) ?_
  refine xA (ok_aload_n hC (show decode prog_14_method_36_code 184 = .ok (.aload_n 0, 1) by decide +kernel) rfl) ?_
  refine xA (ok_get hC (show decode prog_14_method_36_code 185 = .ok (.getfield 145, 3) by decide +kernel) (by decide) (r0 := ("StyleCourtModel", xF13, 85)) rfl (by decide) rfl w_1212) ?_
  refine xA (ok_aload_n hC (show decode prog_14_method_36_code 188 = .ok (.aload_n 0, 1) by decide +kernel) rfl) ?_
  refine xA (ok_get hC (show decode prog_14_method_36_code 189 = .ok (.getfield 341, 3) by decide +kernel) (by decide) (r0 := ("StyleCourtModel", xF13, 85)) rfl (by decide) rfl w_1197) ?_
  refine xA (ok_aload_n hC (show decode prog_14_method_36_code 192 = .ok (.aload_n 0, 1) by decide +kernel) rfl) ?_
  refine xA (ok_get hC (show decode prog_14_method_36_code 193 = .ok (.getfield 329, 3) by decide +kernel) (by decide) (r0 := ("StyleCourtModel", xF13, 85)) rfl (by decide) rfl w_1193) ?_
  refine xA (ok_iast hC (show decode prog_14_method_36_code 196 = .ok (.iastore, 1) by decide +kernel) (by decide) rfl) ?_
  refine xA (ok_aload_n hC (show decode prog_14_method_36_code 197 = .ok (.aload_n 0, 1) by decide +kernel) rfl) ?_
  refine xA (ok_get hC (show decode prog_14_method_36_code 198 = .ok (.getfield 133, 3) by decide +kernel) (by decide) (r0 := ("StyleCourtModel", xF13, 85)) rfl (by decide) rfl w_1208) ?_
  refine xA (ok_aload_n hC (show decode prog_14_method_36_code 201 = .ok (.aload_n 0, 1) by decide +kernel) rfl) ?_
  refine xA (ok_get hC (show decode prog_14_method_36_code 202 = .ok (.getfield 341, 3) by decide +kernel) (by decide) (r0 := ("StyleCourtModel", xF13, 85)) rfl (by decide) rfl w_1197) ?_
  refine xA (ok_aload_n hC (show decode prog_14_method_36_code 205 = .ok (.aload_n 0, 1) by decide +kernel) rfl) ?_
  refine xA (ok_get hC (show decode prog_14_method_36_code 206 = .ok (.getfield 205, 3) by decide +kernel) (by decide) (r0 := ("StyleCourtModel", xF13, 85)) rfl (by decide) rfl w_1153) ?_
  refine xA (ok_aload_n hC (show decode prog_14_method_36_code 209 = .ok (.aload_n 0, 1) by decide +kernel) rfl) ?_
  refine xA (ok_get hC (show decode prog_14_method_36_code 210 = .ok (.getfield 320, 3) by decide +kernel) (by decide) (r0 := ("StyleCourtModel", xF13, 85)) rfl (by decide) rfl w_1191) ?_
  refine xA (ok_iadd hC (show decode prog_14_method_36_code 213 = .ok (.iadd, 1) by decide +kernel)) ?_
  refine xA (ok_iast hC (show decode prog_14_method_36_code 214 = .ok (.iastore, 1) by decide +kernel) (by decide) rfl) ?_
  refine xA (ok_aload_n hC (show decode prog_14_method_36_code 215 = .ok (.aload_n 0, 1) by decide +kernel) rfl) ?_
  refine xA (ok_get hC (show decode prog_14_method_36_code 216 = .ok (.getfield 136, 3) by decide +kernel) (by decide) (r0 := ("StyleCourtModel", xF13, 85)) rfl (by decide) rfl w_1209) ?_
  refine xA (ok_aload_n hC (show decode prog_14_method_36_code 219 = .ok (.aload_n 0, 1) by decide +kernel) rfl) ?_
  refine xA (ok_get hC (show decode prog_14_method_36_code 220 = .ok (.getfield 341, 3) by decide +kernel) (by decide) (r0 := ("StyleCourtModel", xF13, 85)) rfl (by decide) rfl w_1197) ?_
  refine xA (ok_aload_n hC (show decode prog_14_method_36_code 223 = .ok (.aload_n 0, 1) by decide +kernel) rfl) ?_
  refine xA (ok_get hC (show decode prog_14_method_36_code 224 = .ok (.getfield 317, 3) by decide +kernel) (by decide) (r0 := ("StyleCourtModel", xF13, 85)) rfl (by decide) rfl w_1192) ?_
  refine xA (ok_aload_n hC (show decode prog_14_method_36_code 227 = .ok (.aload_n 0, 1) by decide +kernel) rfl) ?_
  refine xA (ok_get hC (show decode prog_14_method_36_code 228 = .ok (.getfield 320, 3) by decide +kernel) (by decide) (r0 := ("StyleCourtModel", xF13, 85)) rfl (by decide) rfl w_1191) ?_
  refine xA (ok_isub hC (show decode prog_14_method_36_code 231 = .ok (.isub, 1) by decide +kernel)) ?_
  refine xA (ok_iast hC (show decode prog_14_method_36_code 232 = .ok (.iastore, 1) by decide +kernel) (by decide) rfl) ?_
  refine xA (ok_aload_n hC (show decode prog_14_method_36_code 233 = .ok (.aload_n 0, 1) by decide +kernel) rfl) ?_
  refine xA (ok_callV hC hnh (show decode prog_14_method_36_code 234 = .ok (.invokevirtual 335, 3) by decide +kernel) (by decide) (by decide) (by decide) (r0 := ("StyleCourtModel", xF13, 85)) rfl ⟨by decide, by decide, by decide +kernel⟩ w_1527 w_83 w_1524 w_1526 w_47) ?_
  refine xA (ok_aload_n hC (show decode prog_14_method_36_code 237 = .ok (.aload_n 0, 1) by decide +kernel) rfl) ?_
  refine xA (ok_bipush hC (show decode prog_14_method_36_code 238 = .ok (.bipush 41, 2) by decide +kernel) (by decide)) ?_
  refine xA (ok_callV hC hnh (show decode prog_14_method_36_code 240 = .ok (.invokevirtual 344, 3) by decide +kernel) (by decide) (by decide) (by decide) (r0 := ("StyleCourtModel", xF13, 85)) rfl ⟨by decide, by decide, by decide +kernel⟩ w_1551 w_83 w_1548 w_1550 w_53) ?_
  refine xA (ok_vret hC hr (show decode prog_14_method_36_code 243 = .ok (.return_, 1) by decide +kernel)) ?_
  exact trivial

def tb_Mo_body (X : xX) : List (Nat × xOp) := [(0, o_ald 0 1),
  (1, o_ic 123 3),
  (3, o_callV X.l X.D X.P 13 2 2 y_Mo_need 6),
  (6, o_ald 0 7),
  (7, o_get 13 6 10),
  (10, o_ifge 199 13),
  (13, o_ald 0 14),
  (14, o_ic 125 16),
  (16, o_callV X.l X.D X.P 13 0 2 y_Mo_isSign 19),
  (19, o_ifne 199 22),
  (22, o_ald 0 23),
  (23, o_get 13 45 26),
  (26, o_ic 1 27),
  (27, o_icne 40 30),
  (30, o_ald 0 31),
  (31, o_get 13 68 34),
  (34, o_ic 600 37),
  (37, o_icne 49 40),
  (40, o_ald 0 41),
  (41, o_ald 0 42),
  (42, o_get 13 46 45),
  (45, o_callV X.l X.D X.P 13 0 2 y_Mo_wrong 48),
  (48, o_vret X.P),
  (49, o_ald 0 50),
  (50, o_ald 0 51),
  (51, o_get 13 8 54),
  (54, o_ald 0 55),
  (55, o_get 13 46 58),
  (58, o_iadd 59),
  (59, o_ald 0 60),
  (60, o_get 13 47 63),
  (63, o_ald 0 64),
  (64, o_get 13 46 67),
  (67, o_isub 68),
  (68, o_callV X.l X.D X.P 13 1 3 y_Mo_known 71),
  (71, o_ist 2 72),
  (72, o_ild 2 73),
  (73, o_ifge 139 76),
  (76, o_ald 0 77),
  (77, o_get 13 69 80),
  (80, o_ic 30 82),
  (82, o_icne 94 85),
  (85, o_ald 0 86),
  (86, o_ald 0 87),
  (87, o_get 13 46 90),
  (90, o_callV X.l X.D X.P 13 0 2 y_Mo_wrong 93),
  (93, o_vret X.P),
  (94, o_ald 0 95),
  (95, o_get 13 69 98),
  (98, o_ist 2 99),
  (99, o_ald 0 100),
  (100, o_get 13 77 103),
  (103, o_ild 2 104),
  (104, o_ald 0 105),
  (105, o_get 13 8 108),
  (108, o_ald 0 109),
  (109, o_get 13 46 112),
  (112, o_iadd 113),
  (113, o_iast 0 114),
  (114, o_ald 0 115),
  (115, o_get 13 78 118),
  (118, o_ild 2 119),
  (119, o_ald 0 120),
  (120, o_get 13 47 123),
  (123, o_ald 0 124),
  (124, o_get 13 46 127),
  (127, o_isub 128),
  (128, o_iast 0 129),
  (129, o_ald 0 130),
  (130, o_dup 131),
  (131, o_get 13 69 134),
  (134, o_ic 1 135),
  (135, o_iadd 136),
  (136, o_put 13 69 (.int) 139),
  (139, o_ald 0 140),
  (140, o_get 13 70 143),
  (143, o_ald 0 144),
  (144, o_get 13 68 147),
  (147, o_ild 2 148),
  (148, o_iast 0 149),
  (149, o_ald 0 150),
  (150, o_get 13 71 153),
  (153, o_ald 0 154),
  (154, o_get 13 68 157),
  (157, o_ild 1 158),
  (158, o_iast 0 159),
  (159, o_ald 0 160),
  (160, o_callV X.l X.D X.P 13 1 1 y_Mo_next 163),
  (163, o_ald 0 164),
  (164, o_ic 58 166),
  (166, o_callV X.l X.D X.P 13 2 2 y_Mo_need 169),
  (169, o_ald 0 170),
  (170, o_callV X.l X.D X.P 13 2 1 y_Mo_oneValue 173),
  (173, o_ald 0 174),
  (174, o_ic 59 176),
  (176, o_callV X.l X.D X.P 13 2 2 y_Mo_need 179),
  (179, o_ald 0 180),
  (180, o_get 13 6 183),
  (183, o_ifge 196 186),
  (186, o_ald 0 187),
  (187, o_dup 188),
  (188, o_get 13 68 191),
  (191, o_ic 1 192),
  (192, o_iadd 193),
  (193, o_put 13 68 (.int) 196),
  (196, o_goto 6),
  (199, o_ald 0 200),
  (200, o_callV X.l X.D X.P 13 1 1 y_Mo_next 203),
  (203, o_vret X.P)]
theorem tk_Mo_body {X : xX} (hC : xCx X prog_14_method_41_code "StyleCourtModel" 3 3) (hr : X.meth.sig.returnType = none) (hnh : X.c.exceptionTable.isEmpty = true) (hin : X.meth.name = "body") : xAll X (tb_Mo_body X) := by
  refine xA (ok_aload_n hC (show decode prog_14_method_41_code 0 = .ok (.aload_n 0, 1) by decide +kernel) rfl) ?_
  refine xA (ok_bipush hC (show decode prog_14_method_41_code 1 = .ok (.bipush 123, 2) by decide +kernel) (by decide)) ?_
  refine xA (ok_callV hC hnh (show decode prog_14_method_41_code 3 = .ok (.invokevirtual 344, 3) by decide +kernel) (by decide) (by decide) (by decide) (r0 := ("StyleCourtModel", xF13, 85)) rfl ⟨by decide, by decide, by decide +kernel⟩ w_1551 w_83 w_1548 w_1550 w_53) ?_
  refine xA (ok_aload_n hC (show decode prog_14_method_41_code 6 = .ok (.aload_n 0, 1) by decide +kernel) rfl) ?_
  refine xA (ok_get hC (show decode prog_14_method_41_code 7 = .ok (.getfield 211, 3) by decide +kernel) (by decide) (r0 := ("StyleCourtModel", xF13, 85)) rfl (by decide) rfl w_1151) ?_
  refine xA (ok_ifge hC (show decode prog_14_method_41_code 10 = .ok (.ifCond .ge 189, 3) by decide +kernel) (by decide)) ?_
  refine xA (ok_aload_n hC (show decode prog_14_method_41_code 13 = .ok (.aload_n 0, 1) by decide +kernel) rfl) ?_
  refine xA (ok_bipush hC (show decode prog_14_method_41_code 14 = .ok (.bipush 125, 2) by decide +kernel) (by decide)) ?_
  refine xA (ok_callV hC hnh (show decode prog_14_method_41_code 16 = .ok (.invokevirtual 332, 3) by decide +kernel) (by decide) (by decide) (by decide) (r0 := ("StyleCourtModel", xF13, 85)) rfl ⟨by decide, by decide, by decide +kernel⟩ w_1539 w_83 w_1536 w_1538 w_50) ?_
  refine xA (ok_ifne hC (show decode prog_14_method_41_code 19 = .ok (.ifCond .ne 180, 3) by decide +kernel) (by decide)) ?_
  refine xA (ok_aload_n hC (show decode prog_14_method_41_code 22 = .ok (.aload_n 0, 1) by decide +kernel) rfl) ?_
  refine xA (ok_get hC (show decode prog_14_method_41_code 23 = .ok (.getfield 326, 3) by decide +kernel) (by decide) (r0 := ("StyleCourtModel", xF13, 85)) rfl (by decide) rfl w_1190) ?_
  refine xA (ok_iconst hC (show decode prog_14_method_41_code 26 = .ok (.iconst 1, 1) by decide +kernel) (by decide)) ?_
  refine xA (ok_icne hC (show decode prog_14_method_41_code 27 = .ok (.if_icmp .ne 13, 3) by decide +kernel) (by decide)) ?_
  refine xA (ok_aload_n hC (show decode prog_14_method_41_code 30 = .ok (.aload_n 0, 1) by decide +kernel) rfl) ?_
  refine xA (ok_get hC (show decode prog_14_method_41_code 31 = .ok (.getfield 373, 3) by decide +kernel) (by decide) (r0 := ("StyleCourtModel", xF13, 85)) rfl (by decide) rfl w_1213) ?_
  refine xA (ok_sipush hC (show decode prog_14_method_41_code 34 = .ok (.sipush 600, 3) by decide +kernel) (by decide)) ?_
  refine xA (ok_icne hC (show decode prog_14_method_41_code 37 = .ok (.if_icmp .ne 12, 3) by decide +kernel) (by decide)) ?_
  refine xA (ok_aload_n hC (show decode prog_14_method_41_code 40 = .ok (.aload_n 0, 1) by decide +kernel) rfl) ?_
  refine xA (ok_aload_n hC (show decode prog_14_method_41_code 41 = .ok (.aload_n 0, 1) by decide +kernel) rfl) ?_
  refine xA (ok_get hC (show decode prog_14_method_41_code 42 = .ok (.getfield 320, 3) by decide +kernel) (by decide) (r0 := ("StyleCourtModel", xF13, 85)) rfl (by decide) rfl w_1191) ?_
  refine xA (ok_callV hC hnh (show decode prog_14_method_41_code 45 = .ok (.invokevirtual 221, 3) by decide +kernel) (by decide) (by decide) (by decide) (r0 := ("StyleCourtModel", xF13, 85)) rfl ⟨by decide, by decide, by decide +kernel⟩ w_1448 w_83 w_1445 w_1447 w_31) ?_
  refine xA (ok_vret hC hr (show decode prog_14_method_41_code 48 = .ok (.return_, 1) by decide +kernel)) ?_
  refine xA (ok_aload_n hC (show decode prog_14_method_41_code 49 = .ok (.aload_n 0, 1) by decide +kernel) rfl) ?_
  refine xA (ok_aload_n hC (show decode prog_14_method_41_code 50 = .ok (.aload_n 0, 1) by decide +kernel) rfl) ?_
  refine xA (ok_get hC (show decode prog_14_method_41_code 51 = .ok (.getfield 205, 3) by decide +kernel) (by decide) (r0 := ("StyleCourtModel", xF13, 85)) rfl (by decide) rfl w_1153) ?_
  refine xA (ok_aload_n hC (show decode prog_14_method_41_code 54 = .ok (.aload_n 0, 1) by decide +kernel) rfl) ?_
  refine xA (ok_get hC (show decode prog_14_method_41_code 55 = .ok (.getfield 320, 3) by decide +kernel) (by decide) (r0 := ("StyleCourtModel", xF13, 85)) rfl (by decide) rfl w_1191) ?_
  refine xA (ok_iadd hC (show decode prog_14_method_41_code 58 = .ok (.iadd, 1) by decide +kernel)) ?_
  refine xA (ok_aload_n hC (show decode prog_14_method_41_code 59 = .ok (.aload_n 0, 1) by decide +kernel) rfl) ?_
  refine xA (ok_get hC (show decode prog_14_method_41_code 60 = .ok (.getfield 317, 3) by decide +kernel) (by decide) (r0 := ("StyleCourtModel", xF13, 85)) rfl (by decide) rfl w_1192) ?_
  refine xA (ok_aload_n hC (show decode prog_14_method_41_code 63 = .ok (.aload_n 0, 1) by decide +kernel) rfl) ?_
  refine xA (ok_get hC (show decode prog_14_method_41_code 64 = .ok (.getfield 320, 3) by decide +kernel) (by decide) (r0 := ("StyleCourtModel", xF13, 85)) rfl (by decide) rfl w_1191) ?_
  refine xA (ok_isub hC (show decode prog_14_method_41_code 67 = .ok (.isub, 1) by decide +kernel)) ?_
  refine xA (ok_callV hC hnh (show decode prog_14_method_41_code 68 = .ok (.invokevirtual 376, 3) by decide +kernel) (by decide) (by decide) (by decide) (r0 := ("StyleCourtModel", xF13, 85)) rfl ⟨by decide, by decide, by decide +kernel⟩ w_1568 w_83 w_1565 w_1567 w_56) ?_
  refine xA (ok_istore_n hC (show decode prog_14_method_41_code 71 = .ok (.istore_n 2, 1) by decide +kernel) rfl (by decide)) ?_
  refine xA (ok_iload_n hC (show decode prog_14_method_41_code 72 = .ok (.iload_n 2, 1) by decide +kernel) rfl) ?_
  refine xA (ok_ifge hC (show decode prog_14_method_41_code 73 = .ok (.ifCond .ge 66, 3) by decide +kernel) (by decide)) ?_
  refine xA (ok_aload_n hC (show decode prog_14_method_41_code 76 = .ok (.aload_n 0, 1) by decide +kernel) rfl) ?_
  refine xA (ok_get hC (show decode prog_14_method_41_code 77 = .ok (.getfield 370, 3) by decide +kernel) (by decide) (r0 := ("StyleCourtModel", xF13, 85)) rfl (by decide) rfl w_1214) ?_
  refine xA (ok_bipush hC (show decode prog_14_method_41_code 80 = .ok (.bipush 30, 2) by decide +kernel) (by decide)) ?_
  refine xA (ok_icne hC (show decode prog_14_method_41_code 82 = .ok (.if_icmp .ne 12, 3) by decide +kernel) (by decide)) ?_
  refine xA (ok_aload_n hC (show decode prog_14_method_41_code 85 = .ok (.aload_n 0, 1) by decide +kernel) rfl) ?_
  refine xA (ok_aload_n hC (show decode prog_14_method_41_code 86 = .ok (.aload_n 0, 1) by decide +kernel) rfl) ?_
  refine xA (ok_get hC (show decode prog_14_method_41_code 87 = .ok (.getfield 320, 3) by decide +kernel) (by decide) (r0 := ("StyleCourtModel", xF13, 85)) rfl (by decide) rfl w_1191) ?_
  refine xA (ok_callV hC hnh (show decode prog_14_method_41_code 90 = .ok (.invokevirtual 221, 3) by decide +kernel) (by decide) (by decide) (by decide) (r0 := ("StyleCourtModel", xF13, 85)) rfl ⟨by decide, by decide, by decide +kernel⟩ w_1448 w_83 w_1445 w_1447 w_31) ?_
  refine xA (ok_vret hC hr (show decode prog_14_method_41_code 93 = .ok (.return_, 1) by decide +kernel)) ?_
  refine xA (ok_aload_n hC (show decode prog_14_method_41_code 94 = .ok (.aload_n 0, 1) by decide +kernel) rfl) ?_
  refine xA (ok_get hC (show decode prog_14_method_41_code 95 = .ok (.getfield 370, 3) by decide +kernel) (by decide) (r0 := ("StyleCourtModel", xF13, 85)) rfl (by decide) rfl w_1214) ?_
  refine xA (ok_istore_n hC (show decode prog_14_method_41_code 98 = .ok (.istore_n 2, 1) by decide +kernel) rfl (by decide)) ?_
  refine xA (ok_aload_n hC (show decode prog_14_method_41_code 99 = .ok (.aload_n 0, 1) by decide +kernel) rfl) ?_
  refine xA (ok_get hC (show decode prog_14_method_41_code 100 = .ok (.getfield 169, 3) by decide +kernel) (by decide) (r0 := ("StyleCourtModel", xF13, 85)) rfl (by decide) rfl w_1222) ?_
  refine xA (ok_iload_n hC (show decode prog_14_method_41_code 103 = .ok (.iload_n 2, 1) by decide +kernel) rfl) ?_
  refine xA (ok_aload_n hC (show decode prog_14_method_41_code 104 = .ok (.aload_n 0, 1) by decide +kernel) rfl) ?_
  refine xA (ok_get hC (show decode prog_14_method_41_code 105 = .ok (.getfield 205, 3) by decide +kernel) (by decide) (r0 := ("StyleCourtModel", xF13, 85)) rfl (by decide) rfl w_1153) ?_
  refine xA (ok_aload_n hC (show decode prog_14_method_41_code 108 = .ok (.aload_n 0, 1) by decide +kernel) rfl) ?_
  refine xA (ok_get hC (show decode prog_14_method_41_code 109 = .ok (.getfield 320, 3) by decide +kernel) (by decide) (r0 := ("StyleCourtModel", xF13, 85)) rfl (by decide) rfl w_1191) ?_
  refine xA (ok_iadd hC (show decode prog_14_method_41_code 112 = .ok (.iadd, 1) by decide +kernel)) ?_
  refine xA (ok_iast hC (show decode prog_14_method_41_code 113 = .ok (.iastore, 1) by decide +kernel) (by decide) rfl) ?_
  refine xA (ok_aload_n hC (show decode prog_14_method_41_code 114 = .ok (.aload_n 0, 1) by decide +kernel) rfl) ?_
  refine xA (ok_get hC (show decode prog_14_method_41_code 115 = .ok (.getfield 172, 3) by decide +kernel) (by decide) (r0 := ("StyleCourtModel", xF13, 85)) rfl (by decide) rfl w_1223) ?_
  refine xA (ok_iload_n hC (show decode prog_14_method_41_code 118 = .ok (.iload_n 2, 1) by decide +kernel) rfl) ?_
  refine xA (ok_aload_n hC (show decode prog_14_method_41_code 119 = .ok (.aload_n 0, 1) by decide +kernel) rfl) ?_
  refine xA (ok_get hC (show decode prog_14_method_41_code 120 = .ok (.getfield 317, 3) by decide +kernel) (by decide) (r0 := ("StyleCourtModel", xF13, 85)) rfl (by decide) rfl w_1192) ?_
  refine xA (ok_aload_n hC (show decode prog_14_method_41_code 123 = .ok (.aload_n 0, 1) by decide +kernel) rfl) ?_
  refine xA (ok_get hC (show decode prog_14_method_41_code 124 = .ok (.getfield 320, 3) by decide +kernel) (by decide) (r0 := ("StyleCourtModel", xF13, 85)) rfl (by decide) rfl w_1191) ?_
  refine xA (ok_isub hC (show decode prog_14_method_41_code 127 = .ok (.isub, 1) by decide +kernel)) ?_
  refine xA (ok_iast hC (show decode prog_14_method_41_code 128 = .ok (.iastore, 1) by decide +kernel) (by decide) rfl) ?_
  refine xA (ok_aload_n hC (show decode prog_14_method_41_code 129 = .ok (.aload_n 0, 1) by decide +kernel) rfl) ?_
  refine xA (ok_dup hC (show decode prog_14_method_41_code 130 = .ok (.dup, 1) by decide +kernel)) ?_
  refine xA (ok_get hC (show decode prog_14_method_41_code 131 = .ok (.getfield 370, 3) by decide +kernel) (by decide) (r0 := ("StyleCourtModel", xF13, 85)) rfl (by decide) rfl w_1214) ?_
  refine xA (ok_iconst hC (show decode prog_14_method_41_code 134 = .ok (.iconst 1, 1) by decide +kernel) (by decide)) ?_
  refine xA (ok_iadd hC (show decode prog_14_method_41_code 135 = .ok (.iadd, 1) by decide +kernel)) ?_
  refine xA (ok_put hC (show decode prog_14_method_41_code 136 = .ok (.putfield 370, 3) by decide +kernel) (by decide) (r0 := ("StyleCourtModel", xF13, 85)) rfl (by decide) rfl (by decide +kernel) w_1214) ?_
  refine xA (ok_aload_n hC (show decode prog_14_method_41_code 139 = .ok (.aload_n 0, 1) by decide +kernel) rfl) ?_
  refine xA (ok_get hC (show decode prog_14_method_41_code 140 = .ok (.getfield 148, 3) by decide +kernel) (by decide) (r0 := ("StyleCourtModel", xF13, 85)) rfl (by decide) rfl w_1215) ?_
  refine xA (ok_aload_n hC (show decode prog_14_method_41_code 143 = .ok (.aload_n 0, 1) by decide +kernel) rfl) ?_
  refine xA (ok_get hC (show decode prog_14_method_41_code 144 = .ok (.getfield 373, 3) by decide +kernel) (by decide) (r0 := ("StyleCourtModel", xF13, 85)) rfl (by decide) rfl w_1213) ?_
  refine xA (ok_iload_n hC (show decode prog_14_method_41_code 147 = .ok (.iload_n 2, 1) by decide +kernel) rfl) ?_
  refine xA (ok_iast hC (show decode prog_14_method_41_code 148 = .ok (.iastore, 1) by decide +kernel) (by decide) rfl) ?_
  refine xA (ok_aload_n hC (show decode prog_14_method_41_code 149 = .ok (.aload_n 0, 1) by decide +kernel) rfl) ?_
  refine xA (ok_get hC (show decode prog_14_method_41_code 150 = .ok (.getfield 151, 3) by decide +kernel) (by decide) (r0 := ("StyleCourtModel", xF13, 85)) rfl (by decide) rfl w_1216) ?_
  refine xA (ok_aload_n hC (show decode prog_14_method_41_code 153 = .ok (.aload_n 0, 1) by decide +kernel) rfl) ?_
  refine xA (ok_get hC (show decode prog_14_method_41_code 154 = .ok (.getfield 373, 3) by decide +kernel) (by decide) (r0 := ("StyleCourtModel", xF13, 85)) rfl (by decide) rfl w_1213) ?_
  refine xA (ok_iload_n hC (show decode prog_14_method_41_code 157 = .ok (.iload_n 1, 1) by decide +kernel) rfl) ?_
  refine xA (ok_iast hC (show decode prog_14_method_41_code 158 = .ok (.iastore, 1) by decide +kernel) (by decide) rfl) ?_
  refine xA (ok_aload_n hC (show decode prog_14_method_41_code 159 = .ok (.aload_n 0, 1) by decide +kernel) rfl) ?_
  refine xA (ok_callV hC hnh (show decode prog_14_method_41_code 160 = .ok (.invokevirtual 335, 3) by decide +kernel) (by decide) (by decide) (by decide) (r0 := ("StyleCourtModel", xF13, 85)) rfl ⟨by decide, by decide, by decide +kernel⟩ w_1527 w_83 w_1524 w_1526 w_47) ?_
  refine xA (ok_aload_n hC (show decode prog_14_method_41_code 163 = .ok (.aload_n 0, 1) by decide +kernel) rfl) ?_
  refine xA (ok_bipush hC (show decode prog_14_method_41_code 164 = .ok (.bipush 58, 2) by decide +kernel) (by decide)) ?_
  refine xA (ok_callV hC hnh (show decode prog_14_method_41_code 166 = .ok (.invokevirtual 344, 3) by decide +kernel) (by decide) (by decide) (by decide) (r0 := ("StyleCourtModel", xF13, 85)) rfl ⟨by decide, by decide, by decide +kernel⟩ w_1551 w_83 w_1548 w_1550 w_53) ?_
  refine xA (ok_aload_n hC (show decode prog_14_method_41_code 169 = .ok (.aload_n 0, 1) by decide +kernel) rfl) ?_
  refine xA (ok_callV hC hnh (show decode prog_14_method_41_code 170 = .ok (.invokevirtual 379, 3) by decide +kernel) (by decide) (by decide) (by decide) (r0 := ("StyleCourtModel", xF13, 85)) rfl ⟨by decide, by decide, by decide +kernel⟩ w_1572 w_83 w_1569 w_1571 w_57) ?_
  refine xA (ok_aload_n hC (show decode prog_14_method_41_code 173 = .ok (.aload_n 0, 1) by decide +kernel) rfl) ?_
  refine xA (ok_bipush hC (show decode prog_14_method_41_code 174 = .ok (.bipush 59, 2) by decide +kernel) (by decide)) ?_
  refine xA (ok_callV hC hnh (show decode prog_14_method_41_code 176 = .ok (.invokevirtual 344, 3) by decide +kernel) (by decide) (by decide) (by decide) (r0 := ("StyleCourtModel", xF13, 85)) rfl ⟨by decide, by decide, by decide +kernel⟩ w_1551 w_83 w_1548 w_1550 w_53) ?_
  refine xA (ok_aload_n hC (show decode prog_14_method_41_code 179 = .ok (.aload_n 0, 1) by decide +kernel) rfl) ?_
  refine xA (ok_get hC (show decode prog_14_method_41_code 180 = .ok (.getfield 211, 3) by decide +kernel) (by decide) (r0 := ("StyleCourtModel", xF13, 85)) rfl (by decide) rfl w_1151) ?_
  refine xA (ok_ifge hC (show decode prog_14_method_41_code 183 = .ok (.ifCond .ge 13, 3) by decide +kernel) (by decide)) ?_
  refine xA (ok_aload_n hC (show decode prog_14_method_41_code 186 = .ok (.aload_n 0, 1) by decide +kernel) rfl) ?_
  refine xA (ok_dup hC (show decode prog_14_method_41_code 187 = .ok (.dup, 1) by decide +kernel)) ?_
  refine xA (ok_get hC (show decode prog_14_method_41_code 188 = .ok (.getfield 373, 3) by decide +kernel) (by decide) (r0 := ("StyleCourtModel", xF13, 85)) rfl (by decide) rfl w_1213) ?_
  refine xA (ok_iconst hC (show decode prog_14_method_41_code 191 = .ok (.iconst 1, 1) by decide +kernel) (by decide)) ?_
  refine xA (ok_iadd hC (show decode prog_14_method_41_code 192 = .ok (.iadd, 1) by decide +kernel)) ?_
  refine xA (ok_put hC (show decode prog_14_method_41_code 193 = .ok (.putfield 373, 3) by decide +kernel) (by decide) (r0 := ("StyleCourtModel", xF13, 85)) rfl (by decide) rfl (by decide +kernel) w_1213) ?_
  refine xA (ok_goto hC (show decode prog_14_method_41_code 196 = .ok (.goto (-190), 3) by decide +kernel) (by decide)) ?_
  refine xA (ok_aload_n hC (show decode prog_14_method_41_code 199 = .ok (.aload_n 0, 1) by decide +kernel) rfl) ?_
  refine xA (ok_callV hC hnh (show decode prog_14_method_41_code 200 = .ok (.invokevirtual 335, 3) by decide +kernel) (by decide) (by decide) (by decide) (r0 := ("StyleCourtModel", xF13, 85)) rfl ⟨by decide, by decide, by decide +kernel⟩ w_1527 w_83 w_1524 w_1526 w_47) ?_
  refine xA (ok_vret hC hr (show decode prog_14_method_41_code 203 = .ok (.return_, 1) by decide +kernel)) ?_
  exact trivial

def tb_Mo_known (X : xX) : List (Nat × xOp) := [(0, o_ic 0 1),
  (1, o_ist 3 2),
  (2, o_ild 3 3),
  (3, o_ald 0 4),
  (4, o_get 13 69 7),
  (7, o_icge 39 10),
  (10, o_ald 0 11),
  (11, o_ald 0 12),
  (12, o_get 13 77 15),
  (15, o_ild 3 16),
  (16, o_ld 0 17),
  (17, o_ald 0 18),
  (18, o_get 13 78 21),
  (21, o_ild 3 22),
  (22, o_ld 0 23),
  (23, o_ild 1 24),
  (24, o_ild 2 25),
  (25, o_callV X.l X.D X.P 13 0 5 y_Mo_same 28),
  (28, o_ifeq 33 31),
  (31, o_ild 3 32),
  (32, o_iret X.P),
  (33, o_inc 3 1 36),
  (36, o_goto 2),
  (39, o_ic (-1) 40),
  (40, o_iret X.P)]
theorem tk_Mo_known {X : xX} (hC : xCx X prog_14_method_39_code "StyleCourtModel" 4 1) (hr : X.meth.sig.returnType = (some .int)) (hnh : X.c.exceptionTable.isEmpty = true) (hin : X.meth.name = "known") : xAll X (tb_Mo_known X) := by
  refine xA (ok_iconst hC (show decode prog_14_method_39_code 0 = .ok (.iconst 0, 1) by decide +kernel) (by decide)) ?_
  refine xA (ok_istore_n hC (show decode prog_14_method_39_code 1 = .ok (.istore_n 3, 1) by decide +kernel) rfl (by decide)) ?_
  refine xA (ok_iload_n hC (show decode prog_14_method_39_code 2 = .ok (.iload_n 3, 1) by decide +kernel) rfl) ?_
  refine xA (ok_aload_n hC (show decode prog_14_method_39_code 3 = .ok (.aload_n 0, 1) by decide +kernel) rfl) ?_
  refine xA (ok_get hC (show decode prog_14_method_39_code 4 = .ok (.getfield 370, 3) by decide +kernel) (by decide) (r0 := ("StyleCourtModel", xF13, 85)) rfl (by decide) rfl w_1214) ?_
  refine xA (ok_icge hC (show decode prog_14_method_39_code 7 = .ok (.if_icmp .ge 32, 3) by decide +kernel) (by decide)) ?_
  refine xA (ok_aload_n hC (show decode prog_14_method_39_code 10 = .ok (.aload_n 0, 1) by decide +kernel) rfl) ?_
  refine xA (ok_aload_n hC (show decode prog_14_method_39_code 11 = .ok (.aload_n 0, 1) by decide +kernel) rfl) ?_
  refine xA (ok_get hC (show decode prog_14_method_39_code 12 = .ok (.getfield 169, 3) by decide +kernel) (by decide) (r0 := ("StyleCourtModel", xF13, 85)) rfl (by decide) rfl w_1222) ?_
  refine xA (ok_iload_n hC (show decode prog_14_method_39_code 15 = .ok (.iload_n 3, 1) by decide +kernel) rfl) ?_
  refine xA (ok_iald hC (show decode prog_14_method_39_code 16 = .ok (.iaload, 1) by decide +kernel) (by decide) rfl) ?_
  refine xA (ok_aload_n hC (show decode prog_14_method_39_code 17 = .ok (.aload_n 0, 1) by decide +kernel) rfl) ?_
  refine xA (ok_get hC (show decode prog_14_method_39_code 18 = .ok (.getfield 172, 3) by decide +kernel) (by decide) (r0 := ("StyleCourtModel", xF13, 85)) rfl (by decide) rfl w_1223) ?_
  refine xA (ok_iload_n hC (show decode prog_14_method_39_code 21 = .ok (.iload_n 3, 1) by decide +kernel) rfl) ?_
  refine xA (ok_iald hC (show decode prog_14_method_39_code 22 = .ok (.iaload, 1) by decide +kernel) (by decide) rfl) ?_
  refine xA (ok_iload_n hC (show decode prog_14_method_39_code 23 = .ok (.iload_n 1, 1) by decide +kernel) rfl) ?_
  refine xA (ok_iload_n hC (show decode prog_14_method_39_code 24 = .ok (.iload_n 2, 1) by decide +kernel) rfl) ?_
  refine xA (ok_callV hC hnh (show decode prog_14_method_39_code 25 = .ok (.invokevirtual 239, 3) by decide +kernel) (by decide) (by decide) (by decide) (r0 := ("StyleCourtModel", xF13, 85)) rfl ⟨by decide, by decide, by decide +kernel⟩ w_1462 w_83 w_1459 w_1461 w_33) ?_
  refine xA (ok_ifeq hC (show decode prog_14_method_39_code 28 = .ok (.ifCond .eq 5, 3) by decide +kernel) (by decide)) ?_
  refine xA (ok_iload_n hC (show decode prog_14_method_39_code 31 = .ok (.iload_n 3, 1) by decide +kernel) rfl) ?_
  refine xA (ok_iret hC hr (show decode prog_14_method_39_code 32 = .ok (.ireturn, 1) by decide +kernel)) ?_
  refine xA (ok_iinc hC (show decode prog_14_method_39_code 33 = .ok (.iinc 3 1, 3) by decide +kernel) (by decide) (by decide)) ?_
  refine xA (ok_goto hC (show decode prog_14_method_39_code 36 = .ok (.goto (-34), 3) by decide +kernel) (by decide)) ?_
  refine xA (ok_iconst hC (show decode prog_14_method_39_code 39 = .ok (.iconst (-1), 1) by decide +kernel) (by decide)) ?_
  refine xA (ok_iret hC hr (show decode prog_14_method_39_code 40 = .ok (.ireturn, 1) by decide +kernel)) ?_
  exact trivial

def tb_Mo_oneValue (X : xX) : List (Nat × xOp) := [(0, o_ald 0 1),
  (1, o_get 13 6 4),
  (4, o_iflt 8 7),
  (7, o_vret X.P),
  (8, o_ald 0 9),
  (9, o_get 13 45 12),
  (12, o_ic 1 13),
  (13, o_iceq 41 16),
  (16, o_ald 0 17),
  (17, o_get 13 45 20),
  (20, o_ic 2 21),
  (21, o_iceq 41 24),
  (24, o_ald 0 25),
  (25, o_get 13 45 28),
  (28, o_ic 3 29),
  (29, o_iceq 41 32),
  (32, o_ald 0 33),
  (33, o_ald 0 34),
  (34, o_get 13 46 37),
  (37, o_callV X.l X.D X.P 13 0 2 y_Mo_wrong 40),
  (40, o_vret X.P),
  (41, o_ald 0 42),
  (42, o_get 13 68 45),
  (45, o_ist 1 46),
  (46, o_ald 0 47),
  (47, o_get 13 72 50),
  (50, o_ild 1 51),
  (51, o_ald 0 52),
  (52, o_get 13 45 55),
  (55, o_iast 0 56),
  (56, o_ald 0 57),
  (57, o_get 13 73 60),
  (60, o_ild 1 61),
  (61, o_ald 0 62),
  (62, o_get 13 8 65),
  (65, o_ald 0 66),
  (66, o_get 13 46 69),
  (69, o_iadd 70),
  (70, o_ald 0 71),
  (71, o_get 13 45 74),
  (74, o_ic 3 75),
  (75, o_icne 82 78),
  (78, o_ic 1 79),
  (79, o_goto 83),
  (82, o_ic 0 83),
  (83, o_iadd 84),
  (84, o_iast 0 85),
  (85, o_ald 0 86),
  (86, o_get 13 74 89),
  (89, o_ild 1 90),
  (90, o_ald 0 91),
  (91, o_get 13 47 94),
  (94, o_ald 0 95),
  (95, o_get 13 46 98),
  (98, o_isub 99),
  (99, o_ald 0 100),
  (100, o_get 13 45 103),
  (103, o_ic 3 104),
  (104, o_icne 111 107),
  (107, o_ic 2 108),
  (108, o_goto 112),
  (111, o_ic 0 112),
  (112, o_isub 113),
  (113, o_iast 0 114),
  (114, o_ald 0 115),
  (115, o_get 13 75 118),
  (118, o_ild 1 119),
  (119, o_ald 0 120),
  (120, o_get 13 48 123),
  (123, o_iast 0 124),
  (124, o_ald 0 125),
  (125, o_get 13 45 128),
  (128, o_ic 2 129),
  (129, o_icne 136 132),
  (132, o_ic 1 133),
  (133, o_goto 137),
  (136, o_ic 0 137),
  (137, o_ist 2 138),
  (138, o_ald 0 139),
  (139, o_get 13 46 142),
  (142, o_ist 3 143),
  (143, o_ald 0 144),
  (144, o_callV X.l X.D X.P 13 1 1 y_Mo_next 147),
  (147, o_ild 2 148),
  (148, o_ifeq 193 151),
  (151, o_ald 0 152),
  (152, o_ic 37 154),
  (154, o_callV X.l X.D X.P 13 0 2 y_Mo_isSign 157),
  (157, o_ifeq 193 160),
  (160, o_ald 0 161),
  (161, o_get 13 75 164),
  (164, o_ild 1 165),
  (165, o_ld 0 166),
  (166, o_ic 1 167),
  (167, o_ic 1000 170),
  (170, o_callS X.l X.D X.P 0 3 y_Mo_in 173),
  (173, o_ifne 182 176),
  (176, o_ald 0 177),
  (177, o_ild 3 178),
  (178, o_callV X.l X.D X.P 13 0 2 y_Mo_wrong 181),
  (181, o_vret X.P),
  (182, o_ald 0 183),
  (183, o_get 13 72 186),
  (186, o_ild 1 187),
  (187, o_ic 4 188),
  (188, o_iast 0 189),
  (189, o_ald 0 190),
  (190, o_callV X.l X.D X.P 13 1 1 y_Mo_next 193),
  (193, o_ald 0 194),
  (194, o_get 13 76 197),
  (197, o_ild 1 198),
  (198, o_ald 0 199),
  (199, o_ic 33 201),
  (201, o_callV X.l X.D X.P 13 0 2 y_Mo_isSign 204),
  (204, o_zast 3 205),
  (205, o_ald 0 206),
  (206, o_ic 33 208),
  (208, o_callV X.l X.D X.P 13 0 2 y_Mo_isSign 211),
  (211, o_ifeq 218 214),
  (214, o_ald 0 215),
  (215, o_callV X.l X.D X.P 13 1 1 y_Mo_next 218),
  (218, o_vret X.P)]
theorem tk_Mo_oneValue {X : xX} (hC : xCx X prog_14_method_40_code "StyleCourtModel" 4 2) (hr : X.meth.sig.returnType = none) (hnh : X.c.exceptionTable.isEmpty = true) (hin : X.meth.name = "oneValue") : xAll X (tb_Mo_oneValue X) := by
  refine xA (ok_aload_n hC (show decode prog_14_method_40_code 0 = .ok (.aload_n 0, 1) by decide +kernel) rfl) ?_
  refine xA (ok_get hC (show decode prog_14_method_40_code 1 = .ok (.getfield 211, 3) by decide +kernel) (by decide) (r0 := ("StyleCourtModel", xF13, 85)) rfl (by decide) rfl w_1151) ?_
  refine xA (ok_iflt hC (show decode prog_14_method_40_code 4 = .ok (.ifCond .lt 4, 3) by decide +kernel) (by decide)) ?_
  refine xA (ok_vret hC hr (show decode prog_14_method_40_code 7 = .ok (.return_, 1) by decide +kernel)) ?_
  refine xA (ok_aload_n hC (show decode prog_14_method_40_code 8 = .ok (.aload_n 0, 1) by decide +kernel) rfl) ?_
  refine xA (ok_get hC (show decode prog_14_method_40_code 9 = .ok (.getfield 326, 3) by decide +kernel) (by decide) (r0 := ("StyleCourtModel", xF13, 85)) rfl (by decide) rfl w_1190) ?_
  refine xA (ok_iconst hC (show decode prog_14_method_40_code 12 = .ok (.iconst 1, 1) by decide +kernel) (by decide)) ?_
  refine xA (ok_iceq hC (show decode prog_14_method_40_code 13 = .ok (.if_icmp .eq 28, 3) by decide +kernel) (by decide)) ?_
  refine xA (ok_aload_n hC (show decode prog_14_method_40_code 16 = .ok (.aload_n 0, 1) by decide +kernel) rfl) ?_
  refine xA (ok_get hC (show decode prog_14_method_40_code 17 = .ok (.getfield 326, 3) by decide +kernel) (by decide) (r0 := ("StyleCourtModel", xF13, 85)) rfl (by decide) rfl w_1190) ?_
  refine xA (ok_iconst hC (show decode prog_14_method_40_code 20 = .ok (.iconst 2, 1) by decide +kernel) (by decide)) ?_
  refine xA (ok_iceq hC (show decode prog_14_method_40_code 21 = .ok (.if_icmp .eq 20, 3) by decide +kernel) (by decide)) ?_
  refine xA (ok_aload_n hC (show decode prog_14_method_40_code 24 = .ok (.aload_n 0, 1) by decide +kernel) rfl) ?_
  refine xA (ok_get hC (show decode prog_14_method_40_code 25 = .ok (.getfield 326, 3) by decide +kernel) (by decide) (r0 := ("StyleCourtModel", xF13, 85)) rfl (by decide) rfl w_1190) ?_
  refine xA (ok_iconst hC (show decode prog_14_method_40_code 28 = .ok (.iconst 3, 1) by decide +kernel) (by decide)) ?_
  refine xA (ok_iceq hC (show decode prog_14_method_40_code 29 = .ok (.if_icmp .eq 12, 3) by decide +kernel) (by decide)) ?_
  refine xA (ok_aload_n hC (show decode prog_14_method_40_code 32 = .ok (.aload_n 0, 1) by decide +kernel) rfl) ?_
  refine xA (ok_aload_n hC (show decode prog_14_method_40_code 33 = .ok (.aload_n 0, 1) by decide +kernel) rfl) ?_
  refine xA (ok_get hC (show decode prog_14_method_40_code 34 = .ok (.getfield 320, 3) by decide +kernel) (by decide) (r0 := ("StyleCourtModel", xF13, 85)) rfl (by decide) rfl w_1191) ?_
  refine xA (ok_callV hC hnh (show decode prog_14_method_40_code 37 = .ok (.invokevirtual 221, 3) by decide +kernel) (by decide) (by decide) (by decide) (r0 := ("StyleCourtModel", xF13, 85)) rfl ⟨by decide, by decide, by decide +kernel⟩ w_1448 w_83 w_1445 w_1447 w_31) ?_
  refine xA (ok_vret hC hr (show decode prog_14_method_40_code 40 = .ok (.return_, 1) by decide +kernel)) ?_
  refine xA (ok_aload_n hC (show decode prog_14_method_40_code 41 = .ok (.aload_n 0, 1) by decide +kernel) rfl) ?_
  refine xA (ok_get hC (show decode prog_14_method_40_code 42 = .ok (.getfield 373, 3) by decide +kernel) (by decide) (r0 := ("StyleCourtModel", xF13, 85)) rfl (by decide) rfl w_1213) ?_
  refine xA (ok_istore_n hC (show decode prog_14_method_40_code 45 = .ok (.istore_n 1, 1) by decide +kernel) rfl (by decide)) ?_
  refine xA (ok_aload_n hC (show decode prog_14_method_40_code 46 = .ok (.aload_n 0, 1) by decide +kernel) rfl) ?_
  refine xA (ok_get hC (show decode prog_14_method_40_code 47 = .ok (.getfield 154, 3) by decide +kernel) (by decide) (r0 := ("StyleCourtModel", xF13, 85)) rfl (by decide) rfl w_1217) ?_
  refine xA (ok_iload_n hC (show decode prog_14_method_40_code 50 = .ok (.iload_n 1, 1) by decide +kernel) rfl) ?_
  refine xA (ok_aload_n hC (show decode prog_14_method_40_code 51 = .ok (.aload_n 0, 1) by decide +kernel) rfl) ?_
  refine xA (ok_get hC (show decode prog_14_method_40_code 52 = .ok (.getfield 326, 3) by decide +kernel) (by decide) (r0 := ("StyleCourtModel", xF13, 85)) rfl (by decide) rfl w_1190) ?_
  refine xA (ok_iast hC (show decode prog_14_method_40_code 55 = .ok (.iastore, 1) by decide +kernel) (by decide) rfl) ?_
  refine xA (ok_aload_n hC (show decode prog_14_method_40_code 56 = .ok (.aload_n 0, 1) by decide +kernel) rfl) ?_
  refine xA (ok_get hC (show decode prog_14_method_40_code 57 = .ok (.getfield 157, 3) by decide +kernel) (by decide) (r0 := ("StyleCourtModel", xF13, 85)) rfl (by decide) rfl w_1218) ?_
  refine xA (ok_iload_n hC (show decode prog_14_method_40_code 60 = .ok (.iload_n 1, 1) by decide +kernel) rfl) ?_
  refine xA (ok_aload_n hC (show decode prog_14_method_40_code 61 = .ok (.aload_n 0, 1) by decide +kernel) rfl) ?_
  refine xA (ok_get hC (show decode prog_14_method_40_code 62 = .ok (.getfield 205, 3) by decide +kernel) (by decide) (r0 := ("StyleCourtModel", xF13, 85)) rfl (by decide) rfl w_1153) ?_
  refine xA (ok_aload_n hC (show decode prog_14_method_40_code 65 = .ok (.aload_n 0, 1) by decide +kernel) rfl) ?_
  refine xA (ok_get hC (show decode prog_14_method_40_code 66 = .ok (.getfield 320, 3) by decide +kernel) (by decide) (r0 := ("StyleCourtModel", xF13, 85)) rfl (by decide) rfl w_1191) ?_
  refine xA (ok_iadd hC (show decode prog_14_method_40_code 69 = .ok (.iadd, 1) by decide +kernel)) ?_
  refine xA (ok_aload_n hC (show decode prog_14_method_40_code 70 = .ok (.aload_n 0, 1) by decide +kernel) rfl) ?_
  refine xA (ok_get hC (show decode prog_14_method_40_code 71 = .ok (.getfield 326, 3) by decide +kernel) (by decide) (r0 := ("StyleCourtModel", xF13, 85)) rfl (by decide) rfl w_1190) ?_
  refine xA (ok_iconst hC (show decode prog_14_method_40_code 74 = .ok (.iconst 3, 1) by decide +kernel) (by decide)) ?_
  refine xA (ok_icne hC (show decode prog_14_method_40_code 75 = .ok (.if_icmp .ne 7, 3) by decide +kernel) (by decide)) ?_
  refine xA (ok_iconst hC (show decode prog_14_method_40_code 78 = .ok (.iconst 1, 1) by decide +kernel) (by decide)) ?_
  refine xA (ok_goto hC (show decode prog_14_method_40_code 79 = .ok (.goto 4, 3) by decide +kernel) (by decide)) ?_
  refine xA (ok_iconst hC (show decode prog_14_method_40_code 82 = .ok (.iconst 0, 1) by decide +kernel) (by decide)) ?_
  refine xA (ok_iadd hC (show decode prog_14_method_40_code 83 = .ok (.iadd, 1) by decide +kernel)) ?_
  refine xA (ok_iast hC (show decode prog_14_method_40_code 84 = .ok (.iastore, 1) by decide +kernel) (by decide) rfl) ?_
  refine xA (ok_aload_n hC (show decode prog_14_method_40_code 85 = .ok (.aload_n 0, 1) by decide +kernel) rfl) ?_
  refine xA (ok_get hC (show decode prog_14_method_40_code 86 = .ok (.getfield 160, 3) by decide +kernel) (by decide) (r0 := ("StyleCourtModel", xF13, 85)) rfl (by decide) rfl w_1219) ?_
  refine xA (ok_iload_n hC (show decode prog_14_method_40_code 89 = .ok (.iload_n 1, 1) by decide +kernel) rfl) ?_
  refine xA (ok_aload_n hC (show decode prog_14_method_40_code 90 = .ok (.aload_n 0, 1) by decide +kernel) rfl) ?_
  refine xA (ok_get hC (show decode prog_14_method_40_code 91 = .ok (.getfield 317, 3) by decide +kernel) (by decide) (r0 := ("StyleCourtModel", xF13, 85)) rfl (by decide) rfl w_1192) ?_
  refine xA (ok_aload_n hC (show decode prog_14_method_40_code 94 = .ok (.aload_n 0, 1) by decide +kernel) rfl) ?_
  refine xA (ok_get hC (show decode prog_14_method_40_code 95 = .ok (.getfield 320, 3) by decide +kernel) (by decide) (r0 := ("StyleCourtModel", xF13, 85)) rfl (by decide) rfl w_1191) ?_
  refine xA (ok_isub hC (show decode prog_14_method_40_code 98 = .ok (.isub, 1) by decide +kernel)) ?_
  refine xA (ok_aload_n hC (show decode prog_14_method_40_code 99 = .ok (.aload_n 0, 1) by decide +kernel) rfl) ?_
  refine xA (ok_get hC (show decode prog_14_method_40_code 100 = .ok (.getfield 326, 3) by decide +kernel) (by decide) (r0 := ("StyleCourtModel", xF13, 85)) rfl (by decide) rfl w_1190) ?_
  refine xA (ok_iconst hC (show decode prog_14_method_40_code 103 = .ok (.iconst 3, 1) by decide +kernel) (by decide)) ?_
  refine xA (ok_icne hC (show decode prog_14_method_40_code 104 = .ok (.if_icmp .ne 7, 3) by decide +kernel) (by decide)) ?_
  refine xA (ok_iconst hC (show decode prog_14_method_40_code 107 = .ok (.iconst 2, 1) by decide +kernel) (by decide)) ?_
  refine xA (ok_goto hC (show decode prog_14_method_40_code 108 = .ok (.goto 4, 3) by decide +kernel) (by decide)) ?_
  refine xA (ok_iconst hC (show decode prog_14_method_40_code 111 = .ok (.iconst 0, 1) by decide +kernel) (by decide)) ?_
  refine xA (ok_isub hC (show decode prog_14_method_40_code 112 = .ok (.isub, 1) by decide +kernel)) ?_
  refine xA (ok_iast hC (show decode prog_14_method_40_code 113 = .ok (.iastore, 1) by decide +kernel) (by decide) rfl) ?_
  refine xA (ok_aload_n hC (show decode prog_14_method_40_code 114 = .ok (.aload_n 0, 1) by decide +kernel) rfl) ?_
  refine xA (ok_get hC (show decode prog_14_method_40_code 115 = .ok (.getfield 163, 3) by decide +kernel) (by decide) (r0 := ("StyleCourtModel", xF13, 85)) rfl (by decide) rfl w_1220) ?_
  refine xA (ok_iload_n hC (show decode prog_14_method_40_code 118 = .ok (.iload_n 1, 1) by decide +kernel) rfl) ?_
  refine xA (ok_aload_n hC (show decode prog_14_method_40_code 119 = .ok (.aload_n 0, 1) by decide +kernel) rfl) ?_
  refine xA (ok_get hC (show decode prog_14_method_40_code 120 = .ok (.getfield 329, 3) by decide +kernel) (by decide) (r0 := ("StyleCourtModel", xF13, 85)) rfl (by decide) rfl w_1193) ?_
  refine xA (ok_iast hC (show decode prog_14_method_40_code 123 = .ok (.iastore, 1) by decide +kernel) (by decide) rfl) ?_
  refine xA (ok_aload_n hC (show decode prog_14_method_40_code 124 = .ok (.aload_n 0, 1) by decide +kernel) rfl) ?_
  refine xA (ok_get hC (show decode prog_14_method_40_code 125 = .ok (.getfield 326, 3) by decide +kernel) (by decide) (r0 := ("StyleCourtModel", xF13, 85)) rfl (by decide) rfl w_1190) ?_
  refine xA (ok_iconst hC (show decode prog_14_method_40_code 128 = .ok (.iconst 2, 1) by decide +kernel) (by decide)) ?_
  refine xA (ok_icne hC (show decode prog_14_method_40_code 129 = .ok (.if_icmp .ne 7, 3) by decide +kernel) (by decide)) ?_
  refine xA (ok_iconst hC (show decode prog_14_method_40_code 132 = .ok (.iconst 1, 1) by decide +kernel) (by decide)) ?_
  refine xA (ok_goto hC (show decode prog_14_method_40_code 133 = .ok (.goto 4, 3) by decide +kernel) (by decide)) ?_
  refine xA (ok_iconst hC (show decode prog_14_method_40_code 136 = .ok (.iconst 0, 1) by decide +kernel) (by decide)) ?_
  refine xA (ok_istore_n hC (show decode prog_14_method_40_code 137 = .ok (.istore_n 2, 1) by decide +kernel) rfl (by decide)) ?_
  refine xA (ok_aload_n hC (show decode prog_14_method_40_code 138 = .ok (.aload_n 0, 1) by decide +kernel) rfl) ?_
  refine xA (ok_get hC (show decode prog_14_method_40_code 139 = .ok (.getfield 320, 3) by decide +kernel) (by decide) (r0 := ("StyleCourtModel", xF13, 85)) rfl (by decide) rfl w_1191) ?_
  refine xA (ok_istore_n hC (show decode prog_14_method_40_code 142 = .ok (.istore_n 3, 1) by decide +kernel) rfl (by decide)) ?_
  refine xA (ok_aload_n hC (show decode prog_14_method_40_code 143 = .ok (.aload_n 0, 1) by decide +kernel) rfl) ?_
  refine xA (ok_callV hC hnh (show decode prog_14_method_40_code 144 = .ok (.invokevirtual 335, 3) by decide +kernel) (by decide) (by decide) (by decide) (r0 := ("StyleCourtModel", xF13, 85)) rfl ⟨by decide, by decide, by decide +kernel⟩ w_1527 w_83 w_1524 w_1526 w_47) ?_
  refine xA (ok_iload_n hC (show decode prog_14_method_40_code 147 = .ok (.iload_n 2, 1) by decide +kernel) rfl) ?_
  refine xA (ok_ifeq hC (show decode prog_14_method_40_code 148 = .ok (.ifCond .eq 45, 3) by decide +kernel) (by decide)) ?_
  refine xA (ok_aload_n hC (show decode prog_14_method_40_code 151 = .ok (.aload_n 0, 1) by decide +kernel) rfl) ?_
  refine xA (ok_bipush hC (show decode prog_14_method_40_code 152 = .ok (.bipush 37, 2) by decide +kernel) (by decide)) ?_
  refine xA (ok_callV hC hnh (show decode prog_14_method_40_code 154 = .ok (.invokevirtual 332, 3) by decide +kernel) (by decide) (by decide) (by decide) (r0 := ("StyleCourtModel", xF13, 85)) rfl ⟨by decide, by decide, by decide +kernel⟩ w_1539 w_83 w_1536 w_1538 w_50) ?_
  refine xA (ok_ifeq hC (show decode prog_14_method_40_code 157 = .ok (.ifCond .eq 36, 3) by decide +kernel) (by decide)) ?_
  refine xA (ok_aload_n hC (show decode prog_14_method_40_code 160 = .ok (.aload_n 0, 1) by decide +kernel) rfl) ?_
  refine xA (ok_get hC (show decode prog_14_method_40_code 161 = .ok (.getfield 163, 3) by decide +kernel) (by decide) (r0 := ("StyleCourtModel", xF13, 85)) rfl (by decide) rfl w_1220) ?_
  refine xA (ok_iload_n hC (show decode prog_14_method_40_code 164 = .ok (.iload_n 1, 1) by decide +kernel) rfl) ?_
  refine xA (ok_iald hC (show decode prog_14_method_40_code 165 = .ok (.iaload, 1) by decide +kernel) (by decide) rfl) ?_
  refine xA (ok_iconst hC (show decode prog_14_method_40_code 166 = .ok (.iconst 1, 1) by decide +kernel) (by decide)) ?_
  refine xA (ok_sipush hC (show decode prog_14_method_40_code 167 = .ok (.sipush 1000, 3) by decide +kernel) (by decide)) ?_
  refine xA (ok_callS (hh := []) hC hnh (show decode prog_14_method_40_code 170 = .ok (.invokestatic 201, 3) by decide +kernel) (by decide) (by decide) ⟨by decide, by decide, by decide +kernel⟩ (Or.inl w_1424) w_83 w_1422 w_1423) ?_
  refine xA (ok_ifne hC (show decode prog_14_method_40_code 173 = .ok (.ifCond .ne 9, 3) by decide +kernel) (by decide)) ?_
  refine xA (ok_aload_n hC (show decode prog_14_method_40_code 176 = .ok (.aload_n 0, 1) by decide +kernel) rfl) ?_
  refine xA (ok_iload_n hC (show decode prog_14_method_40_code 177 = .ok (.iload_n 3, 1) by decide +kernel) rfl) ?_
  refine xA (ok_callV hC hnh (show decode prog_14_method_40_code 178 = .ok (.invokevirtual 221, 3) by decide +kernel) (by decide) (by decide) (by decide) (r0 := ("StyleCourtModel", xF13, 85)) rfl ⟨by decide, by decide, by decide +kernel⟩ w_1448 w_83 w_1445 w_1447 w_31) ?_
  refine xA (ok_vret hC hr (show decode prog_14_method_40_code 181 = .ok (.return_, 1) by decide +kernel)) ?_
  refine xA (ok_aload_n hC (show decode prog_14_method_40_code 182 = .ok (.aload_n 0, 1) by decide +kernel) rfl) ?_
  refine xA (ok_get hC (show decode prog_14_method_40_code 183 = .ok (.getfield 154, 3) by decide +kernel) (by decide) (r0 := ("StyleCourtModel", xF13, 85)) rfl (by decide) rfl w_1217) ?_
  refine xA (ok_iload_n hC (show decode prog_14_method_40_code 186 = .ok (.iload_n 1, 1) by decide +kernel) rfl) ?_
  refine xA (ok_iconst hC (show decode prog_14_method_40_code 187 = .ok (.iconst 4, 1) by decide +kernel) (by decide)) ?_
  refine xA (ok_iast hC (show decode prog_14_method_40_code 188 = .ok (.iastore, 1) by decide +kernel) (by decide) rfl) ?_
  refine xA (ok_aload_n hC (show decode prog_14_method_40_code 189 = .ok (.aload_n 0, 1) by decide +kernel) rfl) ?_
  refine xA (ok_callV hC hnh (show decode prog_14_method_40_code 190 = .ok (.invokevirtual 335, 3) by decide +kernel) (by decide) (by decide) (by decide) (r0 := ("StyleCourtModel", xF13, 85)) rfl ⟨by decide, by decide, by decide +kernel⟩ w_1527 w_83 w_1524 w_1526 w_47) ?_
  refine xA (ok_aload_n hC (show decode prog_14_method_40_code 193 = .ok (.aload_n 0, 1) by decide +kernel) rfl) ?_
  refine xA (ok_get hC (show decode prog_14_method_40_code 194 = .ok (.getfield 166, 3) by decide +kernel) (by decide) (r0 := ("StyleCourtModel", xF13, 85)) rfl (by decide) rfl w_1221) ?_
  refine xA (ok_iload_n hC (show decode prog_14_method_40_code 197 = .ok (.iload_n 1, 1) by decide +kernel) rfl) ?_
  refine xA (ok_aload_n hC (show decode prog_14_method_40_code 198 = .ok (.aload_n 0, 1) by decide +kernel) rfl) ?_
  refine xA (ok_bipush hC (show decode prog_14_method_40_code 199 = .ok (.bipush 33, 2) by decide +kernel) (by decide)) ?_
  refine xA (ok_callV hC hnh (show decode prog_14_method_40_code 201 = .ok (.invokevirtual 332, 3) by decide +kernel) (by decide) (by decide) (by decide) (r0 := ("StyleCourtModel", xF13, 85)) rfl ⟨by decide, by decide, by decide +kernel⟩ w_1539 w_83 w_1536 w_1538 w_50) ?_
  refine xA (ok_zast hC (show decode prog_14_method_40_code 204 = .ok (.bastore, 1) by decide +kernel) (by decide) rfl) ?_
  refine xA (ok_aload_n hC (show decode prog_14_method_40_code 205 = .ok (.aload_n 0, 1) by decide +kernel) rfl) ?_
  refine xA (ok_bipush hC (show decode prog_14_method_40_code 206 = .ok (.bipush 33, 2) by decide +kernel) (by decide)) ?_
  refine xA (ok_callV hC hnh (show decode prog_14_method_40_code 208 = .ok (.invokevirtual 332, 3) by decide +kernel) (by decide) (by decide) (by decide) (r0 := ("StyleCourtModel", xF13, 85)) rfl ⟨by decide, by decide, by decide +kernel⟩ w_1539 w_83 w_1536 w_1538 w_50) ?_
  refine xA (ok_ifeq hC (show decode prog_14_method_40_code 211 = .ok (.ifCond .eq 7, 3) by decide +kernel) (by decide)) ?_
  refine xA (ok_aload_n hC (show decode prog_14_method_40_code 214 = .ok (.aload_n 0, 1) by decide +kernel) rfl) ?_
  refine xA (ok_callV hC hnh (show decode prog_14_method_40_code 215 = .ok (.invokevirtual 335, 3) by decide +kernel) (by decide) (by decide) (by decide) (r0 := ("StyleCourtModel", xF13, 85)) rfl ⟨by decide, by decide, by decide +kernel⟩ w_1527 w_83 w_1524 w_1526 w_47) ?_
  refine xA (ok_vret hC hr (show decode prog_14_method_40_code 218 = .ok (.return_, 1) by decide +kernel)) ?_
  exact trivial

def tb_Mo_place (X : xX) : List (Nat × xOp) := [(0, o_ald 0 1),
  (1, o_ic 0 2),
  (2, o_put 13 0 (.int) 5),
  (5, o_ald 0 6),
  (6, o_get 13 5 9),
  (9, o_iret X.P)]
theorem tk_Mo_place {X : xX} (hC : xCx X prog_14_method_44_code "StyleCourtModel" 1 0) (hr : X.meth.sig.returnType = (some .int)) (hnh : X.c.exceptionTable.isEmpty = true) (hin : X.meth.name = "place") : xAll X (tb_Mo_place X) := by
  refine xA (ok_aload_n hC (show decode prog_14_method_44_code 0 = .ok (.aload_n 0, 1) by decide +kernel) rfl) ?_
  refine xA (ok_iconst hC (show decode prog_14_method_44_code 1 = .ok (.iconst 0, 1) by decide +kernel) (by decide)) ?_
  refine xA (ok_put hC (show decode prog_14_method_44_code 2 = .ok (.putfield 187, 3) by decide +kernel) (by decide) (r0 := ("StyleCourtModel", xF13, 85)) rfl (by decide) rfl (by decide +kernel) w_1145) ?_
  refine xA (ok_aload_n hC (show decode prog_14_method_44_code 5 = .ok (.aload_n 0, 1) by decide +kernel) rfl) ?_
  refine xA (ok_get hC (show decode prog_14_method_44_code 6 = .ok (.getfield 16, 3) by decide +kernel) (by decide) (r0 := ("StyleCourtModel", xF13, 85)) rfl (by decide) rfl w_1150) ?_
  refine xA (ok_iret hC hr (show decode prog_14_method_44_code 9 = .ok (.ireturn, 1) by decide +kernel)) ?_
  exact trivial

def tb_Mo_by (X : xX) : List (Nat × xOp) := [(0, o_ald 0 1),
  (1, o_callV X.l X.D X.P 13 2 1 y_Mo_asked 4),
  (4, o_ist 2 5),
  (5, o_ald 0 6),
  (6, o_ild 1 7),
  (7, o_callV X.l X.D X.P 13 1 2 y_Mo_isThere 10),
  (10, o_ifne 19 13),
  (13, o_ald 0 14),
  (14, o_ic 1 15),
  (15, o_callV X.l X.D X.P 13 0 2 y_Mo_refuse 18),
  (18, o_iret X.P),
  (19, o_ald 0 20),
  (20, o_ic 0 21),
  (21, o_put 13 0 (.int) 24),
  (24, o_ild 2 25),
  (25, o_ifge 32 28),
  (28, o_ic (-1) 29),
  (29, o_goto 38),
  (32, o_ald 0 33),
  (33, o_ild 1 34),
  (34, o_ild 2 35),
  (35, o_callV X.l X.D X.P 13 5 3 y_Mo_counts 38),
  (38, o_iret X.P)]
theorem tk_Mo_by {X : xX} (hC : xCx X prog_14_method_53_code "StyleCourtModel" 3 6) (hr : X.meth.sig.returnType = (some .int)) (hnh : X.c.exceptionTable.isEmpty = true) (hin : X.meth.name = "by") : xAll X (tb_Mo_by X) := by
  refine xA (ok_aload_n hC (show decode prog_14_method_53_code 0 = .ok (.aload_n 0, 1) by decide +kernel) rfl) ?_
  refine xA (ok_callV hC hnh (show decode prog_14_method_53_code 1 = .ok (.invokevirtual 414, 3) by decide +kernel) (by decide) (by decide) (by decide) (r0 := ("StyleCourtModel", xF13, 85)) rfl ⟨by decide, by decide, by decide +kernel⟩ w_1584 w_83 w_1581 w_1583 w_58) ?_
  refine xA (ok_istore_n hC (show decode prog_14_method_53_code 4 = .ok (.istore_n 2, 1) by decide +kernel) rfl (by decide)) ?_
  refine xA (ok_aload_n hC (show decode prog_14_method_53_code 5 = .ok (.aload_n 0, 1) by decide +kernel) rfl) ?_
  refine xA (ok_iload_n hC (show decode prog_14_method_53_code 6 = .ok (.iload_n 1, 1) by decide +kernel) rfl) ?_
  refine xA (ok_callV hC hnh (show decode prog_14_method_53_code 7 = .ok (.invokevirtual 418, 3) by decide +kernel) (by decide) (by decide) (by decide) (r0 := ("StyleCourtModel", xF13, 85)) rfl ⟨by decide, by decide, by decide +kernel⟩ w_1589 w_83 w_1586 w_1588 w_59) ?_
  refine xA (ok_ifne hC (show decode prog_14_method_53_code 10 = .ok (.ifCond .ne 9, 3) by decide +kernel) (by decide)) ?_
  refine xA (ok_aload_n hC (show decode prog_14_method_53_code 13 = .ok (.aload_n 0, 1) by decide +kernel) rfl) ?_
  refine xA (ok_iconst hC (show decode prog_14_method_53_code 14 = .ok (.iconst 1, 1) by decide +kernel) (by decide)) ?_
  refine xA (ok_callV hC hnh (show decode prog_14_method_53_code 15 = .ok (.invokevirtual 193, 3) by decide +kernel) (by decide) (by decide) (by decide) (r0 := ("StyleCourtModel", xF13, 85)) rfl ⟨by decide, by decide, by decide +kernel⟩ w_1413 w_83 w_1410 w_1412 w_25) ?_
  refine xA (ok_iret hC hr (show decode prog_14_method_53_code 18 = .ok (.ireturn, 1) by decide +kernel)) ?_
  refine xA (ok_aload_n hC (show decode prog_14_method_53_code 19 = .ok (.aload_n 0, 1) by decide +kernel) rfl) ?_
  refine xA (ok_iconst hC (show decode prog_14_method_53_code 20 = .ok (.iconst 0, 1) by decide +kernel) (by decide)) ?_
  refine xA (ok_put hC (show decode prog_14_method_53_code 21 = .ok (.putfield 187, 3) by decide +kernel) (by decide) (r0 := ("StyleCourtModel", xF13, 85)) rfl (by decide) rfl (by decide +kernel) w_1145) ?_
  refine xA (ok_iload_n hC (show decode prog_14_method_53_code 24 = .ok (.iload_n 2, 1) by decide +kernel) rfl) ?_
  refine xA (ok_ifge hC (show decode prog_14_method_53_code 25 = .ok (.ifCond .ge 7, 3) by decide +kernel) (by decide)) ?_
  refine xA (ok_iconst hC (show decode prog_14_method_53_code 28 = .ok (.iconst (-1), 1) by decide +kernel) (by decide)) ?_
  refine xA (ok_goto hC (show decode prog_14_method_53_code 29 = .ok (.goto 9, 3) by decide +kernel) (by decide)) ?_
  refine xA (ok_aload_n hC (show decode prog_14_method_53_code 32 = .ok (.aload_n 0, 1) by decide +kernel) rfl) ?_
  refine xA (ok_iload_n hC (show decode prog_14_method_53_code 33 = .ok (.iload_n 1, 1) by decide +kernel) rfl) ?_
  refine xA (ok_iload_n hC (show decode prog_14_method_53_code 34 = .ok (.iload_n 2, 1) by decide +kernel) rfl) ?_
  refine xA (ok_callV hC hnh (show decode prog_14_method_53_code 35 = .ok (.invokevirtual 421, 3) by decide +kernel) (by decide) (by decide) (by decide) (r0 := ("StyleCourtModel", xF13, 85)) rfl ⟨by decide, by decide, by decide +kernel⟩ w_1593 w_83 w_1590 w_1592 w_60) ?_
  refine xA (ok_iret hC hr (show decode prog_14_method_53_code 38 = .ok (.ireturn, 1) by decide +kernel)) ?_
  exact trivial

def tb_Mo_asked (X : xX) : List (Nat × xOp) := [(0, o_ald 0 1),
  (1, o_ic 40000 4),
  (4, o_callV X.l X.D X.P 13 0 2 y_Mo_take 7),
  (7, o_ald 0 8),
  (8, o_ic 40000 11),
  (11, o_ald 0 12),
  (12, o_get 13 9 15),
  (15, o_callV X.l X.D X.P 13 1 3 y_Mo_known 18),
  (18, o_iret X.P)]
theorem tk_Mo_asked {X : xX} (hC : xCx X prog_14_method_52_code "StyleCourtModel" 1 2) (hr : X.meth.sig.returnType = (some .int)) (hnh : X.c.exceptionTable.isEmpty = true) (hin : X.meth.name = "asked") : xAll X (tb_Mo_asked X) := by
  refine xA (ok_aload_n hC (show decode prog_14_method_52_code 0 = .ok (.aload_n 0, 1) by decide +kernel) rfl) ?_
  refine xA (ok_ldcw hC (show decode prog_14_method_52_code 1 = .ok (.ldc_w 413, 3) by decide +kernel) w_1585) ?_
  refine xA (ok_callV hC hnh (show decode prog_14_method_52_code 4 = .ok (.invokevirtual 305, 3) by decide +kernel) (by decide) (by decide) (by decide) (r0 := ("StyleCourtModel", xF13, 85)) rfl ⟨by decide, by decide, by decide +kernel⟩ w_1432 w_83 w_1429 w_1431 w_27) ?_
  refine xA (ok_aload_n hC (show decode prog_14_method_52_code 7 = .ok (.aload_n 0, 1) by decide +kernel) rfl) ?_
  refine xA (ok_ldcw hC (show decode prog_14_method_52_code 8 = .ok (.ldc_w 413, 3) by decide +kernel) w_1585) ?_
  refine xA (ok_aload_n hC (show decode prog_14_method_52_code 11 = .ok (.aload_n 0, 1) by decide +kernel) rfl) ?_
  refine xA (ok_get hC (show decode prog_14_method_52_code 12 = .ok (.getfield 208, 3) by decide +kernel) (by decide) (r0 := ("StyleCourtModel", xF13, 85)) rfl (by decide) rfl w_1154) ?_
  refine xA (ok_callV hC hnh (show decode prog_14_method_52_code 15 = .ok (.invokevirtual 376, 3) by decide +kernel) (by decide) (by decide) (by decide) (r0 := ("StyleCourtModel", xF13, 85)) rfl ⟨by decide, by decide, by decide +kernel⟩ w_1568 w_83 w_1565 w_1567 w_56) ?_
  refine xA (ok_iret hC hr (show decode prog_14_method_52_code 18 = .ok (.ireturn, 1) by decide +kernel)) ?_
  exact trivial

def tb_Mo_isThere (X : xX) : List (Nat × xOp) := [(0, o_ild 1 1),
  (1, o_ic 0 2),
  (2, o_ald 0 3),
  (3, o_get 13 10 6),
  (6, o_ic 1 7),
  (7, o_isub 8),
  (8, o_callS X.l X.D X.P 0 3 y_Mo_in 11),
  (11, o_zret .boolean X.P)]
theorem tk_Mo_isThere {X : xX} (hC : xCx X prog_14_method_51_code "StyleCourtModel" 2 1) (hr : X.meth.sig.returnType = (some .boolean)) (hnh : X.c.exceptionTable.isEmpty = true) (hin : X.meth.name = "isThere") : xAll X (tb_Mo_isThere X) := by
  refine xA (ok_iload_n hC (show decode prog_14_method_51_code 0 = .ok (.iload_n 1, 1) by decide +kernel) rfl) ?_
  refine xA (ok_iconst hC (show decode prog_14_method_51_code 1 = .ok (.iconst 0, 1) by decide +kernel) (by decide)) ?_
  refine xA (ok_aload_n hC (show decode prog_14_method_51_code 2 = .ok (.aload_n 0, 1) by decide +kernel) rfl) ?_
  refine xA (ok_get hC (show decode prog_14_method_51_code 3 = .ok (.getfield 311, 3) by decide +kernel) (by decide) (r0 := ("StyleCourtModel", xF13, 85)) rfl (by decide) rfl w_1155) ?_
  refine xA (ok_iconst hC (show decode prog_14_method_51_code 6 = .ok (.iconst 1, 1) by decide +kernel) (by decide)) ?_
  refine xA (ok_isub hC (show decode prog_14_method_51_code 7 = .ok (.isub, 1) by decide +kernel)) ?_
  refine xA (ok_callS (hh := []) hC hnh (show decode prog_14_method_51_code 8 = .ok (.invokestatic 201, 3) by decide +kernel) (by decide) (by decide) ⟨by decide, by decide, by decide +kernel⟩ (Or.inl w_1424) w_83 w_1422 w_1423) ?_
  refine xA (ok_zret hC hr (show decode prog_14_method_51_code 11 = .ok (.ireturn, 1) by decide +kernel)) ?_
  exact trivial

def tb_Mo_counts (X : xX) : List (Nat × xOp) := [(0, o_ic (-1) 1),
  (1, o_ist 3 2),
  (2, o_ic 0 3),
  (3, o_ist 4 5),
  (5, o_ic 0 6),
  (6, o_ist 5 8),
  (8, o_ild 5 10),
  (10, o_ald 0 11),
  (11, o_get 13 50 14),
  (14, o_icge 37 17),
  (17, o_ald 0 18),
  (18, o_get 13 82 21),
  (21, o_ild 5 23),
  (23, o_ald 0 24),
  (24, o_ild 5 26),
  (26, o_ild 1 27),
  (27, o_callV X.l X.D X.P 13 4 3 y_Mo_selectorFits 30),
  (30, o_zast 3 31),
  (31, o_inc 5 1 34),
  (34, o_goto 8),
  (37, o_ic 0 38),
  (38, o_ist 5 40),
  (40, o_ild 5 42),
  (42, o_ald 0 43),
  (43, o_get 13 68 46),
  (46, o_icge 214 49),
  (49, o_ald 0 50),
  (50, o_get 13 70 53),
  (53, o_ild 5 55),
  (55, o_ld 0 56),
  (56, o_ild 2 57),
  (57, o_iceq 63 60),
  (60, o_goto 208),
  (63, o_ic (-1) 64),
  (64, o_ist 6 66),
  (66, o_ic 0 67),
  (67, o_ist 7 69),
  (69, o_ild 7 71),
  (71, o_ald 0 72),
  (72, o_get 13 50 75),
  (75, o_icge 132 78),
  (78, o_ald 0 79),
  (79, o_get 13 55 82),
  (82, o_ild 7 84),
  (84, o_ld 0 85),
  (85, o_ald 0 86),
  (86, o_get 13 71 89),
  (89, o_ild 5 91),
  (91, o_ld 0 92),
  (92, o_icne 126 95),
  (95, o_ald 0 96),
  (96, o_get 13 82 99),
  (99, o_ild 7 101),
  (101, o_ld 3 102),
  (102, o_ifeq 126 105),
  (105, o_ald 0 106),
  (106, o_get 13 56 109),
  (109, o_ild 7 111),
  (111, o_ld 0 112),
  (112, o_ild 6 114),
  (114, o_icle 126 117),
  (117, o_ald 0 118),
  (118, o_get 13 56 121),
  (121, o_ild 7 123),
  (123, o_ld 0 124),
  (124, o_ist 6 126),
  (126, o_inc 7 1 129),
  (129, o_goto 69),
  (132, o_ild 6 134),
  (134, o_ifge 140 137),
  (137, o_goto 208),
  (140, o_ild 3 141),
  (141, o_iflt 186 144),
  (144, o_ald 0 145),
  (145, o_get 13 76 148),
  (148, o_ild 5 150),
  (150, o_ld 3 151),
  (151, o_ifeq 163 154),
  (154, o_ald 0 155),
  (155, o_get 13 76 158),
  (158, o_ild 3 159),
  (159, o_ld 3 160),
  (160, o_ifeq 186 163),
  (163, o_ald 0 164),
  (164, o_get 13 76 167),
  (167, o_ild 5 169),
  (169, o_ld 3 170),
  (170, o_ald 0 171),
  (171, o_get 13 76 174),
  (174, o_ild 3 175),
  (175, o_ld 3 176),
  (176, o_icne 190 179),
  (179, o_ild 6 181),
  (181, o_ild 4 183),
  (183, o_iclt 190 186),
  (186, o_ic 1 187),
  (187, o_goto 191),
  (190, o_ic 0 191),
  (191, o_ist 7 193),
  (193, o_ild 7 195),
  (195, o_ifne 201 198),
  (198, o_goto 208),
  (201, o_ild 5 203),
  (203, o_ist 3 204),
  (204, o_ild 6 206),
  (206, o_ist 4 208),
  (208, o_inc 5 1 211),
  (211, o_goto 40),
  (214, o_ild 3 215),
  (215, o_iret X.P)]
theorem tk_Mo_counts {X : xX} (hC : xCx X prog_14_method_50_code "StyleCourtModel" 8 5) (hr : X.meth.sig.returnType = (some .int)) (hnh : X.c.exceptionTable.isEmpty = true) (hin : X.meth.name = "counts") : xAll X (tb_Mo_counts X) := by
  refine xA (ok_iconst hC (show decode prog_14_method_50_code 0 = .ok (.iconst (-1), 1) by decide +kernel) (by decide)) ?_
  refine xA (ok_istore_n hC (show decode prog_14_method_50_code 1 = .ok (.istore_n 3, 1) by decide +kernel) rfl (by decide)) ?_
  refine xA (ok_iconst hC (show decode prog_14_method_50_code 2 = .ok (.iconst 0, 1) by decide +kernel) (by decide)) ?_
  refine xA (ok_istore hC (show decode prog_14_method_50_code 3 = .ok (.istore 4, 2) by decide +kernel) (by decide)) ?_
  refine xA (ok_iconst hC (show decode prog_14_method_50_code 5 = .ok (.iconst 0, 1) by decide +kernel) (by decide)) ?_
  refine xA (ok_istore hC (show decode prog_14_method_50_code 6 = .ok (.istore 5, 2) by decide +kernel) (by decide)) ?_
  refine xA (ok_iload hC (show decode prog_14_method_50_code 8 = .ok (.iload 5, 2) by decide +kernel)) ?_
  refine xA (ok_aload_n hC (show decode prog_14_method_50_code 10 = .ok (.aload_n 0, 1) by decide +kernel) rfl) ?_
  refine xA (ok_get hC (show decode prog_14_method_50_code 11 = .ok (.getfield 382, 3) by decide +kernel) (by decide) (r0 := ("StyleCourtModel", xF13, 85)) rfl (by decide) rfl w_1195) ?_
  refine xA (ok_icge hC (show decode prog_14_method_50_code 14 = .ok (.if_icmp .ge 23, 3) by decide +kernel) (by decide)) ?_
  refine xA (ok_aload_n hC (show decode prog_14_method_50_code 17 = .ok (.aload_n 0, 1) by decide +kernel) rfl) ?_
  refine xA (ok_get hC (show decode prog_14_method_50_code 18 = .ok (.getfield 181, 3) by decide +kernel) (by decide) (r0 := ("StyleCourtModel", xF13, 85)) rfl (by decide) rfl w_1227) ?_
  refine xA (ok_iload hC (show decode prog_14_method_50_code 21 = .ok (.iload 5, 2) by decide +kernel)) ?_
  refine xA (ok_aload_n hC (show decode prog_14_method_50_code 23 = .ok (.aload_n 0, 1) by decide +kernel) rfl) ?_
  refine xA (ok_iload hC (show decode prog_14_method_50_code 24 = .ok (.iload 5, 2) by decide +kernel)) ?_
  refine xA (ok_iload_n hC (show decode prog_14_method_50_code 26 = .ok (.iload_n 1, 1) by decide +kernel) rfl) ?_
  refine xA (ok_callV hC hnh (show decode prog_14_method_50_code 27 = .ok (.invokevirtual 410, 3) by decide +kernel) (by decide) (by decide) (by decide) (r0 := ("StyleCourtModel", xF13, 85)) rfl ⟨by decide, by decide, by decide +kernel⟩ w_1597 w_83 w_1594 w_1596 w_61) ?_
  refine xA (ok_zast hC (show decode prog_14_method_50_code 30 = .ok (.bastore, 1) by decide +kernel) (by decide) rfl) ?_
  refine xA (ok_iinc hC (show decode prog_14_method_50_code 31 = .ok (.iinc 5 1, 3) by decide +kernel) (by decide) (by decide)) ?_
  refine xA (ok_goto hC (show decode prog_14_method_50_code 34 = .ok (.goto (-26), 3) by decide +kernel) (by decide)) ?_
  refine xA (ok_iconst hC (show decode prog_14_method_50_code 37 = .ok (.iconst 0, 1) by decide +kernel) (by decide)) ?_
  refine xA (ok_istore hC (show decode prog_14_method_50_code 38 = .ok (.istore 5, 2) by decide +kernel) (by decide)) ?_
  refine xA (ok_iload hC (show decode prog_14_method_50_code 40 = .ok (.iload 5, 2) by decide +kernel)) ?_
  refine xA (ok_aload_n hC (show decode prog_14_method_50_code 42 = .ok (.aload_n 0, 1) by decide +kernel) rfl) ?_
  refine xA (ok_get hC (show decode prog_14_method_50_code 43 = .ok (.getfield 373, 3) by decide +kernel) (by decide) (r0 := ("StyleCourtModel", xF13, 85)) rfl (by decide) rfl w_1213) ?_
  refine xA (ok_icge hC (show decode prog_14_method_50_code 46 = .ok (.if_icmp .ge 168, 3) by decide +kernel) (by decide)) ?_
  refine xA (ok_aload_n hC (show decode prog_14_method_50_code 49 = .ok (.aload_n 0, 1) by decide +kernel) rfl) ?_
  refine xA (ok_get hC (show decode prog_14_method_50_code 50 = .ok (.getfield 148, 3) by decide +kernel) (by decide) (r0 := ("StyleCourtModel", xF13, 85)) rfl (by decide) rfl w_1215) ?_
  refine xA (ok_iload hC (show decode prog_14_method_50_code 53 = .ok (.iload 5, 2) by decide +kernel)) ?_
  refine xA (ok_iald hC (show decode prog_14_method_50_code 55 = .ok (.iaload, 1) by decide +kernel) (by decide) rfl) ?_
  refine xA (ok_iload_n hC (show decode prog_14_method_50_code 56 = .ok (.iload_n 2, 1) by decide +kernel) rfl) ?_
  refine xA (ok_iceq hC (show decode prog_14_method_50_code 57 = .ok (.if_icmp .eq 6, 3) by decide +kernel) (by decide)) ?_
  refine xA (ok_goto hC (show decode prog_14_method_50_code 60 = .ok (.goto 148, 3) by decide +kernel) (by decide)) ?_
  refine xA (ok_iconst hC (show decode prog_14_method_50_code 63 = .ok (.iconst (-1), 1) by decide +kernel) (by decide)) ?_
  refine xA (ok_istore hC (show decode prog_14_method_50_code 64 = .ok (.istore 6, 2) by decide +kernel) (by decide)) ?_
  refine xA (ok_iconst hC (show decode prog_14_method_50_code 66 = .ok (.iconst 0, 1) by decide +kernel) (by decide)) ?_
  refine xA (ok_istore hC (show decode prog_14_method_50_code 67 = .ok (.istore 7, 2) by decide +kernel) (by decide)) ?_
  refine xA (ok_iload hC (show decode prog_14_method_50_code 69 = .ok (.iload 7, 2) by decide +kernel)) ?_
  refine xA (ok_aload_n hC (show decode prog_14_method_50_code 71 = .ok (.aload_n 0, 1) by decide +kernel) rfl) ?_
  refine xA (ok_get hC (show decode prog_14_method_50_code 72 = .ok (.getfield 382, 3) by decide +kernel) (by decide) (r0 := ("StyleCourtModel", xF13, 85)) rfl (by decide) rfl w_1195) ?_
  refine xA (ok_icge hC (show decode prog_14_method_50_code 75 = .ok (.if_icmp .ge 57, 3) by decide +kernel) (by decide)) ?_
  refine xA (ok_aload_n hC (show decode prog_14_method_50_code 78 = .ok (.aload_n 0, 1) by decide +kernel) rfl) ?_
  refine xA (ok_get hC (show decode prog_14_method_50_code 79 = .ok (.getfield 109, 3) by decide +kernel) (by decide) (r0 := ("StyleCourtModel", xF13, 85)) rfl (by decide) rfl w_1200) ?_
  refine xA (ok_iload hC (show decode prog_14_method_50_code 82 = .ok (.iload 7, 2) by decide +kernel)) ?_
  refine xA (ok_iald hC (show decode prog_14_method_50_code 84 = .ok (.iaload, 1) by decide +kernel) (by decide) rfl) ?_
  refine xA (ok_aload_n hC (show decode prog_14_method_50_code 85 = .ok (.aload_n 0, 1) by decide +kernel) rfl) ?_
  refine xA (ok_get hC (show decode prog_14_method_50_code 86 = .ok (.getfield 151, 3) by decide +kernel) (by decide) (r0 := ("StyleCourtModel", xF13, 85)) rfl (by decide) rfl w_1216) ?_
  refine xA (ok_iload hC (show decode prog_14_method_50_code 89 = .ok (.iload 5, 2) by decide +kernel)) ?_
  refine xA (ok_iald hC (show decode prog_14_method_50_code 91 = .ok (.iaload, 1) by decide +kernel) (by decide) rfl) ?_
  refine xA (ok_icne hC (show decode prog_14_method_50_code 92 = .ok (.if_icmp .ne 34, 3) by decide +kernel) (by decide)) ?_
  refine xA (ok_aload_n hC (show decode prog_14_method_50_code 95 = .ok (.aload_n 0, 1) by decide +kernel) rfl) ?_
  refine xA (ok_get hC (show decode prog_14_method_50_code 96 = .ok (.getfield 181, 3) by decide +kernel) (by decide) (r0 := ("StyleCourtModel", xF13, 85)) rfl (by decide) rfl w_1227) ?_
  refine xA (ok_iload hC (show decode prog_14_method_50_code 99 = .ok (.iload 7, 2) by decide +kernel)) ?_
  refine xA (ok_zald hC (show decode prog_14_method_50_code 101 = .ok (.baload, 1) by decide +kernel) (by decide) rfl) ?_
  refine xA (ok_ifeq hC (show decode prog_14_method_50_code 102 = .ok (.ifCond .eq 24, 3) by decide +kernel) (by decide)) ?_
  refine xA (ok_aload_n hC (show decode prog_14_method_50_code 105 = .ok (.aload_n 0, 1) by decide +kernel) rfl) ?_
  refine xA (ok_get hC (show decode prog_14_method_50_code 106 = .ok (.getfield 112, 3) by decide +kernel) (by decide) (r0 := ("StyleCourtModel", xF13, 85)) rfl (by decide) rfl w_1201) ?_
  refine xA (ok_iload hC (show decode prog_14_method_50_code 109 = .ok (.iload 7, 2) by decide +kernel)) ?_
  refine xA (ok_iald hC (show decode prog_14_method_50_code 111 = .ok (.iaload, 1) by decide +kernel) (by decide) rfl) ?_
  refine xA (ok_iload hC (show decode prog_14_method_50_code 112 = .ok (.iload 6, 2) by decide +kernel)) ?_
  refine xA (ok_icle hC (show decode prog_14_method_50_code 114 = .ok (.if_icmp .le 12, 3) by decide +kernel) (by decide)) ?_
  refine xA (ok_aload_n hC (show decode prog_14_method_50_code 117 = .ok (.aload_n 0, 1) by decide +kernel) rfl) ?_
  refine xA (ok_get hC (show decode prog_14_method_50_code 118 = .ok (.getfield 112, 3) by decide +kernel) (by decide) (r0 := ("StyleCourtModel", xF13, 85)) rfl (by decide) rfl w_1201) ?_
  refine xA (ok_iload hC (show decode prog_14_method_50_code 121 = .ok (.iload 7, 2) by decide +kernel)) ?_
  refine xA (ok_iald hC (show decode prog_14_method_50_code 123 = .ok (.iaload, 1) by decide +kernel) (by decide) rfl) ?_
  refine xA (ok_istore hC (show decode prog_14_method_50_code 124 = .ok (.istore 6, 2) by decide +kernel) (by decide)) ?_
  refine xA (ok_iinc hC (show decode prog_14_method_50_code 126 = .ok (.iinc 7 1, 3) by decide +kernel) (by decide) (by decide)) ?_
  refine xA (ok_goto hC (show decode prog_14_method_50_code 129 = .ok (.goto (-60), 3) by decide +kernel) (by decide)) ?_
  refine xA (ok_iload hC (show decode prog_14_method_50_code 132 = .ok (.iload 6, 2) by decide +kernel)) ?_
  refine xA (ok_ifge hC (show decode prog_14_method_50_code 134 = .ok (.ifCond .ge 6, 3) by decide +kernel) (by decide)) ?_
  refine xA (ok_goto hC (show decode prog_14_method_50_code 137 = .ok (.goto 71, 3) by decide +kernel) (by decide)) ?_
  refine xA (ok_iload_n hC (show decode prog_14_method_50_code 140 = .ok (.iload_n 3, 1) by decide +kernel) rfl) ?_
  refine xA (ok_iflt hC (show decode prog_14_method_50_code 141 = .ok (.ifCond .lt 45, 3) by decide +kernel) (by decide)) ?_
  refine xA (ok_aload_n hC (show decode prog_14_method_50_code 144 = .ok (.aload_n 0, 1) by decide +kernel) rfl) ?_
  refine xA (ok_get hC (show decode prog_14_method_50_code 145 = .ok (.getfield 166, 3) by decide +kernel) (by decide) (r0 := ("StyleCourtModel", xF13, 85)) rfl (by decide) rfl w_1221) ?_
  refine xA (ok_iload hC (show decode prog_14_method_50_code 148 = .ok (.iload 5, 2) by decide +kernel)) ?_
  refine xA (ok_zald hC (show decode prog_14_method_50_code 150 = .ok (.baload, 1) by decide +kernel) (by decide) rfl) ?_
  refine xA (ok_ifeq hC (show decode prog_14_method_50_code 151 = .ok (.ifCond .eq 12, 3) by decide +kernel) (by decide)) ?_
  refine xA (ok_aload_n hC (show decode prog_14_method_50_code 154 = .ok (.aload_n 0, 1) by decide +kernel) rfl) ?_
  refine xA (ok_get hC (show decode prog_14_method_50_code 155 = .ok (.getfield 166, 3) by decide +kernel) (by decide) (r0 := ("StyleCourtModel", xF13, 85)) rfl (by decide) rfl w_1221) ?_
  refine xA (ok_iload_n hC (show decode prog_14_method_50_code 158 = .ok (.iload_n 3, 1) by decide +kernel) rfl) ?_
  refine xA (ok_zald hC (show decode prog_14_method_50_code 159 = .ok (.baload, 1) by decide +kernel) (by decide) rfl) ?_
  refine xA (ok_ifeq hC (show decode prog_14_method_50_code 160 = .ok (.ifCond .eq 26, 3) by decide +kernel) (by decide)) ?_
  refine xA (ok_aload_n hC (show decode prog_14_method_50_code 163 = .ok (.aload_n 0, 1) by decide +kernel) rfl) ?_
  refine xA (ok_get hC (show decode prog_14_method_50_code 164 = .ok (.getfield 166, 3) by decide +kernel) (by decide) (r0 := ("StyleCourtModel", xF13, 85)) rfl (by decide) rfl w_1221) ?_
  refine xA (ok_iload hC (show decode prog_14_method_50_code 167 = .ok (.iload 5, 2) by decide +kernel)) ?_
  refine xA (ok_zald hC (show decode prog_14_method_50_code 169 = .ok (.baload, 1) by decide +kernel) (by decide) rfl) ?_
  refine xA (ok_aload_n hC (show decode prog_14_method_50_code 170 = .ok (.aload_n 0, 1) by decide +kernel) rfl) ?_
  refine xA (ok_get hC (show decode prog_14_method_50_code 171 = .ok (.getfield 166, 3) by decide +kernel) (by decide) (r0 := ("StyleCourtModel", xF13, 85)) rfl (by decide) rfl w_1221) ?_
  refine xA (ok_iload_n hC (show decode prog_14_method_50_code 174 = .ok (.iload_n 3, 1) by decide +kernel) rfl) ?_
  refine xA (ok_zald hC (show decode prog_14_method_50_code 175 = .ok (.baload, 1) by decide +kernel) (by decide) rfl) ?_
  refine xA (ok_icne hC (show decode prog_14_method_50_code 176 = .ok (.if_icmp .ne 14, 3) by decide +kernel) (by decide)) ?_
  refine xA (ok_iload hC (show decode prog_14_method_50_code 179 = .ok (.iload 6, 2) by decide +kernel)) ?_
  refine xA (ok_iload hC (show decode prog_14_method_50_code 181 = .ok (.iload 4, 2) by decide +kernel)) ?_
  refine xA (ok_iclt hC (show decode prog_14_method_50_code 183 = .ok (.if_icmp .lt 7, 3) by decide +kernel) (by decide)) ?_
  refine xA (ok_iconst hC (show decode prog_14_method_50_code 186 = .ok (.iconst 1, 1) by decide +kernel) (by decide)) ?_
  refine xA (ok_goto hC (show decode prog_14_method_50_code 187 = .ok (.goto 4, 3) by decide +kernel) (by decide)) ?_
  refine xA (ok_iconst hC (show decode prog_14_method_50_code 190 = .ok (.iconst 0, 1) by decide +kernel) (by decide)) ?_
  refine xA (ok_istore hC (show decode prog_14_method_50_code 191 = .ok (.istore 7, 2) by decide +kernel) (by decide)) ?_
  refine xA (ok_iload hC (show decode prog_14_method_50_code 193 = .ok (.iload 7, 2) by decide +kernel)) ?_
  refine xA (ok_ifne hC (show decode prog_14_method_50_code 195 = .ok (.ifCond .ne 6, 3) by decide +kernel) (by decide)) ?_
  refine xA (ok_goto hC (show decode prog_14_method_50_code 198 = .ok (.goto 10, 3) by decide +kernel) (by decide)) ?_
  refine xA (ok_iload hC (show decode prog_14_method_50_code 201 = .ok (.iload 5, 2) by decide +kernel)) ?_
  refine xA (ok_istore_n hC (show decode prog_14_method_50_code 203 = .ok (.istore_n 3, 1) by decide +kernel) rfl (by decide)) ?_
  refine xA (ok_iload hC (show decode prog_14_method_50_code 204 = .ok (.iload 6, 2) by decide +kernel)) ?_
  refine xA (ok_istore hC (show decode prog_14_method_50_code 206 = .ok (.istore 4, 2) by decide +kernel) (by decide)) ?_
  refine xA (ok_iinc hC (show decode prog_14_method_50_code 208 = .ok (.iinc 5 1, 3) by decide +kernel) (by decide) (by decide)) ?_
  refine xA (ok_goto hC (show decode prog_14_method_50_code 211 = .ok (.goto (-171), 3) by decide +kernel) (by decide)) ?_
  refine xA (ok_iload_n hC (show decode prog_14_method_50_code 214 = .ok (.iload_n 3, 1) by decide +kernel) rfl) ?_
  refine xA (ok_iret hC hr (show decode prog_14_method_50_code 215 = .ok (.ireturn, 1) by decide +kernel)) ?_
  exact trivial

def tb_Mo_selectorFits (X : xX) : List (Nat × xOp) := [(0, o_ic 0 1),
  (1, o_ist 3 2),
  (2, o_ild 3 3),
  (3, o_ald 0 4),
  (4, o_get 13 10 7),
  (7, o_icge 33 10),
  (10, o_ald 0 11),
  (11, o_get 13 80 14),
  (14, o_ild 3 15),
  (15, o_ald 0 16),
  (16, o_ald 0 17),
  (17, o_get 13 53 20),
  (20, o_ild 1 21),
  (21, o_ld 0 22),
  (22, o_ild 3 23),
  (23, o_callV X.l X.D X.P 13 3 3 y_Mo_stepFits 26),
  (26, o_zast 3 27),
  (27, o_inc 3 1 30),
  (30, o_goto 2),
  (33, o_ic 1 34),
  (34, o_ist 3 35),
  (35, o_ild 3 36),
  (36, o_ald 0 37),
  (37, o_get 13 54 40),
  (40, o_ild 1 41),
  (41, o_ld 0 42),
  (42, o_icge 276 45),
  (45, o_ald 0 46),
  (46, o_get 13 53 49),
  (49, o_ild 1 50),
  (50, o_ld 0 51),
  (51, o_ild 3 52),
  (52, o_iadd 53),
  (53, o_ist 4 55),
  (55, o_ic 0 56),
  (56, o_ist 5 58),
  (58, o_ild 5 60),
  (60, o_ald 0 61),
  (61, o_get 13 10 64),
  (64, o_icge 87 67),
  (67, o_ald 0 68),
  (68, o_get 13 81 71),
  (71, o_ild 5 73),
  (73, o_ald 0 74),
  (74, o_get 13 80 77),
  (77, o_ild 5 79),
  (79, o_ld 3 80),
  (80, o_zast 3 81),
  (81, o_inc 5 1 84),
  (84, o_goto 58),
  (87, o_ic 0 88),
  (88, o_ist 5 90),
  (90, o_ild 5 92),
  (92, o_ald 0 93),
  (93, o_get 13 10 96),
  (96, o_icge 270 99),
  (99, o_ic 0 100),
  (100, o_ist 6 102),
  (102, o_ald 0 103),
  (103, o_get 13 59 106),
  (106, o_ild 4 108),
  (108, o_ld 0 109),
  (109, o_ic 62 111),
  (111, o_icne 149 114),
  (114, o_ald 0 115),
  (115, o_get 13 14 118),
  (118, o_ild 5 120),
  (120, o_ld 0 121),
  (121, o_iflt 143 124),
  (124, o_ald 0 125),
  (125, o_get 13 81 128),
  (128, o_ald 0 129),
  (129, o_get 13 14 132),
  (132, o_ild 5 134),
  (134, o_ld 0 135),
  (135, o_ld 3 136),
  (136, o_ifeq 143 139),
  (139, o_ic 1 140),
  (140, o_goto 144),
  (143, o_ic 0 144),
  (144, o_ist 6 146),
  (146, o_goto 236),
  (149, o_ald 0 150),
  (150, o_get 13 59 153),
  (153, o_ild 4 155),
  (155, o_ld 0 156),
  (156, o_ic 43 158),
  (158, o_icne 196 161),
  (161, o_ald 0 162),
  (162, o_get 13 15 165),
  (165, o_ild 5 167),
  (167, o_ld 0 168),
  (168, o_iflt 190 171),
  (171, o_ald 0 172),
  (172, o_get 13 81 175),
  (175, o_ald 0 176),
  (176, o_get 13 15 179),
  (179, o_ild 5 181),
  (181, o_ld 0 182),
  (182, o_ld 3 183),
  (183, o_ifeq 190 186),
  (186, o_ic 1 187),
  (187, o_goto 191),
  (190, o_ic 0 191),
  (191, o_ist 6 193),
  (193, o_goto 236),
  (196, o_ald 0 197),
  (197, o_get 13 14 200),
  (200, o_ild 5 202),
  (202, o_ld 0 203),
  (203, o_ist 7 205),
  (205, o_ild 7 207),
  (207, o_iflt 236 210),
  (210, o_ild 6 212),
  (212, o_ifne 236 215),
  (215, o_ald 0 216),
  (216, o_get 13 81 219),
  (219, o_ild 7 221),
  (221, o_ld 3 222),
  (222, o_ist 6 224),
  (224, o_ald 0 225),
  (225, o_get 13 14 228),
  (228, o_ild 7 230),
  (230, o_ld 0 231),
  (231, o_ist 7 233),
  (233, o_goto 205),
  (236, o_ald 0 237),
  (237, o_get 13 80 240),
  (240, o_ild 5 242),
  (242, o_ild 6 244),
  (244, o_ifeq 262 247),
  (247, o_ald 0 248),
  (248, o_ild 4 250),
  (250, o_ild 5 252),
  (252, o_callV X.l X.D X.P 13 3 3 y_Mo_stepFits 255),
  (255, o_ifeq 262 258),
  (258, o_ic 1 259),
  (259, o_goto 263),
  (262, o_ic 0 263),
  (263, o_zast 3 264),
  (264, o_inc 5 1 267),
  (267, o_goto 90),
  (270, o_inc 3 1 273),
  (273, o_goto 35),
  (276, o_ald 0 277),
  (277, o_get 13 80 280),
  (280, o_ild 2 281),
  (281, o_ld 3 282),
  (282, o_zret .boolean X.P)]
theorem tk_Mo_selectorFits {X : xX} (hC : xCx X prog_14_method_49_code "StyleCourtModel" 8 4) (hr : X.meth.sig.returnType = (some .boolean)) (hnh : X.c.exceptionTable.isEmpty = true) (hin : X.meth.name = "selectorFits") : xAll X (tb_Mo_selectorFits X) := by
  refine xA (ok_iconst hC (show decode prog_14_method_49_code 0 = .ok (.iconst 0, 1) by decide +kernel) (by decide)) ?_
  refine xA (ok_istore_n hC (show decode prog_14_method_49_code 1 = .ok (.istore_n 3, 1) by decide +kernel) rfl (by decide)) ?_
  refine xA (ok_iload_n hC (show decode prog_14_method_49_code 2 = .ok (.iload_n 3, 1) by decide +kernel) rfl) ?_
  refine xA (ok_aload_n hC (show decode prog_14_method_49_code 3 = .ok (.aload_n 0, 1) by decide +kernel) rfl) ?_
  refine xA (ok_get hC (show decode prog_14_method_49_code 4 = .ok (.getfield 311, 3) by decide +kernel) (by decide) (r0 := ("StyleCourtModel", xF13, 85)) rfl (by decide) rfl w_1155) ?_
  refine xA (ok_icge hC (show decode prog_14_method_49_code 7 = .ok (.if_icmp .ge 26, 3) by decide +kernel) (by decide)) ?_
  refine xA (ok_aload_n hC (show decode prog_14_method_49_code 10 = .ok (.aload_n 0, 1) by decide +kernel) rfl) ?_
  refine xA (ok_get hC (show decode prog_14_method_49_code 11 = .ok (.getfield 175, 3) by decide +kernel) (by decide) (r0 := ("StyleCourtModel", xF13, 85)) rfl (by decide) rfl w_1225) ?_
  refine xA (ok_iload_n hC (show decode prog_14_method_49_code 14 = .ok (.iload_n 3, 1) by decide +kernel) rfl) ?_
  refine xA (ok_aload_n hC (show decode prog_14_method_49_code 15 = .ok (.aload_n 0, 1) by decide +kernel) rfl) ?_
  refine xA (ok_aload_n hC (show decode prog_14_method_49_code 16 = .ok (.aload_n 0, 1) by decide +kernel) rfl) ?_
  refine xA (ok_get hC (show decode prog_14_method_49_code 17 = .ok (.getfield 103, 3) by decide +kernel) (by decide) (r0 := ("StyleCourtModel", xF13, 85)) rfl (by decide) rfl w_1198) ?_
  refine xA (ok_iload_n hC (show decode prog_14_method_49_code 20 = .ok (.iload_n 1, 1) by decide +kernel) rfl) ?_
  refine xA (ok_iald hC (show decode prog_14_method_49_code 21 = .ok (.iaload, 1) by decide +kernel) (by decide) rfl) ?_
  refine xA (ok_iload_n hC (show decode prog_14_method_49_code 22 = .ok (.iload_n 3, 1) by decide +kernel) rfl) ?_
  refine xA (ok_callV hC hnh (show decode prog_14_method_49_code 23 = .ok (.invokevirtual 407, 3) by decide +kernel) (by decide) (by decide) (by decide) (r0 := ("StyleCourtModel", xF13, 85)) rfl ⟨by decide, by decide, by decide +kernel⟩ w_1601 w_83 w_1598 w_1600 w_62) ?_
  refine xA (ok_zast hC (show decode prog_14_method_49_code 26 = .ok (.bastore, 1) by decide +kernel) (by decide) rfl) ?_
  refine xA (ok_iinc hC (show decode prog_14_method_49_code 27 = .ok (.iinc 3 1, 3) by decide +kernel) (by decide) (by decide)) ?_
  refine xA (ok_goto hC (show decode prog_14_method_49_code 30 = .ok (.goto (-28), 3) by decide +kernel) (by decide)) ?_
  refine xA (ok_iconst hC (show decode prog_14_method_49_code 33 = .ok (.iconst 1, 1) by decide +kernel) (by decide)) ?_
  refine xA (ok_istore_n hC (show decode prog_14_method_49_code 34 = .ok (.istore_n 3, 1) by decide +kernel) rfl (by decide)) ?_
  refine xA (ok_iload_n hC (show decode prog_14_method_49_code 35 = .ok (.iload_n 3, 1) by decide +kernel) rfl) ?_
  refine xA (ok_aload_n hC (show decode prog_14_method_49_code 36 = .ok (.aload_n 0, 1) by decide +kernel) rfl) ?_
  refine xA (ok_get hC (show decode prog_14_method_49_code 37 = .ok (.getfield 106, 3) by decide +kernel) (by decide) (r0 := ("StyleCourtModel", xF13, 85)) rfl (by decide) rfl w_1199) ?_
  refine xA (ok_iload_n hC (show decode prog_14_method_49_code 40 = .ok (.iload_n 1, 1) by decide +kernel) rfl) ?_
  refine xA (ok_iald hC (show decode prog_14_method_49_code 41 = .ok (.iaload, 1) by decide +kernel) (by decide) rfl) ?_
  refine xA (ok_icge hC (show decode prog_14_method_49_code 42 = .ok (.if_icmp .ge 234, 3) by decide +kernel) (by decide)) ?_
  refine xA (ok_aload_n hC (show decode prog_14_method_49_code 45 = .ok (.aload_n 0, 1) by decide +kernel) rfl) ?_
  refine xA (ok_get hC (show decode prog_14_method_49_code 46 = .ok (.getfield 103, 3) by decide +kernel) (by decide) (r0 := ("StyleCourtModel", xF13, 85)) rfl (by decide) rfl w_1198) ?_
  refine xA (ok_iload_n hC (show decode prog_14_method_49_code 49 = .ok (.iload_n 1, 1) by decide +kernel) rfl) ?_
  refine xA (ok_iald hC (show decode prog_14_method_49_code 50 = .ok (.iaload, 1) by decide +kernel) (by decide) rfl) ?_
  refine xA (ok_iload_n hC (show decode prog_14_method_49_code 51 = .ok (.iload_n 3, 1) by decide +kernel) rfl) ?_
  refine xA (ok_iadd hC (show decode prog_14_method_49_code 52 = .ok (.iadd, 1) by decide +kernel)) ?_
  refine xA (ok_istore hC (show decode prog_14_method_49_code 53 = .ok (.istore 4, 2) by decide +kernel) (by decide)) ?_
  refine xA (ok_iconst hC (show decode prog_14_method_49_code 55 = .ok (.iconst 0, 1) by decide +kernel) (by decide)) ?_
  refine xA (ok_istore hC (show decode prog_14_method_49_code 56 = .ok (.istore 5, 2) by decide +kernel) (by decide)) ?_
  refine xA (ok_iload hC (show decode prog_14_method_49_code 58 = .ok (.iload 5, 2) by decide +kernel)) ?_
  refine xA (ok_aload_n hC (show decode prog_14_method_49_code 60 = .ok (.aload_n 0, 1) by decide +kernel) rfl) ?_
  refine xA (ok_get hC (show decode prog_14_method_49_code 61 = .ok (.getfield 311, 3) by decide +kernel) (by decide) (r0 := ("StyleCourtModel", xF13, 85)) rfl (by decide) rfl w_1155) ?_
  refine xA (ok_icge hC (show decode prog_14_method_49_code 64 = .ok (.if_icmp .ge 23, 3) by decide +kernel) (by decide)) ?_
  refine xA (ok_aload_n hC (show decode prog_14_method_49_code 67 = .ok (.aload_n 0, 1) by decide +kernel) rfl) ?_
  refine xA (ok_get hC (show decode prog_14_method_49_code 68 = .ok (.getfield 178, 3) by decide +kernel) (by decide) (r0 := ("StyleCourtModel", xF13, 85)) rfl (by decide) rfl w_1226) ?_
  refine xA (ok_iload hC (show decode prog_14_method_49_code 71 = .ok (.iload 5, 2) by decide +kernel)) ?_
  refine xA (ok_aload_n hC (show decode prog_14_method_49_code 73 = .ok (.aload_n 0, 1) by decide +kernel) rfl) ?_
  refine xA (ok_get hC (show decode prog_14_method_49_code 74 = .ok (.getfield 175, 3) by decide +kernel) (by decide) (r0 := ("StyleCourtModel", xF13, 85)) rfl (by decide) rfl w_1225) ?_
  refine xA (ok_iload hC (show decode prog_14_method_49_code 77 = .ok (.iload 5, 2) by decide +kernel)) ?_
  refine xA (ok_zald hC (show decode prog_14_method_49_code 79 = .ok (.baload, 1) by decide +kernel) (by decide) rfl) ?_
  refine xA (ok_zast hC (show decode prog_14_method_49_code 80 = .ok (.bastore, 1) by decide +kernel) (by decide) rfl) ?_
  refine xA (ok_iinc hC (show decode prog_14_method_49_code 81 = .ok (.iinc 5 1, 3) by decide +kernel) (by decide) (by decide)) ?_
  refine xA (ok_goto hC (show decode prog_14_method_49_code 84 = .ok (.goto (-26), 3) by decide +kernel) (by decide)) ?_
  refine xA (ok_iconst hC (show decode prog_14_method_49_code 87 = .ok (.iconst 0, 1) by decide +kernel) (by decide)) ?_
  refine xA (ok_istore hC (show decode prog_14_method_49_code 88 = .ok (.istore 5, 2) by decide +kernel) (by decide)) ?_
  refine xA (ok_iload hC (show decode prog_14_method_49_code 90 = .ok (.iload 5, 2) by decide +kernel)) ?_
  refine xA (ok_aload_n hC (show decode prog_14_method_49_code 92 = .ok (.aload_n 0, 1) by decide +kernel) rfl) ?_
  refine xA (ok_get hC (show decode prog_14_method_49_code 93 = .ok (.getfield 311, 3) by decide +kernel) (by decide) (r0 := ("StyleCourtModel", xF13, 85)) rfl (by decide) rfl w_1155) ?_
  refine xA (ok_icge hC (show decode prog_14_method_49_code 96 = .ok (.if_icmp .ge 174, 3) by decide +kernel) (by decide)) ?_
  refine xA (ok_iconst hC (show decode prog_14_method_49_code 99 = .ok (.iconst 0, 1) by decide +kernel) (by decide)) ?_
  refine xA (ok_istore hC (show decode prog_14_method_49_code 100 = .ok (.istore 6, 2) by decide +kernel) (by decide)) ?_
  refine xA (ok_aload_n hC (show decode prog_14_method_49_code 102 = .ok (.aload_n 0, 1) by decide +kernel) rfl) ?_
  refine xA (ok_get hC (show decode prog_14_method_49_code 103 = .ok (.getfield 121, 3) by decide +kernel) (by decide) (r0 := ("StyleCourtModel", xF13, 85)) rfl (by decide) rfl w_1204) ?_
  refine xA (ok_iload hC (show decode prog_14_method_49_code 106 = .ok (.iload 4, 2) by decide +kernel)) ?_
  refine xA (ok_iald hC (show decode prog_14_method_49_code 108 = .ok (.iaload, 1) by decide +kernel) (by decide) rfl) ?_
  refine xA (ok_bipush hC (show decode prog_14_method_49_code 109 = .ok (.bipush 62, 2) by decide +kernel) (by decide)) ?_
  refine xA (ok_icne hC (show decode prog_14_method_49_code 111 = .ok (.if_icmp .ne 38, 3) by decide +kernel) (by decide)) ?_
  refine xA (ok_aload_n hC (show decode prog_14_method_49_code 114 = .ok (.aload_n 0, 1) by decide +kernel) rfl) ?_
  refine xA (ok_get hC (show decode prog_14_method_49_code 115 = .ok (.getfield 30, 3) by decide +kernel) (by decide) (r0 := ("StyleCourtModel", xF13, 85)) rfl (by decide) rfl w_1159) ?_
  refine xA (ok_iload hC (show decode prog_14_method_49_code 118 = .ok (.iload 5, 2) by decide +kernel)) ?_
  refine xA (ok_iald hC (show decode prog_14_method_49_code 120 = .ok (.iaload, 1) by decide +kernel) (by decide) rfl) ?_
  refine xA (ok_iflt hC (show decode prog_14_method_49_code 121 = .ok (.ifCond .lt 22, 3) by decide +kernel) (by decide)) ?_
  refine xA (ok_aload_n hC (show decode prog_14_method_49_code 124 = .ok (.aload_n 0, 1) by decide +kernel) rfl) ?_
  refine xA (ok_get hC (show decode prog_14_method_49_code 125 = .ok (.getfield 178, 3) by decide +kernel) (by decide) (r0 := ("StyleCourtModel", xF13, 85)) rfl (by decide) rfl w_1226) ?_
  refine xA (ok_aload_n hC (show decode prog_14_method_49_code 128 = .ok (.aload_n 0, 1) by decide +kernel) rfl) ?_
  refine xA (ok_get hC (show decode prog_14_method_49_code 129 = .ok (.getfield 30, 3) by decide +kernel) (by decide) (r0 := ("StyleCourtModel", xF13, 85)) rfl (by decide) rfl w_1159) ?_
  refine xA (ok_iload hC (show decode prog_14_method_49_code 132 = .ok (.iload 5, 2) by decide +kernel)) ?_
  refine xA (ok_iald hC (show decode prog_14_method_49_code 134 = .ok (.iaload, 1) by decide +kernel) (by decide) rfl) ?_
  refine xA (ok_zald hC (show decode prog_14_method_49_code 135 = .ok (.baload, 1) by decide +kernel) (by decide) rfl) ?_
  refine xA (ok_ifeq hC (show decode prog_14_method_49_code 136 = .ok (.ifCond .eq 7, 3) by decide +kernel) (by decide)) ?_
  refine xA (ok_iconst hC (show decode prog_14_method_49_code 139 = .ok (.iconst 1, 1) by decide +kernel) (by decide)) ?_
  refine xA (ok_goto hC (show decode prog_14_method_49_code 140 = .ok (.goto 4, 3) by decide +kernel) (by decide)) ?_
  refine xA (ok_iconst hC (show decode prog_14_method_49_code 143 = .ok (.iconst 0, 1) by decide +kernel) (by decide)) ?_
  refine xA (ok_istore hC (show decode prog_14_method_49_code 144 = .ok (.istore 6, 2) by decide +kernel) (by decide)) ?_
  refine xA (ok_goto hC (show decode prog_14_method_49_code 146 = .ok (.goto 90, 3) by decide +kernel) (by decide)) ?_
  refine xA (ok_aload_n hC (show decode prog_14_method_49_code 149 = .ok (.aload_n 0, 1) by decide +kernel) rfl) ?_
  refine xA (ok_get hC (show decode prog_14_method_49_code 150 = .ok (.getfield 121, 3) by decide +kernel) (by decide) (r0 := ("StyleCourtModel", xF13, 85)) rfl (by decide) rfl w_1204) ?_
  refine xA (ok_iload hC (show decode prog_14_method_49_code 153 = .ok (.iload 4, 2) by decide +kernel)) ?_
  refine xA (ok_iald hC (show decode prog_14_method_49_code 155 = .ok (.iaload, 1) by decide +kernel) (by decide) rfl) ?_
  refine xA (ok_bipush hC (show decode prog_14_method_49_code 156 = .ok (.bipush 43, 2) by decide +kernel) (by decide)) ?_
  refine xA (ok_icne hC (show decode prog_14_method_49_code 158 = .ok (.if_icmp .ne 38, 3) by decide +kernel) (by decide)) ?_
  refine xA (ok_aload_n hC (show decode prog_14_method_49_code 161 = .ok (.aload_n 0, 1) by decide +kernel) rfl) ?_
  refine xA (ok_get hC (show decode prog_14_method_49_code 162 = .ok (.getfield 33, 3) by decide +kernel) (by decide) (r0 := ("StyleCourtModel", xF13, 85)) rfl (by decide) rfl w_1160) ?_
  refine xA (ok_iload hC (show decode prog_14_method_49_code 165 = .ok (.iload 5, 2) by decide +kernel)) ?_
  refine xA (ok_iald hC (show decode prog_14_method_49_code 167 = .ok (.iaload, 1) by decide +kernel) (by decide) rfl) ?_
  refine xA (ok_iflt hC (show decode prog_14_method_49_code 168 = .ok (.ifCond .lt 22, 3) by decide +kernel) (by decide)) ?_
  refine xA (ok_aload_n hC (show decode prog_14_method_49_code 171 = .ok (.aload_n 0, 1) by decide +kernel) rfl) ?_
  refine xA (ok_get hC (show decode prog_14_method_49_code 172 = .ok (.getfield 178, 3) by decide +kernel) (by decide) (r0 := ("StyleCourtModel", xF13, 85)) rfl (by decide) rfl w_1226) ?_
  refine xA (ok_aload_n hC (show decode prog_14_method_49_code 175 = .ok (.aload_n 0, 1) by decide +kernel) rfl) ?_
  refine xA (ok_get hC (show decode prog_14_method_49_code 176 = .ok (.getfield 33, 3) by decide +kernel) (by decide) (r0 := ("StyleCourtModel", xF13, 85)) rfl (by decide) rfl w_1160) ?_
  refine xA (ok_iload hC (show decode prog_14_method_49_code 179 = .ok (.iload 5, 2) by decide +kernel)) ?_
  refine xA (ok_iald hC (show decode prog_14_method_49_code 181 = .ok (.iaload, 1) by decide +kernel) (by decide) rfl) ?_
  refine xA (ok_zald hC (show decode prog_14_method_49_code 182 = .ok (.baload, 1) by decide +kernel) (by decide) rfl) ?_
  refine xA (ok_ifeq hC (show decode prog_14_method_49_code 183 = .ok (.ifCond .eq 7, 3) by decide +kernel) (by decide)) ?_
  refine xA (ok_iconst hC (show decode prog_14_method_49_code 186 = .ok (.iconst 1, 1) by decide +kernel) (by decide)) ?_
  refine xA (ok_goto hC (show decode prog_14_method_49_code 187 = .ok (.goto 4, 3) by decide +kernel) (by decide)) ?_
  refine xA (ok_iconst hC (show decode prog_14_method_49_code 190 = .ok (.iconst 0, 1) by decide +kernel) (by decide)) ?_
  refine xA (ok_istore hC (show decode prog_14_method_49_code 191 = .ok (.istore 6, 2) by decide +kernel) (by decide)) ?_
  refine xA (ok_goto hC (show decode prog_14_method_49_code 193 = .ok (.goto 43, 3) by decide +kernel) (by decide)) ?_
  refine xA (ok_aload_n hC (show decode prog_14_method_49_code 196 = .ok (.aload_n 0, 1) by decide +kernel) rfl) ?_
  refine xA (ok_get hC (show decode prog_14_method_49_code 197 = .ok (.getfield 30, 3) by decide +kernel) (by decide) (r0 := ("StyleCourtModel", xF13, 85)) rfl (by decide) rfl w_1159) ?_
  refine xA (ok_iload hC (show decode prog_14_method_49_code 200 = .ok (.iload 5, 2) by decide +kernel)) ?_
  refine xA (ok_iald hC (show decode prog_14_method_49_code 202 = .ok (.iaload, 1) by decide +kernel) (by decide) rfl) ?_
  refine xA (ok_istore hC (show decode prog_14_method_49_code 203 = .ok (.istore 7, 2) by decide +kernel) (by decide)) ?_
  refine xA (ok_iload hC (show decode prog_14_method_49_code 205 = .ok (.iload 7, 2) by decide +kernel)) ?_
  refine xA (ok_iflt hC (show decode prog_14_method_49_code 207 = .ok (.ifCond .lt 29, 3) by decide +kernel) (by decide)) ?_
  refine xA (ok_iload hC (show decode prog_14_method_49_code 210 = .ok (.iload 6, 2) by decide +kernel)) ?_
  refine xA (ok_ifne hC (show decode prog_14_method_49_code 212 = .ok (.ifCond .ne 24, 3) by decide +kernel) (by decide)) ?_
  refine xA (ok_aload_n hC (show decode prog_14_method_49_code 215 = .ok (.aload_n 0, 1) by decide +kernel) rfl) ?_
  refine xA (ok_get hC (show decode prog_14_method_49_code 216 = .ok (.getfield 178, 3) by decide +kernel) (by decide) (r0 := ("StyleCourtModel", xF13, 85)) rfl (by decide) rfl w_1226) ?_
  refine xA (ok_iload hC (show decode prog_14_method_49_code 219 = .ok (.iload 7, 2) by decide +kernel)) ?_
  refine xA (ok_zald hC (show decode prog_14_method_49_code 221 = .ok (.baload, 1) by decide +kernel) (by decide) rfl) ?_
  refine xA (ok_istore hC (show decode prog_14_method_49_code 222 = .ok (.istore 6, 2) by decide +kernel) (by decide)) ?_
  refine xA (ok_aload_n hC (show decode prog_14_method_49_code 224 = .ok (.aload_n 0, 1) by decide +kernel) rfl) ?_
  refine xA (ok_get hC (show decode prog_14_method_49_code 225 = .ok (.getfield 30, 3) by decide +kernel) (by decide) (r0 := ("StyleCourtModel", xF13, 85)) rfl (by decide) rfl w_1159) ?_
  refine xA (ok_iload hC (show decode prog_14_method_49_code 228 = .ok (.iload 7, 2) by decide +kernel)) ?_
  refine xA (ok_iald hC (show decode prog_14_method_49_code 230 = .ok (.iaload, 1) by decide +kernel) (by decide) rfl) ?_
  refine xA (ok_istore hC (show decode prog_14_method_49_code 231 = .ok (.istore 7, 2) by decide +kernel) (by decide)) ?_
  refine xA (ok_goto hC (show decode prog_14_method_49_code 233 = .ok (.goto (-28), 3) by decide +kernel) (by decide)) ?_
  refine xA (ok_aload_n hC (show decode prog_14_method_49_code 236 = .ok (.aload_n 0, 1) by decide +kernel) rfl) ?_
  refine xA (ok_get hC (show decode prog_14_method_49_code 237 = .ok (.getfield 175, 3) by decide +kernel) (by decide) (r0 := ("StyleCourtModel", xF13, 85)) rfl (by decide) rfl w_1225) ?_
  refine xA (ok_iload hC (show decode prog_14_method_49_code 240 = .ok (.iload 5, 2) by decide +kernel)) ?_
  refine xA (ok_iload hC (show decode prog_14_method_49_code 242 = .ok (.iload 6, 2) by decide +kernel)) ?_
  refine xA (ok_ifeq hC (show decode prog_14_method_49_code 244 = .ok (.ifCond .eq 18, 3) by decide +kernel) (by decide)) ?_
  refine xA (ok_aload_n hC (show decode prog_14_method_49_code 247 = .ok (.aload_n 0, 1) by decide +kernel) rfl) ?_
  refine xA (ok_iload hC (show decode prog_14_method_49_code 248 = .ok (.iload 4, 2) by decide +kernel)) ?_
  refine xA (ok_iload hC (show decode prog_14_method_49_code 250 = .ok (.iload 5, 2) by decide +kernel)) ?_
  refine xA (ok_callV hC hnh (show decode prog_14_method_49_code 252 = .ok (.invokevirtual 407, 3) by decide +kernel) (by decide) (by decide) (by decide) (r0 := ("StyleCourtModel", xF13, 85)) rfl ⟨by decide, by decide, by decide +kernel⟩ w_1601 w_83 w_1598 w_1600 w_62) ?_
  refine xA (ok_ifeq hC (show decode prog_14_method_49_code 255 = .ok (.ifCond .eq 7, 3) by decide +kernel) (by decide)) ?_
  refine xA (ok_iconst hC (show decode prog_14_method_49_code 258 = .ok (.iconst 1, 1) by decide +kernel) (by decide)) ?_
  refine xA (ok_goto hC (show decode prog_14_method_49_code 259 = .ok (.goto 4, 3) by decide +kernel) (by decide)) ?_
  refine xA (ok_iconst hC (show decode prog_14_method_49_code 262 = .ok (.iconst 0, 1) by decide +kernel) (by decide)) ?_
  refine xA (ok_zast hC (show decode prog_14_method_49_code 263 = .ok (.bastore, 1) by decide +kernel) (by decide) rfl) ?_
  refine xA (ok_iinc hC (show decode prog_14_method_49_code 264 = .ok (.iinc 5 1, 3) by decide +kernel) (by decide) (by decide)) ?_
  refine xA (ok_goto hC (show decode prog_14_method_49_code 267 = .ok (.goto (-177), 3) by decide +kernel) (by decide)) ?_
  refine xA (ok_iinc hC (show decode prog_14_method_49_code 270 = .ok (.iinc 3 1, 3) by decide +kernel) (by decide) (by decide)) ?_
  refine xA (ok_goto hC (show decode prog_14_method_49_code 273 = .ok (.goto (-238), 3) by decide +kernel) (by decide)) ?_
  refine xA (ok_aload_n hC (show decode prog_14_method_49_code 276 = .ok (.aload_n 0, 1) by decide +kernel) rfl) ?_
  refine xA (ok_get hC (show decode prog_14_method_49_code 277 = .ok (.getfield 175, 3) by decide +kernel) (by decide) (r0 := ("StyleCourtModel", xF13, 85)) rfl (by decide) rfl w_1225) ?_
  refine xA (ok_iload_n hC (show decode prog_14_method_49_code 280 = .ok (.iload_n 2, 1) by decide +kernel) rfl) ?_
  refine xA (ok_zald hC (show decode prog_14_method_49_code 281 = .ok (.baload, 1) by decide +kernel) (by decide) rfl) ?_
  refine xA (ok_zret hC hr (show decode prog_14_method_49_code 282 = .ok (.ireturn, 1) by decide +kernel)) ?_
  exact trivial
