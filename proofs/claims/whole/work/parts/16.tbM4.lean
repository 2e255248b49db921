def tb_Mo_stepFits (X : xX) : List (Nat × xOp) := [(0, o_ald 0 1),
  (1, o_get 13 58 4),
  (4, o_ild 1 5),
  (5, o_ld 0 6),
  (6, o_ifle 42 9),
  (9, o_ald 0 10),
  (10, o_ald 0 11),
  (11, o_get 13 12 14),
  (14, o_ild 2 15),
  (15, o_ld 0 16),
  (16, o_ald 0 17),
  (17, o_get 13 13 20),
  (20, o_ild 2 21),
  (21, o_ld 0 22),
  (22, o_ald 0 23),
  (23, o_get 13 57 26),
  (26, o_ild 1 27),
  (27, o_ld 0 28),
  (28, o_ald 0 29),
  (29, o_get 13 58 32),
  (32, o_ild 1 33),
  (33, o_ld 0 34),
  (34, o_callV X.l X.D X.P 13 0 5 y_Mo_same 37),
  (37, o_ifne 42 40),
  (40, o_ic 0 41),
  (41, o_zret .boolean X.P),
  (42, o_ic 0 43),
  (43, o_ist 3 44),
  (44, o_ild 3 45),
  (45, o_ald 0 46),
  (46, o_get 13 61 49),
  (49, o_ild 1 50),
  (50, o_ld 0 51),
  (51, o_icge 78 54),
  (54, o_ald 0 55),
  (55, o_ald 0 56),
  (56, o_get 13 60 59),
  (59, o_ild 1 60),
  (60, o_ld 0 61),
  (61, o_ild 3 62),
  (62, o_iadd 63),
  (63, o_ild 2 64),
  (64, o_callV X.l X.D X.P 13 2 3 y_Mo_isSo 67),
  (67, o_ifne 72 70),
  (70, o_ic 0 71),
  (71, o_zret .boolean X.P),
  (72, o_inc 3 1 75),
  (75, o_goto 44),
  (78, o_ic 1 79),
  (79, o_zret .boolean X.P)]
theorem tk_Mo_stepFits {X : xX} (hC : xCx X prog_14_method_48_code "StyleCourtModel" 4 3) (hr : X.meth.sig.returnType = (some .boolean)) (hnh : X.c.exceptionTable.isEmpty = true) (hin : X.meth.name = "stepFits") : xAll X (tb_Mo_stepFits X) := by
  refine xA (ok_aload_n hC (show decode prog_14_method_48_code 0 = .ok (.aload_n 0, 1) by decide +kernel) rfl) ?_
  refine xA (ok_get hC (show decode prog_14_method_48_code 1 = .ok (.getfield 118, 3) by decide +kernel) (by decide) (r0 := ("StyleCourtModel", xF13, 85)) rfl (by decide) rfl w_1203) ?_
  refine xA (ok_iload_n hC (show decode prog_14_method_48_code 4 = .ok (.iload_n 1, 1) by decide +kernel) rfl) ?_
  refine xA (ok_iald hC (show decode prog_14_method_48_code 5 = .ok (.iaload, 1) by decide +kernel) (by decide) rfl) ?_
  refine xA (ok_ifle hC (show decode prog_14_method_48_code 6 = .ok (.ifCond .le 36, 3) by decide +kernel) (by decide)) ?_
  refine xA (ok_aload_n hC (show decode prog_14_method_48_code 9 = .ok (.aload_n 0, 1) by decide +kernel) rfl) ?_
  refine xA (ok_aload_n hC (show decode prog_14_method_48_code 10 = .ok (.aload_n 0, 1) by decide +kernel) rfl) ?_
  refine xA (ok_get hC (show decode prog_14_method_48_code 11 = .ok (.getfield 24, 3) by decide +kernel) (by decide) (r0 := ("StyleCourtModel", xF13, 85)) rfl (by decide) rfl w_1157) ?_
  refine xA (ok_iload_n hC (show decode prog_14_method_48_code 14 = .ok (.iload_n 2, 1) by decide +kernel) rfl) ?_
  refine xA (ok_iald hC (show decode prog_14_method_48_code 15 = .ok (.iaload, 1) by decide +kernel) (by decide) rfl) ?_
  refine xA (ok_aload_n hC (show decode prog_14_method_48_code 16 = .ok (.aload_n 0, 1) by decide +kernel) rfl) ?_
  refine xA (ok_get hC (show decode prog_14_method_48_code 17 = .ok (.getfield 27, 3) by decide +kernel) (by decide) (r0 := ("StyleCourtModel", xF13, 85)) rfl (by decide) rfl w_1158) ?_
  refine xA (ok_iload_n hC (show decode prog_14_method_48_code 20 = .ok (.iload_n 2, 1) by decide +kernel) rfl) ?_
  refine xA (ok_iald hC (show decode prog_14_method_48_code 21 = .ok (.iaload, 1) by decide +kernel) (by decide) rfl) ?_
  refine xA (ok_aload_n hC (show decode prog_14_method_48_code 22 = .ok (.aload_n 0, 1) by decide +kernel) rfl) ?_
  refine xA (ok_get hC (show decode prog_14_method_48_code 23 = .ok (.getfield 115, 3) by decide +kernel) (by decide) (r0 := ("StyleCourtModel", xF13, 85)) rfl (by decide) rfl w_1202) ?_
  refine xA (ok_iload_n hC (show decode prog_14_method_48_code 26 = .ok (.iload_n 1, 1) by decide +kernel) rfl) ?_
  refine xA (ok_iald hC (show decode prog_14_method_48_code 27 = .ok (.iaload, 1) by decide +kernel) (by decide) rfl) ?_
  refine xA (ok_aload_n hC (show decode prog_14_method_48_code 28 = .ok (.aload_n 0, 1) by decide +kernel) rfl) ?_
  refine xA (ok_get hC (show decode prog_14_method_48_code 29 = .ok (.getfield 118, 3) by decide +kernel) (by decide) (r0 := ("StyleCourtModel", xF13, 85)) rfl (by decide) rfl w_1203) ?_
  refine xA (ok_iload_n hC (show decode prog_14_method_48_code 32 = .ok (.iload_n 1, 1) by decide +kernel) rfl) ?_
  refine xA (ok_iald hC (show decode prog_14_method_48_code 33 = .ok (.iaload, 1) by decide +kernel) (by decide) rfl) ?_
  refine xA (ok_callV hC hnh (show decode prog_14_method_48_code 34 = .ok (.invokevirtual 239, 3) by decide +kernel) (by decide) (by decide) (by decide) (r0 := ("StyleCourtModel", xF13, 85)) rfl ⟨by decide, by decide, by decide +kernel⟩ w_1462 w_83 w_1459 w_1461 w_33) ?_
  refine xA (ok_ifne hC (show decode prog_14_method_48_code 37 = .ok (.ifCond .ne 5, 3) by decide +kernel) (by decide)) ?_
  refine xA (ok_iconst hC (show decode prog_14_method_48_code 40 = .ok (.iconst 0, 1) by decide +kernel) (by decide)) ?_
  refine xA (ok_zret hC hr (show decode prog_14_method_48_code 41 = .ok (.ireturn, 1) by decide +kernel)) ?_
  refine xA (ok_iconst hC (show decode prog_14_method_48_code 42 = .ok (.iconst 0, 1) by decide +kernel) (by decide)) ?_
  refine xA (ok_istore_n hC (show decode prog_14_method_48_code 43 = .ok (.istore_n 3, 1) by decide +kernel) rfl (by decide)) ?_
  refine xA (ok_iload_n hC (show decode prog_14_method_48_code 44 = .ok (.iload_n 3, 1) by decide +kernel) rfl) ?_
  refine xA (ok_aload_n hC (show decode prog_14_method_48_code 45 = .ok (.aload_n 0, 1) by decide +kernel) rfl) ?_
  refine xA (ok_get hC (show decode prog_14_method_48_code 46 = .ok (.getfield 127, 3) by decide +kernel) (by decide) (r0 := ("StyleCourtModel", xF13, 85)) rfl (by decide) rfl w_1206) ?_
  refine xA (ok_iload_n hC (show decode prog_14_method_48_code 49 = .ok (.iload_n 1, 1) by decide +kernel) rfl) ?_
  refine xA (ok_iald hC (show decode prog_14_method_48_code 50 = .ok (.iaload, 1) by decide +kernel) (by decide) rfl) ?_
  refine xA (ok_icge hC (show decode prog_14_method_48_code 51 = .ok (.if_icmp .ge 27, 3) by decide +kernel) (by decide)) ?_
  refine xA (ok_aload_n hC (show decode prog_14_method_48_code 54 = .ok (.aload_n 0, 1) by decide +kernel) rfl) ?_
  refine xA (ok_aload_n hC (show decode prog_14_method_48_code 55 = .ok (.aload_n 0, 1) by decide +kernel) rfl) ?_
  refine xA (ok_get hC (show decode prog_14_method_48_code 56 = .ok (.getfield 124, 3) by decide +kernel) (by decide) (r0 := ("StyleCourtModel", xF13, 85)) rfl (by decide) rfl w_1205) ?_
  refine xA (ok_iload_n hC (show decode prog_14_method_48_code 59 = .ok (.iload_n 1, 1) by decide +kernel) rfl) ?_
  refine xA (ok_iald hC (show decode prog_14_method_48_code 60 = .ok (.iaload, 1) by decide +kernel) (by decide) rfl) ?_
  refine xA (ok_iload_n hC (show decode prog_14_method_48_code 61 = .ok (.iload_n 3, 1) by decide +kernel) rfl) ?_
  refine xA (ok_iadd hC (show decode prog_14_method_48_code 62 = .ok (.iadd, 1) by decide +kernel)) ?_
  refine xA (ok_iload_n hC (show decode prog_14_method_48_code 63 = .ok (.iload_n 2, 1) by decide +kernel) rfl) ?_
  refine xA (ok_callV hC hnh (show decode prog_14_method_48_code 64 = .ok (.invokevirtual 404, 3) by decide +kernel) (by decide) (by decide) (by decide) (r0 := ("StyleCourtModel", xF13, 85)) rfl ⟨by decide, by decide, by decide +kernel⟩ w_1605 w_83 w_1602 w_1604 w_63) ?_
  refine xA (ok_ifne hC (show decode prog_14_method_48_code 67 = .ok (.ifCond .ne 5, 3) by decide +kernel) (by decide)) ?_
  refine xA (ok_iconst hC (show decode prog_14_method_48_code 70 = .ok (.iconst 0, 1) by decide +kernel) (by decide)) ?_
  refine xA (ok_zret hC hr (show decode prog_14_method_48_code 71 = .ok (.ireturn, 1) by decide +kernel)) ?_
  refine xA (ok_iinc hC (show decode prog_14_method_48_code 72 = .ok (.iinc 3 1, 3) by decide +kernel) (by decide) (by decide)) ?_
  refine xA (ok_goto hC (show decode prog_14_method_48_code 75 = .ok (.goto (-31), 3) by decide +kernel) (by decide)) ?_
  refine xA (ok_iconst hC (show decode prog_14_method_48_code 78 = .ok (.iconst 1, 1) by decide +kernel) (by decide)) ?_
  refine xA (ok_zret hC hr (show decode prog_14_method_48_code 79 = .ok (.ireturn, 1) by decide +kernel)) ?_
  exact trivial

def tb_Mo_isSo (X : xX) : List (Nat × xOp) := [(0, o_ald 0 1),
  (1, o_get 13 62 4),
  (4, o_ild 1 5),
  (5, o_ld 0 6),
  (6, o_ist 3 7),
  (7, o_ild 3 8),
  (8, o_ic 3 9),
  (9, o_icge 80 12),
  (12, o_ald 0 13),
  (13, o_ild 2 14),
  (14, o_ald 0 15),
  (15, o_get 13 63 18),
  (18, o_ild 1 19),
  (19, o_ld 0 20),
  (20, o_ald 0 21),
  (21, o_get 13 64 24),
  (24, o_ild 1 25),
  (25, o_ld 0 26),
  (26, o_callV X.l X.D X.P 13 1 4 y_Mo_fieldOf 29),
  (29, o_ist 4 31),
  (31, o_ild 4 33),
  (33, o_iflt 78 36),
  (36, o_ild 3 37),
  (37, o_ic 1 38),
  (38, o_iceq 74 41),
  (41, o_ald 0 42),
  (42, o_ald 0 43),
  (43, o_get 13 28 46),
  (46, o_ild 4 48),
  (48, o_ld 0 49),
  (49, o_ald 0 50),
  (50, o_get 13 29 53),
  (53, o_ild 4 55),
  (55, o_ld 0 56),
  (56, o_ald 0 57),
  (57, o_get 13 65 60),
  (60, o_ild 1 61),
  (61, o_ld 0 62),
  (62, o_ald 0 63),
  (63, o_get 13 66 66),
  (66, o_ild 1 67),
  (67, o_ld 0 68),
  (68, o_callV X.l X.D X.P 13 0 5 y_Mo_same 71),
  (71, o_ifeq 78 74),
  (74, o_ic 1 75),
  (75, o_goto 79),
  (78, o_ic 0 79),
  (79, o_zret .boolean X.P),
  (80, o_ild 3 81),
  (81, o_ic 3 82),
  (82, o_icne 101 85),
  (85, o_ald 0 86),
  (86, o_get 13 17 89),
  (89, o_ild 2 90),
  (90, o_ld 0 91),
  (91, o_ic 1 92),
  (92, o_icne 99 95),
  (95, o_ic 1 96),
  (96, o_goto 100),
  (99, o_ic 0 100),
  (100, o_zret .boolean X.P),
  (101, o_ild 3 102),
  (102, o_ic 4 103),
  (103, o_icne 126 106),
  (106, o_ald 0 107),
  (107, o_get 13 17 110),
  (110, o_ild 2 111),
  (111, o_ld 0 112),
  (112, o_ald 0 113),
  (113, o_ild 2 114),
  (114, o_callV X.l X.D X.P 13 0 2 y_Mo_among 117),
  (117, o_icne 124 120),
  (120, o_ic 1 121),
  (121, o_goto 125),
  (124, o_ic 0 125),
  (125, o_zret .boolean X.P),
  (126, o_ild 3 127),
  (127, o_ic 5 128),
  (128, o_icne 138 131),
  (131, o_ald 0 132),
  (132, o_get 13 25 135),
  (135, o_ild 2 136),
  (136, o_ld 3 137),
  (137, o_zret .boolean X.P),
  (138, o_ild 3 139),
  (139, o_ic 6 141),
  (141, o_icne 165 144),
  (144, o_ald 0 145),
  (145, o_get 13 17 148),
  (148, o_ild 2 149),
  (149, o_ld 0 150),
  (150, o_ald 0 151),
  (151, o_get 13 67 154),
  (154, o_ild 1 155),
  (155, o_ld 0 156),
  (156, o_icne 163 159),
  (159, o_ic 1 160),
  (160, o_goto 164),
  (163, o_ic 0 164),
  (164, o_zret .boolean X.P),
  (165, o_ald 0 166),
  (166, o_ald 0 167),
  (167, o_get 13 12 170),
  (170, o_ild 2 171),
  (171, o_ld 0 172),
  (172, o_ald 0 173),
  (173, o_get 13 13 176),
  (176, o_ild 2 177),
  (177, o_ld 0 178),
  (178, o_ald 0 179),
  (179, o_get 13 63 182),
  (182, o_ild 1 183),
  (183, o_ld 0 184),
  (184, o_ald 0 185),
  (185, o_get 13 64 188),
  (188, o_ild 1 189),
  (189, o_ld 0 190),
  (190, o_callV X.l X.D X.P 13 0 5 y_Mo_same 193),
  (193, o_ifne 200 196),
  (196, o_ic 1 197),
  (197, o_goto 201),
  (200, o_ic 0 201),
  (201, o_zret .boolean X.P)]
theorem tk_Mo_isSo {X : xX} (hC : xCx X prog_14_method_47_code "StyleCourtModel" 5 2) (hr : X.meth.sig.returnType = (some .boolean)) (hnh : X.c.exceptionTable.isEmpty = true) (hin : X.meth.name = "isSo") : xAll X (tb_Mo_isSo X) := by
  refine xA (ok_aload_n hC (show decode prog_14_method_47_code 0 = .ok (.aload_n 0, 1) by decide +kernel) rfl) ?_
  refine xA (ok_get hC (show decode prog_14_method_47_code 1 = .ok (.getfield 130, 3) by decide +kernel) (by decide) (r0 := ("StyleCourtModel", xF13, 85)) rfl (by decide) rfl w_1207) ?_
  refine xA (ok_iload_n hC (show decode prog_14_method_47_code 4 = .ok (.iload_n 1, 1) by decide +kernel) rfl) ?_
  refine xA (ok_iald hC (show decode prog_14_method_47_code 5 = .ok (.iaload, 1) by decide +kernel) (by decide) rfl) ?_
  refine xA (ok_istore_n hC (show decode prog_14_method_47_code 6 = .ok (.istore_n 3, 1) by decide +kernel) rfl (by decide)) ?_
  refine xA (ok_iload_n hC (show decode prog_14_method_47_code 7 = .ok (.iload_n 3, 1) by decide +kernel) rfl) ?_
  refine xA (ok_iconst hC (show decode prog_14_method_47_code 8 = .ok (.iconst 3, 1) by decide +kernel) (by decide)) ?_
  refine xA (ok_icge hC (show decode prog_14_method_47_code 9 = .ok (.if_icmp .ge 71, 3) by decide +kernel) (by decide)) ?_
  refine xA (ok_aload_n hC (show decode prog_14_method_47_code 12 = .ok (.aload_n 0, 1) by decide +kernel) rfl) ?_
  refine xA (ok_iload_n hC (show decode prog_14_method_47_code 13 = .ok (.iload_n 2, 1) by decide +kernel) rfl) ?_
  refine xA (ok_aload_n hC (show decode prog_14_method_47_code 14 = .ok (.aload_n 0, 1) by decide +kernel) rfl) ?_
  refine xA (ok_get hC (show decode prog_14_method_47_code 15 = .ok (.getfield 133, 3) by decide +kernel) (by decide) (r0 := ("StyleCourtModel", xF13, 85)) rfl (by decide) rfl w_1208) ?_
  refine xA (ok_iload_n hC (show decode prog_14_method_47_code 18 = .ok (.iload_n 1, 1) by decide +kernel) rfl) ?_
  refine xA (ok_iald hC (show decode prog_14_method_47_code 19 = .ok (.iaload, 1) by decide +kernel) (by decide) rfl) ?_
  refine xA (ok_aload_n hC (show decode prog_14_method_47_code 20 = .ok (.aload_n 0, 1) by decide +kernel) rfl) ?_
  refine xA (ok_get hC (show decode prog_14_method_47_code 21 = .ok (.getfield 136, 3) by decide +kernel) (by decide) (r0 := ("StyleCourtModel", xF13, 85)) rfl (by decide) rfl w_1209) ?_
  refine xA (ok_iload_n hC (show decode prog_14_method_47_code 24 = .ok (.iload_n 1, 1) by decide +kernel) rfl) ?_
  refine xA (ok_iald hC (show decode prog_14_method_47_code 25 = .ok (.iaload, 1) by decide +kernel) (by decide) rfl) ?_
  refine xA (ok_callV hC hnh (show decode prog_14_method_47_code 26 = .ok (.invokevirtual 397, 3) by decide +kernel) (by decide) (by decide) (by decide) (r0 := ("StyleCourtModel", xF13, 85)) rfl ⟨by decide, by decide, by decide +kernel⟩ w_1609 w_83 w_1606 w_1608 w_64) ?_
  refine xA (ok_istore hC (show decode prog_14_method_47_code 29 = .ok (.istore 4, 2) by decide +kernel) (by decide)) ?_
  refine xA (ok_iload hC (show decode prog_14_method_47_code 31 = .ok (.iload 4, 2) by decide +kernel)) ?_
  refine xA (ok_iflt hC (show decode prog_14_method_47_code 33 = .ok (.ifCond .lt 45, 3) by decide +kernel) (by decide)) ?_
  refine xA (ok_iload_n hC (show decode prog_14_method_47_code 36 = .ok (.iload_n 3, 1) by decide +kernel) rfl) ?_
  refine xA (ok_iconst hC (show decode prog_14_method_47_code 37 = .ok (.iconst 1, 1) by decide +kernel) (by decide)) ?_
  refine xA (ok_iceq hC (show decode prog_14_method_47_code 38 = .ok (.if_icmp .eq 36, 3) by decide +kernel) (by decide)) ?_
  refine xA (ok_aload_n hC (show decode prog_14_method_47_code 41 = .ok (.aload_n 0, 1) by decide +kernel) rfl) ?_
  refine xA (ok_aload_n hC (show decode prog_14_method_47_code 42 = .ok (.aload_n 0, 1) by decide +kernel) rfl) ?_
  refine xA (ok_get hC (show decode prog_14_method_47_code 43 = .ok (.getfield 73, 3) by decide +kernel) (by decide) (r0 := ("StyleCourtModel", xF13, 85)) rfl (by decide) rfl w_1173) ?_
  refine xA (ok_iload hC (show decode prog_14_method_47_code 46 = .ok (.iload 4, 2) by decide +kernel)) ?_
  refine xA (ok_iald hC (show decode prog_14_method_47_code 48 = .ok (.iaload, 1) by decide +kernel) (by decide) rfl) ?_
  refine xA (ok_aload_n hC (show decode prog_14_method_47_code 49 = .ok (.aload_n 0, 1) by decide +kernel) rfl) ?_
  refine xA (ok_get hC (show decode prog_14_method_47_code 50 = .ok (.getfield 76, 3) by decide +kernel) (by decide) (r0 := ("StyleCourtModel", xF13, 85)) rfl (by decide) rfl w_1174) ?_
  refine xA (ok_iload hC (show decode prog_14_method_47_code 53 = .ok (.iload 4, 2) by decide +kernel)) ?_
  refine xA (ok_iald hC (show decode prog_14_method_47_code 55 = .ok (.iaload, 1) by decide +kernel) (by decide) rfl) ?_
  refine xA (ok_aload_n hC (show decode prog_14_method_47_code 56 = .ok (.aload_n 0, 1) by decide +kernel) rfl) ?_
  refine xA (ok_get hC (show decode prog_14_method_47_code 57 = .ok (.getfield 139, 3) by decide +kernel) (by decide) (r0 := ("StyleCourtModel", xF13, 85)) rfl (by decide) rfl w_1210) ?_
  refine xA (ok_iload_n hC (show decode prog_14_method_47_code 60 = .ok (.iload_n 1, 1) by decide +kernel) rfl) ?_
  refine xA (ok_iald hC (show decode prog_14_method_47_code 61 = .ok (.iaload, 1) by decide +kernel) (by decide) rfl) ?_
  refine xA (ok_aload_n hC (show decode prog_14_method_47_code 62 = .ok (.aload_n 0, 1) by decide +kernel) rfl) ?_
  refine xA (ok_get hC (show decode prog_14_method_47_code 63 = .ok (.getfield 142, 3) by decide +kernel) (by decide) (r0 := ("StyleCourtModel", xF13, 85)) rfl (by decide) rfl w_1211) ?_
  refine xA (ok_iload_n hC (show decode prog_14_method_47_code 66 = .ok (.iload_n 1, 1) by decide +kernel) rfl) ?_
  refine xA (ok_iald hC (show decode prog_14_method_47_code 67 = .ok (.iaload, 1) by decide +kernel) (by decide) rfl) ?_
  refine xA (ok_callV hC hnh (show decode prog_14_method_47_code 68 = .ok (.invokevirtual 239, 3) by decide +kernel) (by decide) (by decide) (by decide) (r0 := ("StyleCourtModel", xF13, 85)) rfl ⟨by decide, by decide, by decide +kernel⟩ w_1462 w_83 w_1459 w_1461 w_33) ?_
  refine xA (ok_ifeq hC (show decode prog_14_method_47_code 71 = .ok (.ifCond .eq 7, 3) by decide +kernel) (by decide)) ?_
  refine xA (ok_iconst hC (show decode prog_14_method_47_code 74 = .ok (.iconst 1, 1) by decide +kernel) (by decide)) ?_
  refine xA (ok_goto hC (show decode prog_14_method_47_code 75 = .ok (.goto 4, 3) by decide +kernel) (by decide)) ?_
  refine xA (ok_iconst hC (show decode prog_14_method_47_code 78 = .ok (.iconst 0, 1) by decide +kernel) (by decide)) ?_
  refine xA (ok_zret hC hr (show decode prog_14_method_47_code 79 = .ok (.ireturn, 1) by decide +kernel)) ?_
  refine xA (ok_iload_n hC (show decode prog_14_method_47_code 80 = .ok (.iload_n 3, 1) by decide +kernel) rfl) ?_
  refine xA (ok_iconst hC (show decode prog_14_method_47_code 81 = .ok (.iconst 3, 1) by decide +kernel) (by decide)) ?_
  refine xA (ok_icne hC (show decode prog_14_method_47_code 82 = .ok (.if_icmp .ne 19, 3) by decide +kernel) (by decide)) ?_
  refine xA (ok_aload_n hC (show decode prog_14_method_47_code 85 = .ok (.aload_n 0, 1) by decide +kernel) rfl) ?_
  refine xA (ok_get hC (show decode prog_14_method_47_code 86 = .ok (.getfield 39, 3) by decide +kernel) (by decide) (r0 := ("StyleCourtModel", xF13, 85)) rfl (by decide) rfl w_1162) ?_
  refine xA (ok_iload_n hC (show decode prog_14_method_47_code 89 = .ok (.iload_n 2, 1) by decide +kernel) rfl) ?_
  refine xA (ok_iald hC (show decode prog_14_method_47_code 90 = .ok (.iaload, 1) by decide +kernel) (by decide) rfl) ?_
  refine xA (ok_iconst hC (show decode prog_14_method_47_code 91 = .ok (.iconst 1, 1) by decide +kernel) (by decide)) ?_
  refine xA (ok_icne hC (show decode prog_14_method_47_code 92 = .ok (.if_icmp .ne 7, 3) by decide +kernel) (by decide)) ?_
  refine xA (ok_iconst hC (show decode prog_14_method_47_code 95 = .ok (.iconst 1, 1) by decide +kernel) (by decide)) ?_
  refine xA (ok_goto hC (show decode prog_14_method_47_code 96 = .ok (.goto 4, 3) by decide +kernel) (by decide)) ?_
  refine xA (ok_iconst hC (show decode prog_14_method_47_code 99 = .ok (.iconst 0, 1) by decide +kernel) (by decide)) ?_
  refine xA (ok_zret hC hr (show decode prog_14_method_47_code 100 = .ok (.ireturn, 1) by decide +kernel)) ?_
  refine xA (ok_iload_n hC (show decode prog_14_method_47_code 101 = .ok (.iload_n 3, 1) by decide +kernel) rfl) ?_
  refine xA (ok_iconst hC (show decode prog_14_method_47_code 102 = .ok (.iconst 4, 1) by decide +kernel) (by decide)) ?_
  refine xA (ok_icne hC (show decode prog_14_method_47_code 103 = .ok (.if_icmp .ne 23, 3) by decide +kernel) (by decide)) ?_
  refine xA (ok_aload_n hC (show decode prog_14_method_47_code 106 = .ok (.aload_n 0, 1) by decide +kernel) rfl) ?_
  refine xA (ok_get hC (show decode prog_14_method_47_code 107 = .ok (.getfield 39, 3) by decide +kernel) (by decide) (r0 := ("StyleCourtModel", xF13, 85)) rfl (by decide) rfl w_1162) ?_
  refine xA (ok_iload_n hC (show decode prog_14_method_47_code 110 = .ok (.iload_n 2, 1) by decide +kernel) rfl) ?_
  refine xA (ok_iald hC (show decode prog_14_method_47_code 111 = .ok (.iaload, 1) by decide +kernel) (by decide) rfl) ?_
  refine xA (ok_aload_n hC (show decode prog_14_method_47_code 112 = .ok (.aload_n 0, 1) by decide +kernel) rfl) ?_
  refine xA (ok_iload_n hC (show decode prog_14_method_47_code 113 = .ok (.iload_n 2, 1) by decide +kernel) rfl) ?_
  refine xA (ok_callV hC hnh (show decode prog_14_method_47_code 114 = .ok (.invokevirtual 401, 3) by decide +kernel) (by decide) (by decide) (by decide) (r0 := ("StyleCourtModel", xF13, 85)) rfl ⟨by decide, by decide, by decide +kernel⟩ w_1613 w_83 w_1610 w_1612 w_65) ?_
  refine xA (ok_icne hC (show decode prog_14_method_47_code 117 = .ok (.if_icmp .ne 7, 3) by decide +kernel) (by decide)) ?_
  refine xA (ok_iconst hC (show decode prog_14_method_47_code 120 = .ok (.iconst 1, 1) by decide +kernel) (by decide)) ?_
  refine xA (ok_goto hC (show decode prog_14_method_47_code 121 = .ok (.goto 4, 3) by decide +kernel) (by decide)) ?_
  refine xA (ok_iconst hC (show decode prog_14_method_47_code 124 = .ok (.iconst 0, 1) by decide +kernel) (by decide)) ?_
  refine xA (ok_zret hC hr (show decode prog_14_method_47_code 125 = .ok (.ireturn, 1) by decide +kernel)) ?_
  refine xA (ok_iload_n hC (show decode prog_14_method_47_code 126 = .ok (.iload_n 3, 1) by decide +kernel) rfl) ?_
  refine xA (ok_iconst hC (show decode prog_14_method_47_code 127 = .ok (.iconst 5, 1) by decide +kernel) (by decide)) ?_
  refine xA (ok_icne hC (show decode prog_14_method_47_code 128 = .ok (.if_icmp .ne 10, 3) by decide +kernel) (by decide)) ?_
  refine xA (ok_aload_n hC (show decode prog_14_method_47_code 131 = .ok (.aload_n 0, 1) by decide +kernel) rfl) ?_
  refine xA (ok_get hC (show decode prog_14_method_47_code 132 = .ok (.getfield 63, 3) by decide +kernel) (by decide) (r0 := ("StyleCourtModel", xF13, 85)) rfl (by decide) rfl w_1170) ?_
  refine xA (ok_iload_n hC (show decode prog_14_method_47_code 135 = .ok (.iload_n 2, 1) by decide +kernel) rfl) ?_
  refine xA (ok_zald hC (show decode prog_14_method_47_code 136 = .ok (.baload, 1) by decide +kernel) (by decide) rfl) ?_
  refine xA (ok_zret hC hr (show decode prog_14_method_47_code 137 = .ok (.ireturn, 1) by decide +kernel)) ?_
  refine xA (ok_iload_n hC (show decode prog_14_method_47_code 138 = .ok (.iload_n 3, 1) by decide +kernel) rfl) ?_
  refine xA (ok_bipush hC (show decode prog_14_method_47_code 139 = .ok (.bipush 6, 2) by decide +kernel) (by decide)) ?_
  refine xA (ok_icne hC (show decode prog_14_method_47_code 141 = .ok (.if_icmp .ne 24, 3) by decide +kernel) (by decide)) ?_
  refine xA (ok_aload_n hC (show decode prog_14_method_47_code 144 = .ok (.aload_n 0, 1) by decide +kernel) rfl) ?_
  refine xA (ok_get hC (show decode prog_14_method_47_code 145 = .ok (.getfield 39, 3) by decide +kernel) (by decide) (r0 := ("StyleCourtModel", xF13, 85)) rfl (by decide) rfl w_1162) ?_
  refine xA (ok_iload_n hC (show decode prog_14_method_47_code 148 = .ok (.iload_n 2, 1) by decide +kernel) rfl) ?_
  refine xA (ok_iald hC (show decode prog_14_method_47_code 149 = .ok (.iaload, 1) by decide +kernel) (by decide) rfl) ?_
  refine xA (ok_aload_n hC (show decode prog_14_method_47_code 150 = .ok (.aload_n 0, 1) by decide +kernel) rfl) ?_
  refine xA (ok_get hC (show decode prog_14_method_47_code 151 = .ok (.getfield 145, 3) by decide +kernel) (by decide) (r0 := ("StyleCourtModel", xF13, 85)) rfl (by decide) rfl w_1212) ?_
  refine xA (ok_iload_n hC (show decode prog_14_method_47_code 154 = .ok (.iload_n 1, 1) by decide +kernel) rfl) ?_
  refine xA (ok_iald hC (show decode prog_14_method_47_code 155 = .ok (.iaload, 1) by decide +kernel) (by decide) rfl) ?_
  refine xA (ok_icne hC (show decode prog_14_method_47_code 156 = .ok (.if_icmp .ne 7, 3) by decide +kernel) (by decide)) ?_
  refine xA (ok_iconst hC (show decode prog_14_method_47_code 159 = .ok (.iconst 1, 1) by decide +kernel) (by decide)) ?_
  refine xA (ok_goto hC (show decode prog_14_method_47_code 160 = .ok (.goto 4, 3) by decide +kernel) (by decide)) ?_
  refine xA (ok_iconst hC (show decode prog_14_method_47_code 163 = .ok (.iconst 0, 1) by decide +kernel) (by decide)) ?_
  refine xA (ok_zret hC hr (show decode prog_14_method_47_code 164 = .ok (.ireturn, 1) by decide +kernel)) ?_
  refine xA (ok_aload_n hC (show decode prog_14_method_47_code 165 = .ok (.aload_n 0, 1) by decide +kernel) rfl) ?_
  refine xA (ok_aload_n hC (show decode prog_14_method_47_code 166 = .ok (.aload_n 0, 1) by decide +kernel) rfl) ?_
  refine xA (ok_get hC (show decode prog_14_method_47_code 167 = .ok (.getfield 24, 3) by decide +kernel) (by decide) (r0 := ("StyleCourtModel", xF13, 85)) rfl (by decide) rfl w_1157) ?_
  refine xA (ok_iload_n hC (show decode prog_14_method_47_code 170 = .ok (.iload_n 2, 1) by decide +kernel) rfl) ?_
  refine xA (ok_iald hC (show decode prog_14_method_47_code 171 = .ok (.iaload, 1) by decide +kernel) (by decide) rfl) ?_
  refine xA (ok_aload_n hC (show decode prog_14_method_47_code 172 = .ok (.aload_n 0, 1) by decide +kernel) rfl) ?_
  refine xA (ok_get hC (show decode prog_14_method_47_code 173 = .ok (.getfield 27, 3) by decide +kernel) (by decide) (r0 := ("StyleCourtModel", xF13, 85)) rfl (by decide) rfl w_1158) ?_
  refine xA (ok_iload_n hC (show decode prog_14_method_47_code 176 = .ok (.iload_n 2, 1) by decide +kernel) rfl) ?_
  refine xA (ok_iald hC (show decode prog_14_method_47_code 177 = .ok (.iaload, 1) by decide +kernel) (by decide) rfl) ?_
  refine xA (ok_aload_n hC (show decode prog_14_method_47_code 178 = .ok (.aload_n 0, 1) by decide +kernel) rfl) ?_
  refine xA (ok_get hC (show decode prog_14_method_47_code 179 = .ok (.getfield 133, 3) by decide +kernel) (by decide) (r0 := ("StyleCourtModel", xF13, 85)) rfl (by decide) rfl w_1208) ?_
  refine xA (ok_iload_n hC (show decode prog_14_method_47_code 182 = .ok (.iload_n 1, 1) by decide +kernel) rfl) ?_
  refine xA (ok_iald hC (show decode prog_14_method_47_code 183 = .ok (.iaload, 1) by decide +kernel) (by decide) rfl) ?_
  refine xA (ok_aload_n hC (show decode prog_14_method_47_code 184 = .ok (.aload_n 0, 1) by decide +kernel) rfl) ?_
  refine xA (ok_get hC (show decode prog_14_method_47_code 185 = .ok (.getfield 136, 3) by decide +kernel) (by decide) (r0 := ("StyleCourtModel", xF13, 85)) rfl (by decide) rfl w_1209) ?_
  refine xA (ok_iload_n hC (show decode prog_14_method_47_code 188 = .ok (.iload_n 1, 1) by decide +kernel) rfl) ?_
  refine xA (ok_iald hC (show decode prog_14_method_47_code 189 = .ok (.iaload, 1) by decide +kernel) (by decide) rfl) ?_
  refine xA (ok_callV hC hnh (show decode prog_14_method_47_code 190 = .ok (.invokevirtual 239, 3) by decide +kernel) (by decide) (by decide) (by decide) (r0 := ("StyleCourtModel", xF13, 85)) rfl ⟨by decide, by decide, by decide +kernel⟩ w_1462 w_83 w_1459 w_1461 w_33) ?_
  refine xA (ok_ifne hC (show decode prog_14_method_47_code 193 = .ok (.ifCond .ne 7, 3) by decide +kernel) (by decide)) ?_
  refine xA (ok_iconst hC (show decode prog_14_method_47_code 196 = .ok (.iconst 1, 1) by decide +kernel) (by decide)) ?_
  refine xA (ok_goto hC (show decode prog_14_method_47_code 197 = .ok (.goto 4, 3) by decide +kernel) (by decide)) ?_
  refine xA (ok_iconst hC (show decode prog_14_method_47_code 200 = .ok (.iconst 0, 1) by decide +kernel) (by decide)) ?_
  refine xA (ok_zret hC hr (show decode prog_14_method_47_code 201 = .ok (.ireturn, 1) by decide +kernel)) ?_
  exact trivial

def tb_Mo_fieldOf (X : xX) : List (Nat × xOp) := [(0, o_ic 0 1),
  (1, o_ist 4 3),
  (3, o_ild 4 5),
  (5, o_ald 0 6),
  (6, o_get 13 19 9),
  (9, o_ild 1 10),
  (10, o_ld 0 11),
  (11, o_icge 61 14),
  (14, o_ald 0 15),
  (15, o_ald 0 16),
  (16, o_get 13 26 19),
  (19, o_ic 6 21),
  (21, o_ild 1 22),
  (22, o_imul 23),
  (23, o_ild 4 25),
  (25, o_iadd 26),
  (26, o_ld 0 27),
  (27, o_ald 0 28),
  (28, o_get 13 27 31),
  (31, o_ic 6 33),
  (33, o_ild 1 34),
  (34, o_imul 35),
  (35, o_ild 4 37),
  (37, o_iadd 38),
  (38, o_ld 0 39),
  (39, o_ild 2 40),
  (40, o_ild 3 41),
  (41, o_callV X.l X.D X.P 13 0 5 y_Mo_same 44),
  (44, o_ifeq 55 47),
  (47, o_ic 6 49),
  (49, o_ild 1 50),
  (50, o_imul 51),
  (51, o_ild 4 53),
  (53, o_iadd 54),
  (54, o_iret X.P),
  (55, o_inc 4 1 58),
  (58, o_goto 3),
  (61, o_ic (-1) 62),
  (62, o_iret X.P)]
theorem tk_Mo_fieldOf {X : xX} (hC : xCx X prog_14_method_45_code "StyleCourtModel" 5 1) (hr : X.meth.sig.returnType = (some .int)) (hnh : X.c.exceptionTable.isEmpty = true) (hin : X.meth.name = "fieldOf") : xAll X (tb_Mo_fieldOf X) := by
  refine xA (ok_iconst hC (show decode prog_14_method_45_code 0 = .ok (.iconst 0, 1) by decide +kernel) (by decide)) ?_
  refine xA (ok_istore hC (show decode prog_14_method_45_code 1 = .ok (.istore 4, 2) by decide +kernel) (by decide)) ?_
  refine xA (ok_iload hC (show decode prog_14_method_45_code 3 = .ok (.iload 4, 2) by decide +kernel)) ?_
  refine xA (ok_aload_n hC (show decode prog_14_method_45_code 5 = .ok (.aload_n 0, 1) by decide +kernel) rfl) ?_
  refine xA (ok_get hC (show decode prog_14_method_45_code 6 = .ok (.getfield 45, 3) by decide +kernel) (by decide) (r0 := ("StyleCourtModel", xF13, 85)) rfl (by decide) rfl w_1164) ?_
  refine xA (ok_iload_n hC (show decode prog_14_method_45_code 9 = .ok (.iload_n 1, 1) by decide +kernel) rfl) ?_
  refine xA (ok_iald hC (show decode prog_14_method_45_code 10 = .ok (.iaload, 1) by decide +kernel) (by decide) rfl) ?_
  refine xA (ok_icge hC (show decode prog_14_method_45_code 11 = .ok (.if_icmp .ge 50, 3) by decide +kernel) (by decide)) ?_
  refine xA (ok_aload_n hC (show decode prog_14_method_45_code 14 = .ok (.aload_n 0, 1) by decide +kernel) rfl) ?_
  refine xA (ok_aload_n hC (show decode prog_14_method_45_code 15 = .ok (.aload_n 0, 1) by decide +kernel) rfl) ?_
  refine xA (ok_get hC (show decode prog_14_method_45_code 16 = .ok (.getfield 67, 3) by decide +kernel) (by decide) (r0 := ("StyleCourtModel", xF13, 85)) rfl (by decide) rfl w_1171) ?_
  refine xA (ok_bipush hC (show decode prog_14_method_45_code 19 = .ok (.bipush 6, 2) by decide +kernel) (by decide)) ?_
  refine xA (ok_iload_n hC (show decode prog_14_method_45_code 21 = .ok (.iload_n 1, 1) by decide +kernel) rfl) ?_
  refine xA (ok_imul hC (show decode prog_14_method_45_code 22 = .ok (.imul, 1) by decide +kernel)) ?_
  refine xA (ok_iload hC (show decode prog_14_method_45_code 23 = .ok (.iload 4, 2) by decide +kernel)) ?_
  refine xA (ok_iadd hC (show decode prog_14_method_45_code 25 = .ok (.iadd, 1) by decide +kernel)) ?_
  refine xA (ok_iald hC (show decode prog_14_method_45_code 26 = .ok (.iaload, 1) by decide +kernel) (by decide) rfl) ?_
  refine xA (ok_aload_n hC (show decode prog_14_method_45_code 27 = .ok (.aload_n 0, 1) by decide +kernel) rfl) ?_
  refine xA (ok_get hC (show decode prog_14_method_45_code 28 = .ok (.getfield 70, 3) by decide +kernel) (by decide) (r0 := ("StyleCourtModel", xF13, 85)) rfl (by decide) rfl w_1172) ?_
  refine xA (ok_bipush hC (show decode prog_14_method_45_code 31 = .ok (.bipush 6, 2) by decide +kernel) (by decide)) ?_
  refine xA (ok_iload_n hC (show decode prog_14_method_45_code 33 = .ok (.iload_n 1, 1) by decide +kernel) rfl) ?_
  refine xA (ok_imul hC (show decode prog_14_method_45_code 34 = .ok (.imul, 1) by decide +kernel)) ?_
  refine xA (ok_iload hC (show decode prog_14_method_45_code 35 = .ok (.iload 4, 2) by decide +kernel)) ?_
  refine xA (ok_iadd hC (show decode prog_14_method_45_code 37 = .ok (.iadd, 1) by decide +kernel)) ?_
  refine xA (ok_iald hC (show decode prog_14_method_45_code 38 = .ok (.iaload, 1) by decide +kernel) (by decide) rfl) ?_
  refine xA (ok_iload_n hC (show decode prog_14_method_45_code 39 = .ok (.iload_n 2, 1) by decide +kernel) rfl) ?_
  refine xA (ok_iload_n hC (show decode prog_14_method_45_code 40 = .ok (.iload_n 3, 1) by decide +kernel) rfl) ?_
  refine xA (ok_callV hC hnh (show decode prog_14_method_45_code 41 = .ok (.invokevirtual 239, 3) by decide +kernel) (by decide) (by decide) (by decide) (r0 := ("StyleCourtModel", xF13, 85)) rfl ⟨by decide, by decide, by decide +kernel⟩ w_1462 w_83 w_1459 w_1461 w_33) ?_
  refine xA (ok_ifeq hC (show decode prog_14_method_45_code 44 = .ok (.ifCond .eq 11, 3) by decide +kernel) (by decide)) ?_
  refine xA (ok_bipush hC (show decode prog_14_method_45_code 47 = .ok (.bipush 6, 2) by decide +kernel) (by decide)) ?_
  refine xA (ok_iload_n hC (show decode prog_14_method_45_code 49 = .ok (.iload_n 1, 1) by decide +kernel) rfl) ?_
  refine xA (ok_imul hC (show decode prog_14_method_45_code 50 = .ok (.imul, 1) by decide +kernel)) ?_
  refine xA (ok_iload hC (show decode prog_14_method_45_code 51 = .ok (.iload 4, 2) by decide +kernel)) ?_
  refine xA (ok_iadd hC (show decode prog_14_method_45_code 53 = .ok (.iadd, 1) by decide +kernel)) ?_
  refine xA (ok_iret hC hr (show decode prog_14_method_45_code 54 = .ok (.ireturn, 1) by decide +kernel)) ?_
  refine xA (ok_iinc hC (show decode prog_14_method_45_code 55 = .ok (.iinc 4 1, 3) by decide +kernel) (by decide) (by decide)) ?_
  refine xA (ok_goto hC (show decode prog_14_method_45_code 58 = .ok (.goto (-55), 3) by decide +kernel) (by decide)) ?_
  refine xA (ok_iconst hC (show decode prog_14_method_45_code 61 = .ok (.iconst (-1), 1) by decide +kernel) (by decide)) ?_
  refine xA (ok_iret hC hr (show decode prog_14_method_45_code 62 = .ok (.ireturn, 1) by decide +kernel)) ?_
  exact trivial

def tb_Mo_among (X : xX) : List (Nat × xOp) := [(0, o_ald 0 1),
  (1, o_get 13 14 4),
  (4, o_ild 1 5),
  (5, o_ld 0 6),
  (6, o_ifge 16 9),
  (9, o_ald 0 10),
  (10, o_get 13 39 13),
  (13, o_goto 27),
  (16, o_ald 0 17),
  (17, o_get 13 16 20),
  (20, o_ald 0 21),
  (21, o_get 13 14 24),
  (24, o_ild 1 25),
  (25, o_ld 0 26),
  (26, o_ld 0 27),
  (27, o_iret X.P)]
theorem tk_Mo_among {X : xX} (hC : xCx X prog_14_method_46_code "StyleCourtModel" 2 0) (hr : X.meth.sig.returnType = (some .int)) (hnh : X.c.exceptionTable.isEmpty = true) (hin : X.meth.name = "among") : xAll X (tb_Mo_among X) := by
  refine xA (ok_aload_n hC (show decode prog_14_method_46_code 0 = .ok (.aload_n 0, 1) by decide +kernel) rfl) ?_
  refine xA (ok_get hC (show decode prog_14_method_46_code 1 = .ok (.getfield 30, 3) by decide +kernel) (by decide) (r0 := ("StyleCourtModel", xF13, 85)) rfl (by decide) rfl w_1159) ?_
  refine xA (ok_iload_n hC (show decode prog_14_method_46_code 4 = .ok (.iload_n 1, 1) by decide +kernel) rfl) ?_
  refine xA (ok_iald hC (show decode prog_14_method_46_code 5 = .ok (.iaload, 1) by decide +kernel) (by decide) rfl) ?_
  refine xA (ok_ifge hC (show decode prog_14_method_46_code 6 = .ok (.ifCond .ge 10, 3) by decide +kernel) (by decide)) ?_
  refine xA (ok_aload_n hC (show decode prog_14_method_46_code 9 = .ok (.aload_n 0, 1) by decide +kernel) rfl) ?_
  refine xA (ok_get hC (show decode prog_14_method_46_code 10 = .ok (.getfield 278, 3) by decide +kernel) (by decide) (r0 := ("StyleCourtModel", xF13, 85)) rfl (by decide) rfl w_1184) ?_
  refine xA (ok_goto hC (show decode prog_14_method_46_code 13 = .ok (.goto 14, 3) by decide +kernel) (by decide)) ?_
  refine xA (ok_aload_n hC (show decode prog_14_method_46_code 16 = .ok (.aload_n 0, 1) by decide +kernel) rfl) ?_
  refine xA (ok_get hC (show decode prog_14_method_46_code 17 = .ok (.getfield 36, 3) by decide +kernel) (by decide) (r0 := ("StyleCourtModel", xF13, 85)) rfl (by decide) rfl w_1161) ?_
  refine xA (ok_aload_n hC (show decode prog_14_method_46_code 20 = .ok (.aload_n 0, 1) by decide +kernel) rfl) ?_
  refine xA (ok_get hC (show decode prog_14_method_46_code 21 = .ok (.getfield 30, 3) by decide +kernel) (by decide) (r0 := ("StyleCourtModel", xF13, 85)) rfl (by decide) rfl w_1159) ?_
  refine xA (ok_iload_n hC (show decode prog_14_method_46_code 24 = .ok (.iload_n 1, 1) by decide +kernel) rfl) ?_
  refine xA (ok_iald hC (show decode prog_14_method_46_code 25 = .ok (.iaload, 1) by decide +kernel) (by decide) rfl) ?_
  refine xA (ok_iald hC (show decode prog_14_method_46_code 26 = .ok (.iaload, 1) by decide +kernel) (by decide) rfl) ?_
  refine xA (ok_iret hC hr (show decode prog_14_method_46_code 27 = .ok (.ireturn, 1) by decide +kernel)) ?_
  exact trivial

def tb_Mo_property (X : xX) : List (Nat × xOp) := [(0, o_ald 0 1),
  (1, o_callV X.l X.D X.P 13 2 1 y_Mo_asked 4),
  (4, o_ist 2 5),
  (5, o_ald 0 6),
  (6, o_ild 1 7),
  (7, o_callV X.l X.D X.P 13 1 2 y_Mo_isThere 10),
  (10, o_ifne 19 13),
  (13, o_ald 0 14),
  (14, o_ic 1 15),
  (15, o_callV X.l X.D X.P 13 0 2 y_Mo_refuse 18),
  (18, o_iret X.P),
  (19, o_ald 0 20),
  (20, o_ic 0 21),
  (21, o_put 13 0 (.int) 24),
  (24, o_ald 0 25),
  (25, o_ic 0 26),
  (26, o_put 13 4 (.int) 29),
  (29, o_ild 2 30),
  (30, o_ifge 35 33),
  (33, o_ic 0 34),
  (34, o_iret X.P),
  (35, o_ic 0 36),
  (36, o_ist 3 37),
  (37, o_ild 1 38),
  (38, o_ist 4 40),
  (40, o_ald 0 41),
  (41, o_ild 4 43),
  (43, o_ild 2 44),
  (44, o_callV X.l X.D X.P 13 5 3 y_Mo_counts 47),
  (47, o_ist 5 49),
  (49, o_ild 5 51),
  (51, o_iflt 141 54),
  (54, o_ald 0 55),
  (55, o_get 13 72 58),
  (58, o_ild 5 60),
  (60, o_ld 0 61),
  (61, o_ic 4 62),
  (62, o_iceq 100 65),
  (65, o_ald 0 66),
  (66, o_get 13 72 69),
  (69, o_ild 5 71),
  (71, o_ld 0 72),
  (72, o_ic 1 73),
  (73, o_icne 141 76),
  (76, o_ald 0 77),
  (77, o_ald 0 78),
  (78, o_get 13 73 81),
  (81, o_ild 5 83),
  (83, o_ld 0 84),
  (84, o_ald 0 85),
  (85, o_get 13 74 88),
  (88, o_ild 5 90),
  (90, o_ld 0 91),
  (91, o_lc 30064 94),
  (94, o_callV X.l X.D X.P 13 0 4 y_Mo_isWord 97),
  (97, o_ifeq 141 100),
  (100, o_ald 0 101),
  (101, o_get 13 83 104),
  (104, o_ild 3 105),
  (105, o_ild 5 107),
  (107, o_iast 0 108),
  (108, o_inc 3 1 111),
  (111, o_ald 0 112),
  (112, o_get 13 14 115),
  (115, o_ild 4 117),
  (117, o_ld 0 118),
  (118, o_ist 4 120),
  (120, o_ild 4 122),
  (122, o_ifge 129 125),
  (125, o_ic (-1) 126),
  (126, o_goto 136),
  (129, o_ald 0 130),
  (130, o_ild 4 132),
  (132, o_ild 2 133),
  (133, o_callV X.l X.D X.P 13 5 3 y_Mo_counts 136),
  (136, o_ist 5 138),
  (138, o_goto 49),
  (141, o_ild 5 143),
  (143, o_ifge 148 146),
  (146, o_ic 0 147),
  (147, o_iret X.P),
  (148, o_ald 0 149),
  (149, o_get 13 72 152),
  (152, o_ild 5 154),
  (154, o_ld 0 155),
  (155, o_ist 6 157),
  (157, o_ald 0 158),
  (158, o_get 13 75 161),
  (161, o_ild 5 163),
  (163, o_ld 0 164),
  (164, o_i2l 165),
  (165, o_lst 7 167),
  (167, o_ild 3 168),
  (168, o_ic 1 169),
  (169, o_isub 170),
  (170, o_ist 9 172),
  (172, o_ild 9 174),
  (174, o_iflt 246 177),
  (177, o_ald 0 178),
  (178, o_get 13 72 181),
  (181, o_ald 0 182),
  (182, o_get 13 83 185),
  (185, o_ild 9 187),
  (187, o_ld 0 188),
  (188, o_ld 0 189),
  (189, o_ic 4 190),
  (190, o_iceq 196 193),
  (193, o_goto 240),
  (196, o_ild 6 198),
  (198, o_ic 2 199),
  (199, o_iceq 204 202),
  (202, o_ic 0 203),
  (203, o_iret X.P),
  (204, o_lld 7 206),
  (206, o_ald 0 207),
  (207, o_get 13 75 210),
  (210, o_ald 0 211),
  (211, o_get 13 83 214),
  (214, o_ild 9 216),
  (216, o_ld 0 217),
  (217, o_ld 0 218),
  (218, o_i2l 219),
  (219, o_lmul 220),
  (220, o_lc 100 223),
  (223, o_ldiv 224),
  (224, o_lst 7 226),
  (226, o_lld 7 228),
  (228, o_lc 9999999 231),
  (231, o_lcmp 232),
  (232, o_ifle 240 235),
  (235, o_lc 9999999 238),
  (238, o_lst 7 240),
  (240, o_inc 9 (-1) 243),
  (243, o_goto 172),
  (246, o_ild 6 248),
  (248, o_ic 2 249),
  (249, o_icne 261 252),
  (252, o_ald 0 253),
  (253, o_lld 7 255),
  (255, o_callV X.l X.D X.P 13 0 2 y_Mo_sayNumber 258),
  (258, o_goto 279),
  (261, o_ald 0 262),
  (262, o_ald 0 263),
  (263, o_get 13 73 266),
  (266, o_ild 5 268),
  (268, o_ld 0 269),
  (269, o_ald 0 270),
  (270, o_get 13 74 273),
  (273, o_ild 5 275),
  (275, o_ld 0 276),
  (276, o_callV X.l X.D X.P 13 0 3 y_Mo_say 279),
  (279, o_ild 6 281),
  (281, o_iret X.P)]
theorem tk_Mo_property {X : xX} (hC : xCx X prog_14_method_56_code "StyleCourtModel" 10 6) (hr : X.meth.sig.returnType = (some .int)) (hnh : X.c.exceptionTable.isEmpty = true) (hin : X.meth.name = "property") : xAll X (tb_Mo_property X) := by
  refine xA (ok_aload_n hC (show decode prog_14_method_56_code 0 = .ok (.aload_n 0, 1) by decide +kernel) rfl) ?_
  refine xA (ok_callV hC hnh (show decode prog_14_method_56_code 1 = .ok (.invokevirtual 414, 3) by decide +kernel) (by decide) (by decide) (by decide) (r0 := ("StyleCourtModel", xF13, 85)) rfl ⟨by decide, by decide, by decide +kernel⟩ w_1584 w_83 w_1581 w_1583 w_58) ?_
  refine xA (ok_istore_n hC (show decode prog_14_method_56_code 4 = .ok (.istore_n 2, 1) by decide +kernel) rfl (by decide)) ?_
  refine xA (ok_aload_n hC (show decode prog_14_method_56_code 5 = .ok (.aload_n 0, 1) by decide +kernel) rfl) ?_
  refine xA (ok_iload_n hC (show decode prog_14_method_56_code 6 = .ok (.iload_n 1, 1) by decide +kernel) rfl) ?_
  refine xA (ok_callV hC hnh (show decode prog_14_method_56_code 7 = .ok (.invokevirtual 418, 3) by decide +kernel) (by decide) (by decide) (by decide) (r0 := ("StyleCourtModel", xF13, 85)) rfl ⟨by decide, by decide, by decide +kernel⟩ w_1589 w_83 w_1586 w_1588 w_59) ?_
  refine xA (ok_ifne hC (show decode prog_14_method_56_code 10 = .ok (.ifCond .ne 9, 3) by decide +kernel) (by decide)) ?_
  refine xA (ok_aload_n hC (show decode prog_14_method_56_code 13 = .ok (.aload_n 0, 1) by decide +kernel) rfl) ?_
  refine xA (ok_iconst hC (show decode prog_14_method_56_code 14 = .ok (.iconst 1, 1) by decide +kernel) (by decide)) ?_
  refine xA (ok_callV hC hnh (show decode prog_14_method_56_code 15 = .ok (.invokevirtual 193, 3) by decide +kernel) (by decide) (by decide) (by decide) (r0 := ("StyleCourtModel", xF13, 85)) rfl ⟨by decide, by decide, by decide +kernel⟩ w_1413 w_83 w_1410 w_1412 w_25) ?_
  refine xA (ok_iret hC hr (show decode prog_14_method_56_code 18 = .ok (.ireturn, 1) by decide +kernel)) ?_
  refine xA (ok_aload_n hC (show decode prog_14_method_56_code 19 = .ok (.aload_n 0, 1) by decide +kernel) rfl) ?_
  refine xA (ok_iconst hC (show decode prog_14_method_56_code 20 = .ok (.iconst 0, 1) by decide +kernel) (by decide)) ?_
  refine xA (ok_put hC (show decode prog_14_method_56_code 21 = .ok (.putfield 187, 3) by decide +kernel) (by decide) (r0 := ("StyleCourtModel", xF13, 85)) rfl (by decide) rfl (by decide +kernel) w_1145) ?_
  refine xA (ok_aload_n hC (show decode prog_14_method_56_code 24 = .ok (.aload_n 0, 1) by decide +kernel) rfl) ?_
  refine xA (ok_iconst hC (show decode prog_14_method_56_code 25 = .ok (.iconst 0, 1) by decide +kernel) (by decide)) ?_
  refine xA (ok_put hC (show decode prog_14_method_56_code 26 = .ok (.putfield 424, 3) by decide +kernel) (by decide) (r0 := ("StyleCourtModel", xF13, 85)) rfl (by decide) rfl (by decide +kernel) w_1149) ?_
  refine xA (ok_iload_n hC (show decode prog_14_method_56_code 29 = .ok (.iload_n 2, 1) by decide +kernel) rfl) ?_
  refine xA (ok_ifge hC (show decode prog_14_method_56_code 30 = .ok (.ifCond .ge 5, 3) by decide +kernel) (by decide)) ?_
  refine xA (ok_iconst hC (show decode prog_14_method_56_code 33 = .ok (.iconst 0, 1) by decide +kernel) (by decide)) ?_
  refine xA (ok_iret hC hr (show decode prog_14_method_56_code 34 = .ok (.ireturn, 1) by decide +kernel)) ?_
  refine xA (ok_iconst hC (show decode prog_14_method_56_code 35 = .ok (.iconst 0, 1) by decide +kernel) (by decide)) ?_
  refine xA (ok_istore_n hC (show decode prog_14_method_56_code 36 = .ok (.istore_n 3, 1) by decide +kernel) rfl (by decide)) ?_
  refine xA (ok_iload_n hC (show decode prog_14_method_56_code 37 = .ok (.iload_n 1, 1) by decide +kernel) rfl) ?_
  refine xA (ok_istore hC (show decode prog_14_method_56_code 38 = .ok (.istore 4, 2) by decide +kernel) (by decide)) ?_
  refine xA (ok_aload_n hC (show decode prog_14_method_56_code 40 = .ok (.aload_n 0, 1) by decide +kernel) rfl) ?_
  refine xA (ok_iload hC (show decode prog_14_method_56_code 41 = .ok (.iload 4, 2) by decide +kernel)) ?_
  refine xA (ok_iload_n hC (show decode prog_14_method_56_code 43 = .ok (.iload_n 2, 1) by decide +kernel) rfl) ?_
  refine xA (ok_callV hC hnh (show decode prog_14_method_56_code 44 = .ok (.invokevirtual 421, 3) by decide +kernel) (by decide) (by decide) (by decide) (r0 := ("StyleCourtModel", xF13, 85)) rfl ⟨by decide, by decide, by decide +kernel⟩ w_1593 w_83 w_1590 w_1592 w_60) ?_
  refine xA (ok_istore hC (show decode prog_14_method_56_code 47 = .ok (.istore 5, 2) by decide +kernel) (by decide)) ?_
  refine xA (ok_iload hC (show decode prog_14_method_56_code 49 = .ok (.iload 5, 2) by decide +kernel)) ?_
  refine xA (ok_iflt hC (show decode prog_14_method_56_code 51 = .ok (.ifCond .lt 90, 3) by decide +kernel) (by decide)) ?_
  refine xA (ok_aload_n hC (show decode prog_14_method_56_code 54 = .ok (.aload_n 0, 1) by decide +kernel) rfl) ?_
  refine xA (ok_get hC (show decode prog_14_method_56_code 55 = .ok (.getfield 154, 3) by decide +kernel) (by decide) (r0 := ("StyleCourtModel", xF13, 85)) rfl (by decide) rfl w_1217) ?_
  refine xA (ok_iload hC (show decode prog_14_method_56_code 58 = .ok (.iload 5, 2) by decide +kernel)) ?_
  refine xA (ok_iald hC (show decode prog_14_method_56_code 60 = .ok (.iaload, 1) by decide +kernel) (by decide) rfl) ?_
  refine xA (ok_iconst hC (show decode prog_14_method_56_code 61 = .ok (.iconst 4, 1) by decide +kernel) (by decide)) ?_
  refine xA (ok_iceq hC (show decode prog_14_method_56_code 62 = .ok (.if_icmp .eq 38, 3) by decide +kernel) (by decide)) ?_
  refine xA (ok_aload_n hC (show decode prog_14_method_56_code 65 = .ok (.aload_n 0, 1) by decide +kernel) rfl) ?_
  refine xA (ok_get hC (show decode prog_14_method_56_code 66 = .ok (.getfield 154, 3) by decide +kernel) (by decide) (r0 := ("StyleCourtModel", xF13, 85)) rfl (by decide) rfl w_1217) ?_
  refine xA (ok_iload hC (show decode prog_14_method_56_code 69 = .ok (.iload 5, 2) by decide +kernel)) ?_
  refine xA (ok_iald hC (show decode prog_14_method_56_code 71 = .ok (.iaload, 1) by decide +kernel) (by decide) rfl) ?_
  refine xA (ok_iconst hC (show decode prog_14_method_56_code 72 = .ok (.iconst 1, 1) by decide +kernel) (by decide)) ?_
  refine xA (ok_icne hC (show decode prog_14_method_56_code 73 = .ok (.if_icmp .ne 68, 3) by decide +kernel) (by decide)) ?_
  refine xA (ok_aload_n hC (show decode prog_14_method_56_code 76 = .ok (.aload_n 0, 1) by decide +kernel) rfl) ?_
  refine xA (ok_aload_n hC (show decode prog_14_method_56_code 77 = .ok (.aload_n 0, 1) by decide +kernel) rfl) ?_
  refine xA (ok_get hC (show decode prog_14_method_56_code 78 = .ok (.getfield 157, 3) by decide +kernel) (by decide) (r0 := ("StyleCourtModel", xF13, 85)) rfl (by decide) rfl w_1218) ?_
  refine xA (ok_iload hC (show decode prog_14_method_56_code 81 = .ok (.iload 5, 2) by decide +kernel)) ?_
  refine xA (ok_iald hC (show decode prog_14_method_56_code 83 = .ok (.iaload, 1) by decide +kernel) (by decide) rfl) ?_
  refine xA (ok_aload_n hC (show decode prog_14_method_56_code 84 = .ok (.aload_n 0, 1) by decide +kernel) rfl) ?_
  refine xA (ok_get hC (show decode prog_14_method_56_code 85 = .ok (.getfield 160, 3) by decide +kernel) (by decide) (r0 := ("StyleCourtModel", xF13, 85)) rfl (by decide) rfl w_1219) ?_
  refine xA (ok_iload hC (show decode prog_14_method_56_code 88 = .ok (.iload 5, 2) by decide +kernel)) ?_
  refine xA (ok_iald hC (show decode prog_14_method_56_code 90 = .ok (.iaload, 1) by decide +kernel) (by decide) rfl) ?_
  refine xA (ok_ldc2 hC (show decode prog_14_method_56_code 91 = .ok (.ldc2_w 433, 3) by decide +kernel) w_1618) ?_
  refine xA (ok_callV hC hnh (show decode prog_14_method_56_code 94 = .ok (.invokevirtual 245, 3) by decide +kernel) (by decide) (by decide) (by decide) (r0 := ("StyleCourtModel", xF13, 85)) rfl ⟨by decide, by decide, by decide +kernel⟩ w_1486 w_83 w_1483 w_1485 w_38) ?_
  refine xA (ok_ifeq hC (show decode prog_14_method_56_code 97 = .ok (.ifCond .eq 44, 3) by decide +kernel) (by decide)) ?_
  refine xA (ok_aload_n hC (show decode prog_14_method_56_code 100 = .ok (.aload_n 0, 1) by decide +kernel) rfl) ?_
  refine xA (ok_get hC (show decode prog_14_method_56_code 101 = .ok (.getfield 184, 3) by decide +kernel) (by decide) (r0 := ("StyleCourtModel", xF13, 85)) rfl (by decide) rfl w_1228) ?_
  refine xA (ok_iload_n hC (show decode prog_14_method_56_code 104 = .ok (.iload_n 3, 1) by decide +kernel) rfl) ?_
  refine xA (ok_iload hC (show decode prog_14_method_56_code 105 = .ok (.iload 5, 2) by decide +kernel)) ?_
  refine xA (ok_iast hC (show decode prog_14_method_56_code 107 = .ok (.iastore, 1) by decide +kernel) (by decide) rfl) ?_
  refine xA (ok_iinc hC (show decode prog_14_method_56_code 108 = .ok (.iinc 3 1, 3) by decide +kernel) (by decide) (by decide)) ?_
  refine xA (ok_aload_n hC (show decode prog_14_method_56_code 111 = .ok (.aload_n 0, 1) by decide +kernel) rfl) ?_
  refine xA (ok_get hC (show decode prog_14_method_56_code 112 = .ok (.getfield 30, 3) by decide +kernel) (by decide) (r0 := ("StyleCourtModel", xF13, 85)) rfl (by decide) rfl w_1159) ?_
  refine xA (ok_iload hC (show decode prog_14_method_56_code 115 = .ok (.iload 4, 2) by decide +kernel)) ?_
  refine xA (ok_iald hC (show decode prog_14_method_56_code 117 = .ok (.iaload, 1) by decide +kernel) (by decide) rfl) ?_
  refine xA (ok_istore hC (show decode prog_14_method_56_code 118 = .ok (.istore 4, 2) by decide +kernel) (by decide)) ?_
  refine xA (ok_iload hC (show decode prog_14_method_56_code 120 = .ok (.iload 4, 2) by decide +kernel)) ?_
  refine xA (ok_ifge hC (show decode prog_14_method_56_code 122 = .ok (.ifCond .ge 7, 3) by decide +kernel) (by decide)) ?_
  refine xA (ok_iconst hC (show decode prog_14_method_56_code 125 = .ok (.iconst (-1), 1) by decide +kernel) (by decide)) ?_
  refine xA (ok_goto hC (show decode prog_14_method_56_code 126 = .ok (.goto 10, 3) by decide +kernel) (by decide)) ?_
  refine xA (ok_aload_n hC (show decode prog_14_method_56_code 129 = .ok (.aload_n 0, 1) by decide +kernel) rfl) ?_
  refine xA (ok_iload hC (show decode prog_14_method_56_code 130 = .ok (.iload 4, 2) by decide +kernel)) ?_
  refine xA (ok_iload_n hC (show decode prog_14_method_56_code 132 = .ok (.iload_n 2, 1) by decide +kernel) rfl) ?_
  refine xA (ok_callV hC hnh (show decode prog_14_method_56_code 133 = .ok (.invokevirtual 421, 3) by decide +kernel) (by decide) (by decide) (by decide) (r0 := ("StyleCourtModel", xF13, 85)) rfl ⟨by decide, by decide, by decide +kernel⟩ w_1593 w_83 w_1590 w_1592 w_60) ?_
  refine xA (ok_istore hC (show decode prog_14_method_56_code 136 = .ok (.istore 5, 2) by decide +kernel) (by decide)) ?_
  refine xA (ok_goto hC (show decode prog_14_method_56_code 138 = .ok (.goto (-89), 3) by decide +kernel) (by decide)) ?_
  refine xA (ok_iload hC (show decode prog_14_method_56_code 141 = .ok (.iload 5, 2) by decide +kernel)) ?_
  refine xA (ok_ifge hC (show decode prog_14_method_56_code 143 = .ok (.ifCond .ge 5, 3) by decide +kernel) (by decide)) ?_
  refine xA (ok_iconst hC (show decode prog_14_method_56_code 146 = .ok (.iconst 0, 1) by decide +kernel) (by decide)) ?_
  refine xA (ok_iret hC hr (show decode prog_14_method_56_code 147 = .ok (.ireturn, 1) by decide +kernel)) ?_
  refine xA (ok_aload_n hC (show decode prog_14_method_56_code 148 = .ok (.aload_n 0, 1) by decide +kernel) rfl) ?_
  refine xA (ok_get hC (show decode prog_14_method_56_code 149 = .ok (.getfield 154, 3) by decide +kernel) (by decide) (r0 := ("StyleCourtModel", xF13, 85)) rfl (by decide) rfl w_1217) ?_
  refine xA (ok_iload hC (show decode prog_14_method_56_code 152 = .ok (.iload 5, 2) by decide +kernel)) ?_
  refine xA (ok_iald hC (show decode prog_14_method_56_code 154 = .ok (.iaload, 1) by decide +kernel) (by decide) rfl) ?_
  refine xA (ok_istore hC (show decode prog_14_method_56_code 155 = .ok (.istore 6, 2) by decide +kernel) (by decide)) ?_
  refine xA (ok_aload_n hC (show decode prog_14_method_56_code 157 = .ok (.aload_n 0, 1) by decide +kernel) rfl) ?_
  refine xA (ok_get hC (show decode prog_14_method_56_code 158 = .ok (.getfield 163, 3) by decide +kernel) (by decide) (r0 := ("StyleCourtModel", xF13, 85)) rfl (by decide) rfl w_1220) ?_
  refine xA (ok_iload hC (show decode prog_14_method_56_code 161 = .ok (.iload 5, 2) by decide +kernel)) ?_
  refine xA (ok_iald hC (show decode prog_14_method_56_code 163 = .ok (.iaload, 1) by decide +kernel) (by decide) rfl) ?_
  refine xA (ok_i2l hC (show decode prog_14_method_56_code 164 = .ok (.i2l, 1) by decide +kernel)) ?_
  refine xA (ok_lstore hC (show decode prog_14_method_56_code 165 = .ok (.lstore 7, 2) by decide +kernel) (by decide)) ?_
  refine xA (ok_iload_n hC (show decode prog_14_method_56_code 167 = .ok (.iload_n 3, 1) by decide +kernel) rfl) ?_
  refine xA (ok_iconst hC (show decode prog_14_method_56_code 168 = .ok (.iconst 1, 1) by decide +kernel) (by decide)) ?_
  refine xA (ok_isub hC (show decode prog_14_method_56_code 169 = .ok (.isub, 1) by decide +kernel)) ?_
  refine xA (ok_istore hC (show decode prog_14_method_56_code 170 = .ok (.istore 9, 2) by decide +kernel) (by decide)) ?_
  refine xA (ok_iload hC (show decode prog_14_method_56_code 172 = .ok (.iload 9, 2) by decide +kernel)) ?_
  refine xA (ok_iflt hC (show decode prog_14_method_56_code 174 = .ok (.ifCond .lt 72, 3) by decide +kernel) (by decide)) ?_
  refine xA (ok_aload_n hC (show decode prog_14_method_56_code 177 = .ok (.aload_n 0, 1) by decide +kernel) rfl) ?_
  refine xA (ok_get hC (show decode prog_14_method_56_code 178 = .ok (.getfield 154, 3) by decide +kernel) (by decide) (r0 := ("StyleCourtModel", xF13, 85)) rfl (by decide) rfl w_1217) ?_
  refine xA (ok_aload_n hC (show decode prog_14_method_56_code 181 = .ok (.aload_n 0, 1) by decide +kernel) rfl) ?_
  refine xA (ok_get hC (show decode prog_14_method_56_code 182 = .ok (.getfield 184, 3) by decide +kernel) (by decide) (r0 := ("StyleCourtModel", xF13, 85)) rfl (by decide) rfl w_1228) ?_
  refine xA (ok_iload hC (show decode prog_14_method_56_code 185 = .ok (.iload 9, 2) by decide +kernel)) ?_
  refine xA (ok_iald hC (show decode prog_14_method_56_code 187 = .ok (.iaload, 1) by decide +kernel) (by decide) rfl) ?_
  refine xA (ok_iald hC (show decode prog_14_method_56_code 188 = .ok (.iaload, 1) by decide +kernel) (by decide) rfl) ?_
  refine xA (ok_iconst hC (show decode prog_14_method_56_code 189 = .ok (.iconst 4, 1) by decide +kernel) (by decide)) ?_
  refine xA (ok_iceq hC (show decode prog_14_method_56_code 190 = .ok (.if_icmp .eq 6, 3) by decide +kernel) (by decide)) ?_
  refine xA (ok_goto hC (show decode prog_14_method_56_code 193 = .ok (.goto 47, 3) by decide +kernel) (by decide)) ?_
  refine xA (ok_iload hC (show decode prog_14_method_56_code 196 = .ok (.iload 6, 2) by decide +kernel)) ?_
  refine xA (ok_iconst hC (show decode prog_14_method_56_code 198 = .ok (.iconst 2, 1) by decide +kernel) (by decide)) ?_
  refine xA (ok_iceq hC (show decode prog_14_method_56_code 199 = .ok (.if_icmp .eq 5, 3) by decide +kernel) (by decide)) ?_
  refine xA (ok_iconst hC (show decode prog_14_method_56_code 202 = .ok (.iconst 0, 1) by decide +kernel) (by decide)) ?_
  refine xA (ok_iret hC hr (show decode prog_14_method_56_code 203 = .ok (.ireturn, 1) by decide +kernel)) ?_
  refine xA (ok_lload hC (show decode prog_14_method_56_code 204 = .ok (.lload 7, 2) by decide +kernel)) ?_
  refine xA (ok_aload_n hC (show decode prog_14_method_56_code 206 = .ok (.aload_n 0, 1) by decide +kernel) rfl) ?_
  refine xA (ok_get hC (show decode prog_14_method_56_code 207 = .ok (.getfield 163, 3) by decide +kernel) (by decide) (r0 := ("StyleCourtModel", xF13, 85)) rfl (by decide) rfl w_1220) ?_
  refine xA (ok_aload_n hC (show decode prog_14_method_56_code 210 = .ok (.aload_n 0, 1) by decide +kernel) rfl) ?_
  refine xA (ok_get hC (show decode prog_14_method_56_code 211 = .ok (.getfield 184, 3) by decide +kernel) (by decide) (r0 := ("StyleCourtModel", xF13, 85)) rfl (by decide) rfl w_1228) ?_
  refine xA (ok_iload hC (show decode prog_14_method_56_code 214 = .ok (.iload 9, 2) by decide +kernel)) ?_
  refine xA (ok_iald hC (show decode prog_14_method_56_code 216 = .ok (.iaload, 1) by decide +kernel) (by decide) rfl) ?_
  refine xA (ok_iald hC (show decode prog_14_method_56_code 217 = .ok (.iaload, 1) by decide +kernel) (by decide) rfl) ?_
  refine xA (ok_i2l hC (show decode prog_14_method_56_code 218 = .ok (.i2l, 1) by decide +kernel)) ?_
  refine xA (ok_lmul hC (show decode prog_14_method_56_code 219 = .ok (.lmul, 1) by decide +kernel)) ?_
  refine xA (ok_ldc2 hC (show decode prog_14_method_56_code 220 = .ok (.ldc2_w 435, 3) by decide +kernel) w_1619) ?_
  refine xA (ok_ldiv hC (show decode prog_14_method_56_code 223 = .ok (.ldiv, 1) by decide +kernel)) ?_
  refine xA (ok_lstore hC (show decode prog_14_method_56_code 224 = .ok (.lstore 7, 2) by decide +kernel) (by decide)) ?_
  refine xA (ok_lload hC (show decode prog_14_method_56_code 226 = .ok (.lload 7, 2) by decide +kernel)) ?_
  refine xA (ok_ldc2 hC (show decode prog_14_method_56_code 228 = .ok (.ldc2_w 437, 3) by decide +kernel) w_1620) ?_
  refine xA (ok_lcmp hC (show decode prog_14_method_56_code 231 = .ok (.lcmp, 1) by decide +kernel)) ?_
  refine xA (ok_ifle hC (show decode prog_14_method_56_code 232 = .ok (.ifCond .le 8, 3) by decide +kernel) (by decide)) ?_
  refine xA (ok_ldc2 hC (show decode prog_14_method_56_code 235 = .ok (.ldc2_w 437, 3) by decide +kernel) w_1620) ?_
  refine xA (ok_lstore hC (show decode prog_14_method_56_code 238 = .ok (.lstore 7, 2) by decide +kernel) (by decide)) ?_
  refine xA (ok_iinc hC (show decode prog_14_method_56_code 240 = .ok (.iinc 9 (-1), 3) by decide +kernel) (by decide) (by decide)) ?_
  refine xA (ok_goto hC (show decode prog_14_method_56_code 243 = .ok (.goto (-71), 3) by decide +kernel) (by decide)) ?_
  refine xA (ok_iload hC (show decode prog_14_method_56_code 246 = .ok (.iload 6, 2) by decide +kernel)) ?_
  refine xA (ok_iconst hC (show decode prog_14_method_56_code 248 = .ok (.iconst 2, 1) by decide +kernel) (by decide)) ?_
  refine xA (ok_icne hC (show decode prog_14_method_56_code 249 = .ok (.if_icmp .ne 12, 3) by decide +kernel) (by decide)) ?_
  refine xA (ok_aload_n hC (show decode prog_14_method_56_code 252 = .ok (.aload_n 0, 1) by decide +kernel) rfl) ?_
  refine xA (ok_lload hC (show decode prog_14_method_56_code 253 = .ok (.lload 7, 2) by decide +kernel)) ?_
  refine xA (ok_callV hC hnh (show decode prog_14_method_56_code 255 = .ok (.invokevirtual 439, 3) by decide +kernel) (by decide) (by decide) (by decide) (r0 := ("StyleCourtModel", xF13, 85)) rfl ⟨by decide, by decide, by decide +kernel⟩ w_1624 w_83 w_1621 w_1623 w_66) ?_
  refine xA (ok_goto hC (show decode prog_14_method_56_code 258 = .ok (.goto 21, 3) by decide +kernel) (by decide)) ?_
  refine xA (ok_aload_n hC (show decode prog_14_method_56_code 261 = .ok (.aload_n 0, 1) by decide +kernel) rfl) ?_
  refine xA (ok_aload_n hC (show decode prog_14_method_56_code 262 = .ok (.aload_n 0, 1) by decide +kernel) rfl) ?_
  refine xA (ok_get hC (show decode prog_14_method_56_code 263 = .ok (.getfield 157, 3) by decide +kernel) (by decide) (r0 := ("StyleCourtModel", xF13, 85)) rfl (by decide) rfl w_1218) ?_
  refine xA (ok_iload hC (show decode prog_14_method_56_code 266 = .ok (.iload 5, 2) by decide +kernel)) ?_
  refine xA (ok_iald hC (show decode prog_14_method_56_code 268 = .ok (.iaload, 1) by decide +kernel) (by decide) rfl) ?_
  refine xA (ok_aload_n hC (show decode prog_14_method_56_code 269 = .ok (.aload_n 0, 1) by decide +kernel) rfl) ?_
  refine xA (ok_get hC (show decode prog_14_method_56_code 270 = .ok (.getfield 160, 3) by decide +kernel) (by decide) (r0 := ("StyleCourtModel", xF13, 85)) rfl (by decide) rfl w_1219) ?_
  refine xA (ok_iload hC (show decode prog_14_method_56_code 273 = .ok (.iload 5, 2) by decide +kernel)) ?_
  refine xA (ok_iald hC (show decode prog_14_method_56_code 275 = .ok (.iaload, 1) by decide +kernel) (by decide) rfl) ?_
  refine xA (ok_callV hC hnh (show decode prog_14_method_56_code 276 = .ok (.invokevirtual 443, 3) by decide +kernel) (by decide) (by decide) (by decide) (r0 := ("StyleCourtModel", xF13, 85)) rfl ⟨by decide, by decide, by decide +kernel⟩ w_1631 w_83 w_1628 w_1630 w_67) ?_
  refine xA (ok_iload hC (show decode prog_14_method_56_code 279 = .ok (.iload 6, 2) by decide +kernel)) ?_
  refine xA (ok_iret hC hr (show decode prog_14_method_56_code 281 = .ok (.ireturn, 1) by decide +kernel)) ?_
  exact trivial

def tb_Mo_sayNumber (X : xX) : List (Nat × xOp) := [(0, o_lc 1 1),
  (1, o_lst 3 2),
  (2, o_lld 1 3),
  (3, o_lld 3 4),
  (4, o_ldiv 5),
  (5, o_lc 9 8),
  (8, o_lcmp 9),
  (9, o_ifle 21 12),
  (12, o_lld 3 13),
  (13, o_lc 10 16),
  (16, o_lmul 17),
  (17, o_lst 3 18),
  (18, o_goto 2),
  (21, o_lld 3 22),
  (22, o_lc 0 23),
  (23, o_lcmp 24),
  (24, o_ifle 67 27),
  (27, o_ald 0 28),
  (28, o_get 13 3 31),
  (31, o_ald 0 32),
  (32, o_get 13 4 35),
  (35, o_lc 48 38),
  (38, o_lld 1 39),
  (39, o_lld 3 40),
  (40, o_ldiv 41),
  (41, o_lc 10 44),
  (44, o_lrem 45),
  (45, o_ladd 46),
  (46, o_l2i 47),
  (47, o_iast 0 48),
  (48, o_ald 0 49),
  (49, o_dup 50),
  (50, o_get 13 4 53),
  (53, o_ic 1 54),
  (54, o_iadd 55),
  (55, o_put 13 4 (.int) 58),
  (58, o_lld 3 59),
  (59, o_lc 10 62),
  (62, o_ldiv 63),
  (63, o_lst 3 64),
  (64, o_goto 21),
  (67, o_vret X.P)]
theorem tk_Mo_sayNumber {X : xX} (hC : xCx X prog_14_method_55_code "StyleCourtModel" 5 0) (hr : X.meth.sig.returnType = none) (hnh : X.c.exceptionTable.isEmpty = true) (hin : X.meth.name = "sayNumber") : xAll X (tb_Mo_sayNumber X) := by
  refine xA (ok_lconst hC (show decode prog_14_method_55_code 0 = .ok (.lconst 1, 1) by decide +kernel) (by decide)) ?_
  refine xA (ok_lstore_n hC (show decode prog_14_method_55_code 1 = .ok (.lstore_n 3, 1) by decide +kernel) rfl (by decide)) ?_
  refine xA (ok_lload_n hC (show decode prog_14_method_55_code 2 = .ok (.lload_n 1, 1) by decide +kernel) rfl) ?_
  refine xA (ok_lload_n hC (show decode prog_14_method_55_code 3 = .ok (.lload_n 3, 1) by decide +kernel) rfl) ?_
  refine xA (ok_ldiv hC (show decode prog_14_method_55_code 4 = .ok (.ldiv, 1) by decide +kernel)) ?_
  refine xA (ok_ldc2 hC (show decode prog_14_method_55_code 5 = .ok (.ldc2_w 427, 3) by decide +kernel) w_1625) ?_
  refine xA (ok_lcmp hC (show decode prog_14_method_55_code 8 = .ok (.lcmp, 1) by decide +kernel)) ?_
  refine xA (ok_ifle hC (show decode prog_14_method_55_code 9 = .ok (.ifCond .le 12, 3) by decide +kernel) (by decide)) ?_
  refine xA (ok_lload_n hC (show decode prog_14_method_55_code 12 = .ok (.lload_n 3, 1) by decide +kernel) rfl) ?_
  refine xA (ok_ldc2 hC (show decode prog_14_method_55_code 13 = .ok (.ldc2_w 429, 3) by decide +kernel) w_1626) ?_
  refine xA (ok_lmul hC (show decode prog_14_method_55_code 16 = .ok (.lmul, 1) by decide +kernel)) ?_
  refine xA (ok_lstore_n hC (show decode prog_14_method_55_code 17 = .ok (.lstore_n 3, 1) by decide +kernel) rfl (by decide)) ?_
  refine xA (ok_goto hC (show decode prog_14_method_55_code 18 = .ok (.goto (-16), 3) by decide +kernel) (by decide)) ?_
  refine xA (ok_lload_n hC (show decode prog_14_method_55_code 21 = .ok (.lload_n 3, 1) by decide +kernel) rfl) ?_
  refine xA (ok_lconst hC (show decode prog_14_method_55_code 22 = .ok (.lconst 0, 1) by decide +kernel) (by decide)) ?_
  refine xA (ok_lcmp hC (show decode prog_14_method_55_code 23 = .ok (.lcmp, 1) by decide +kernel)) ?_
  refine xA (ok_ifle hC (show decode prog_14_method_55_code 24 = .ok (.ifCond .le 43, 3) by decide +kernel) (by decide)) ?_
  refine xA (ok_aload_n hC (show decode prog_14_method_55_code 27 = .ok (.aload_n 0, 1) by decide +kernel) rfl) ?_
  refine xA (ok_get hC (show decode prog_14_method_55_code 28 = .ok (.getfield 13, 3) by decide +kernel) (by decide) (r0 := ("StyleCourtModel", xF13, 85)) rfl (by decide) rfl w_1148) ?_
  refine xA (ok_aload_n hC (show decode prog_14_method_55_code 31 = .ok (.aload_n 0, 1) by decide +kernel) rfl) ?_
  refine xA (ok_get hC (show decode prog_14_method_55_code 32 = .ok (.getfield 424, 3) by decide +kernel) (by decide) (r0 := ("StyleCourtModel", xF13, 85)) rfl (by decide) rfl w_1149) ?_
  refine xA (ok_ldc2 hC (show decode prog_14_method_55_code 35 = .ok (.ldc2_w 431, 3) by decide +kernel) w_1627) ?_
  refine xA (ok_lload_n hC (show decode prog_14_method_55_code 38 = .ok (.lload_n 1, 1) by decide +kernel) rfl) ?_
  refine xA (ok_lload_n hC (show decode prog_14_method_55_code 39 = .ok (.lload_n 3, 1) by decide +kernel) rfl) ?_
  refine xA (ok_ldiv hC (show decode prog_14_method_55_code 40 = .ok (.ldiv, 1) by decide +kernel)) ?_
  refine xA (ok_ldc2 hC (show decode prog_14_method_55_code 41 = .ok (.ldc2_w 429, 3) by decide +kernel) w_1626) ?_
  refine xA (ok_lrem hC (show decode prog_14_method_55_code 44 = .ok (.lrem, 1) by decide +kernel)) ?_
  refine xA (ok_ladd hC (show decode prog_14_method_55_code 45 = .ok (.ladd, 1) by decide +kernel)) ?_
  refine xA (ok_l2i hC (show decode prog_14_method_55_code 46 = .ok (.l2i, 1) by decide +kernel)) ?_
  refine xA (ok_iast hC (show decode prog_14_method_55_code 47 = .ok (.iastore, 1) by decide +kernel) (by decide) rfl) ?_
  refine xA (ok_aload_n hC (show decode prog_14_method_55_code 48 = .ok (.aload_n 0, 1) by decide +kernel) rfl) ?_
  refine xA (ok_dup hC (show decode prog_14_method_55_code 49 = .ok (.dup, 1) by decide +kernel)) ?_
  refine xA (ok_get hC (show decode prog_14_method_55_code 50 = .ok (.getfield 424, 3) by decide +kernel) (by decide) (r0 := ("StyleCourtModel", xF13, 85)) rfl (by decide) rfl w_1149) ?_
  refine xA (ok_iconst hC (show decode prog_14_method_55_code 53 = .ok (.iconst 1, 1) by decide +kernel) (by decide)) ?_
  refine xA (ok_iadd hC (show decode prog_14_method_55_code 54 = .ok (.iadd, 1) by decide +kernel)) ?_
  refine xA (ok_put hC (show decode prog_14_method_55_code 55 = .ok (.putfield 424, 3) by decide +kernel) (by decide) (r0 := ("StyleCourtModel", xF13, 85)) rfl (by decide) rfl (by decide +kernel) w_1149) ?_
  refine xA (ok_lload_n hC (show decode prog_14_method_55_code 58 = .ok (.lload_n 3, 1) by decide +kernel) rfl) ?_
  refine xA (ok_ldc2 hC (show decode prog_14_method_55_code 59 = .ok (.ldc2_w 429, 3) by decide +kernel) w_1626) ?_
  refine xA (ok_ldiv hC (show decode prog_14_method_55_code 62 = .ok (.ldiv, 1) by decide +kernel)) ?_
  refine xA (ok_lstore_n hC (show decode prog_14_method_55_code 63 = .ok (.lstore_n 3, 1) by decide +kernel) rfl (by decide)) ?_
  refine xA (ok_goto hC (show decode prog_14_method_55_code 64 = .ok (.goto (-43), 3) by decide +kernel) (by decide)) ?_
  refine xA (ok_vret hC hr (show decode prog_14_method_55_code 67 = .ok (.return_, 1) by decide +kernel)) ?_
  exact trivial

def tb_Mo_say (X : xX) : List (Nat × xOp) := [(0, o_ic 0 1),
  (1, o_ist 3 2),
  (2, o_ild 3 3),
  (3, o_ild 2 4),
  (4, o_icge 40 7),
  (7, o_ald 0 8),
  (8, o_get 13 3 11),
  (11, o_ald 0 12),
  (12, o_get 13 4 15),
  (15, o_ald 0 16),
  (16, o_get 13 7 19),
  (19, o_ild 1 20),
  (20, o_ild 3 21),
  (21, o_iadd 22),
  (22, o_ld 0 23),
  (23, o_iast 0 24),
  (24, o_ald 0 25),
  (25, o_dup 26),
  (26, o_get 13 4 29),
  (29, o_ic 1 30),
  (30, o_iadd 31),
  (31, o_put 13 4 (.int) 34),
  (34, o_inc 3 1 37),
  (37, o_goto 2),
  (40, o_vret X.P)]
theorem tk_Mo_say {X : xX} (hC : xCx X prog_14_method_54_code "StyleCourtModel" 4 0) (hr : X.meth.sig.returnType = none) (hnh : X.c.exceptionTable.isEmpty = true) (hin : X.meth.name = "say") : xAll X (tb_Mo_say X) := by
  refine xA (ok_iconst hC (show decode prog_14_method_54_code 0 = .ok (.iconst 0, 1) by decide +kernel) (by decide)) ?_
  refine xA (ok_istore_n hC (show decode prog_14_method_54_code 1 = .ok (.istore_n 3, 1) by decide +kernel) rfl (by decide)) ?_
  refine xA (ok_iload_n hC (show decode prog_14_method_54_code 2 = .ok (.iload_n 3, 1) by decide +kernel) rfl) ?_
  refine xA (ok_iload_n hC (show decode prog_14_method_54_code 3 = .ok (.iload_n 2, 1) by decide +kernel) rfl) ?_
  refine xA (ok_icge hC (show decode prog_14_method_54_code 4 = .ok (.if_icmp .ge 36, 3) by decide +kernel) (by decide)) ?_
  refine xA (ok_aload_n hC (show decode prog_14_method_54_code 7 = .ok (.aload_n 0, 1) by decide +kernel) rfl) ?_
  refine xA (ok_get hC (show decode prog_14_method_54_code 8 = .ok (.getfield 13, 3) by decide +kernel) (by decide) (r0 := ("StyleCourtModel", xF13, 85)) rfl (by decide) rfl w_1148) ?_
  refine xA (ok_aload_n hC (show decode prog_14_method_54_code 11 = .ok (.aload_n 0, 1) by decide +kernel) rfl) ?_
  refine xA (ok_get hC (show decode prog_14_method_54_code 12 = .ok (.getfield 424, 3) by decide +kernel) (by decide) (r0 := ("StyleCourtModel", xF13, 85)) rfl (by decide) rfl w_1149) ?_
  refine xA (ok_aload_n hC (show decode prog_14_method_54_code 15 = .ok (.aload_n 0, 1) by decide +kernel) rfl) ?_
  refine xA (ok_get hC (show decode prog_14_method_54_code 16 = .ok (.getfield 21, 3) by decide +kernel) (by decide) (r0 := ("StyleCourtModel", xF13, 85)) rfl (by decide) rfl w_1152) ?_
  refine xA (ok_iload_n hC (show decode prog_14_method_54_code 19 = .ok (.iload_n 1, 1) by decide +kernel) rfl) ?_
  refine xA (ok_iload_n hC (show decode prog_14_method_54_code 20 = .ok (.iload_n 3, 1) by decide +kernel) rfl) ?_
  refine xA (ok_iadd hC (show decode prog_14_method_54_code 21 = .ok (.iadd, 1) by decide +kernel)) ?_
  refine xA (ok_iald hC (show decode prog_14_method_54_code 22 = .ok (.iaload, 1) by decide +kernel) (by decide) rfl) ?_
  refine xA (ok_iast hC (show decode prog_14_method_54_code 23 = .ok (.iastore, 1) by decide +kernel) (by decide) rfl) ?_
  refine xA (ok_aload_n hC (show decode prog_14_method_54_code 24 = .ok (.aload_n 0, 1) by decide +kernel) rfl) ?_
  refine xA (ok_dup hC (show decode prog_14_method_54_code 25 = .ok (.dup, 1) by decide +kernel)) ?_
  refine xA (ok_get hC (show decode prog_14_method_54_code 26 = .ok (.getfield 424, 3) by decide +kernel) (by decide) (r0 := ("StyleCourtModel", xF13, 85)) rfl (by decide) rfl w_1149) ?_
  refine xA (ok_iconst hC (show decode prog_14_method_54_code 29 = .ok (.iconst 1, 1) by decide +kernel) (by decide)) ?_
  refine xA (ok_iadd hC (show decode prog_14_method_54_code 30 = .ok (.iadd, 1) by decide +kernel)) ?_
  refine xA (ok_put hC (show decode prog_14_method_54_code 31 = .ok (.putfield 424, 3) by decide +kernel) (by decide) (r0 := ("StyleCourtModel", xF13, 85)) rfl (by decide) rfl (by decide +kernel) w_1149) ?_
  refine xA (ok_iinc hC (show decode prog_14_method_54_code 34 = .ok (.iinc 3 1, 3) by decide +kernel) (by decide) (by decide)) ?_
  refine xA (ok_goto hC (show decode prog_14_method_54_code 37 = .ok (.goto (-35), 3) by decide +kernel) (by decide)) ?_
  refine xA (ok_vret hC hr (show decode prog_14_method_54_code 40 = .ok (.return_, 1) by decide +kernel)) ?_
  exact trivial

def tb_Mo_select (X : xX) : List (Nat × xOp) := [(0, o_ald 0 1),
  (1, o_ic 30000 4),
  (4, o_callV X.l X.D X.P 13 0 2 y_Mo_take 7),
  (7, o_ald 0 8),
  (8, o_get 13 51 11),
  (11, o_ist 1 12),
  (12, o_ald 0 13),
  (13, o_get 13 52 16),
  (16, o_ist 2 17),
  (17, o_ald 0 18),
  (18, o_ic 0 19),
  (19, o_put 13 47 (.int) 22),
  (22, o_ald 0 23),
  (23, o_callV X.l X.D X.P 13 1 1 y_Mo_next 26),
  (26, o_ald 0 27),
  (27, o_ic 121 29),
  (29, o_callV X.l X.D X.P 13 5 2 y_Mo_selector 32),
  (32, o_ald 0 33),
  (33, o_get 13 6 36),
  (36, o_ifge 55 39),
  (39, o_ald 0 40),
  (40, o_get 13 45 43),
  (43, o_ic 5 44),
  (44, o_iceq 55 47),
  (47, o_ald 0 48),
  (48, o_ald 0 49),
  (49, o_get 13 46 52),
  (52, o_callV X.l X.D X.P 13 0 2 y_Mo_wrong 55),
  (55, o_ald 0 56),
  (56, o_ald 0 57),
  (57, o_get 13 6 60),
  (60, o_put 13 5 (.int) 63),
  (63, o_ald 0 64),
  (64, o_get 13 6 67),
  (67, o_ifge 135 70),
  (70, o_ald 0 71),
  (71, o_ic 0 72),
  (72, o_put 13 42 (.int) 75),
  (75, o_ic 0 76),
  (76, o_ist 3 77),
  (77, o_ild 3 78),
  (78, o_ald 0 79),
  (79, o_get 13 10 82),
  (82, o_icge 124 85),
  (85, o_ald 0 86),
  (86, o_ic 121 88),
  (88, o_ild 3 89),
  (89, o_callV X.l X.D X.P 13 4 3 y_Mo_selectorFits 92),
  (92, o_ifne 98 95),
  (95, o_goto 118),
  (98, o_ald 0 99),
  (99, o_get 13 43 102),
  (102, o_ald 0 103),
  (103, o_get 13 42 106),
  (106, o_ild 3 107),
  (107, o_iast 0 108),
  (108, o_ald 0 109),
  (109, o_dup 110),
  (110, o_get 13 42 113),
  (113, o_ic 1 114),
  (114, o_iadd 115),
  (115, o_put 13 42 (.int) 118),
  (118, o_inc 3 1 121),
  (121, o_goto 77),
  (124, o_ald 0 125),
  (125, o_ald 0 126),
  (126, o_get 13 56 129),
  (129, o_ic 121 131),
  (131, o_ld 0 132),
  (132, o_put 13 84 (.int) 135),
  (135, o_ald 0 136),
  (136, o_ild 1 137),
  (137, o_put 13 51 (.int) 140),
  (140, o_ald 0 141),
  (141, o_ild 2 142),
  (142, o_put 13 52 (.int) 145),
  (145, o_ald 0 146),
  (146, o_get 13 6 149),
  (149, o_iflt 158 152),
  (152, o_ald 0 153),
  (153, o_ic 1 154),
  (154, o_callV X.l X.D X.P 13 0 2 y_Mo_refuse 157),
  (157, o_iret X.P),
  (158, o_ald 0 159),
  (159, o_ic 0 160),
  (160, o_put 13 0 (.int) 163),
  (163, o_ald 0 164),
  (164, o_get 13 42 167),
  (167, o_iret X.P)]
theorem tk_Mo_select {X : xX} (hC : xCx X prog_14_method_57_code "StyleCourtModel" 4 6) (hr : X.meth.sig.returnType = (some .int)) (hnh : X.c.exceptionTable.isEmpty = true) (hin : X.meth.name = "select") : xAll X (tb_Mo_select X) := by
  refine xA (ok_aload_n hC (show decode prog_14_method_57_code 0 = .ok (.aload_n 0, 1) by decide +kernel) rfl) ?_
  refine xA (ok_sipush hC (show decode prog_14_method_57_code 1 = .ok (.sipush 30000, 3) by decide +kernel) (by decide)) ?_
  refine xA (ok_callV hC hnh (show decode prog_14_method_57_code 4 = .ok (.invokevirtual 305, 3) by decide +kernel) (by decide) (by decide) (by decide) (r0 := ("StyleCourtModel", xF13, 85)) rfl ⟨by decide, by decide, by decide +kernel⟩ w_1432 w_83 w_1429 w_1431 w_27) ?_
  refine xA (ok_aload_n hC (show decode prog_14_method_57_code 7 = .ok (.aload_n 0, 1) by decide +kernel) rfl) ?_
  refine xA (ok_get hC (show decode prog_14_method_57_code 8 = .ok (.getfield 357, 3) by decide +kernel) (by decide) (r0 := ("StyleCourtModel", xF13, 85)) rfl (by decide) rfl w_1196) ?_
  refine xA (ok_istore_n hC (show decode prog_14_method_57_code 11 = .ok (.istore_n 1, 1) by decide +kernel) rfl (by decide)) ?_
  refine xA (ok_aload_n hC (show decode prog_14_method_57_code 12 = .ok (.aload_n 0, 1) by decide +kernel) rfl) ?_
  refine xA (ok_get hC (show decode prog_14_method_57_code 13 = .ok (.getfield 341, 3) by decide +kernel) (by decide) (r0 := ("StyleCourtModel", xF13, 85)) rfl (by decide) rfl w_1197) ?_
  refine xA (ok_istore_n hC (show decode prog_14_method_57_code 16 = .ok (.istore_n 2, 1) by decide +kernel) rfl (by decide)) ?_
  refine xA (ok_aload_n hC (show decode prog_14_method_57_code 17 = .ok (.aload_n 0, 1) by decide +kernel) rfl) ?_
  refine xA (ok_iconst hC (show decode prog_14_method_57_code 18 = .ok (.iconst 0, 1) by decide +kernel) (by decide)) ?_
  refine xA (ok_put hC (show decode prog_14_method_57_code 19 = .ok (.putfield 317, 3) by decide +kernel) (by decide) (r0 := ("StyleCourtModel", xF13, 85)) rfl (by decide) rfl (by decide +kernel) w_1192) ?_
  refine xA (ok_aload_n hC (show decode prog_14_method_57_code 22 = .ok (.aload_n 0, 1) by decide +kernel) rfl) ?_
  refine xA (ok_callV hC hnh (show decode prog_14_method_57_code 23 = .ok (.invokevirtual 335, 3) by decide +kernel) (by decide) (by decide) (by decide) (r0 := ("StyleCourtModel", xF13, 85)) rfl ⟨by decide, by decide, by decide +kernel⟩ w_1527 w_83 w_1524 w_1526 w_47) ?_
  refine xA (ok_aload_n hC (show decode prog_14_method_57_code 26 = .ok (.aload_n 0, 1) by decide +kernel) rfl) ?_
  refine xA (ok_bipush hC (show decode prog_14_method_57_code 27 = .ok (.bipush 121, 2) by decide +kernel) (by decide)) ?_
  refine xA (ok_callV hC hnh (show decode prog_14_method_57_code 29 = .ok (.invokevirtual 385, 3) by decide +kernel) (by decide) (by decide) (by decide) (r0 := ("StyleCourtModel", xF13, 85)) rfl ⟨by decide, by decide, by decide +kernel⟩ w_1531 w_83 w_1528 w_1530 w_48) ?_
  refine xA (ok_aload_n hC (show decode prog_14_method_57_code 32 = .ok (.aload_n 0, 1) by decide +kernel) rfl) ?_
  refine xA (ok_get hC (show decode prog_14_method_57_code 33 = .ok (.getfield 211, 3) by decide +kernel) (by decide) (r0 := ("StyleCourtModel", xF13, 85)) rfl (by decide) rfl w_1151) ?_
  refine xA (ok_ifge hC (show decode prog_14_method_57_code 36 = .ok (.ifCond .ge 19, 3) by decide +kernel) (by decide)) ?_
  refine xA (ok_aload_n hC (show decode prog_14_method_57_code 39 = .ok (.aload_n 0, 1) by decide +kernel) rfl) ?_
  refine xA (ok_get hC (show decode prog_14_method_57_code 40 = .ok (.getfield 326, 3) by decide +kernel) (by decide) (r0 := ("StyleCourtModel", xF13, 85)) rfl (by decide) rfl w_1190) ?_
  refine xA (ok_iconst hC (show decode prog_14_method_57_code 43 = .ok (.iconst 5, 1) by decide +kernel) (by decide)) ?_
  refine xA (ok_iceq hC (show decode prog_14_method_57_code 44 = .ok (.if_icmp .eq 11, 3) by decide +kernel) (by decide)) ?_
  refine xA (ok_aload_n hC (show decode prog_14_method_57_code 47 = .ok (.aload_n 0, 1) by decide +kernel) rfl) ?_
  refine xA (ok_aload_n hC (show decode prog_14_method_57_code 48 = .ok (.aload_n 0, 1) by decide +kernel) rfl) ?_
  refine xA (ok_get hC (show decode prog_14_method_57_code 49 = .ok (.getfield 320, 3) by decide +kernel) (by decide) (r0 := ("StyleCourtModel", xF13, 85)) rfl (by decide) rfl w_1191) ?_
  refine xA (ok_callV hC hnh (show decode prog_14_method_57_code 52 = .ok (.invokevirtual 221, 3) by decide +kernel) (by decide) (by decide) (by decide) (r0 := ("StyleCourtModel", xF13, 85)) rfl ⟨by decide, by decide, by decide +kernel⟩ w_1448 w_83 w_1445 w_1447 w_31) ?_
  refine xA (ok_aload_n hC (show decode prog_14_method_57_code 55 = .ok (.aload_n 0, 1) by decide +kernel) rfl) ?_
  refine xA (ok_aload_n hC (show decode prog_14_method_57_code 56 = .ok (.aload_n 0, 1) by decide +kernel) rfl) ?_
  refine xA (ok_get hC (show decode prog_14_method_57_code 57 = .ok (.getfield 211, 3) by decide +kernel) (by decide) (r0 := ("StyleCourtModel", xF13, 85)) rfl (by decide) rfl w_1151) ?_
  refine xA (ok_put hC (show decode prog_14_method_57_code 60 = .ok (.putfield 16, 3) by decide +kernel) (by decide) (r0 := ("StyleCourtModel", xF13, 85)) rfl (by decide) rfl (by decide +kernel) w_1150) ?_
  refine xA (ok_aload_n hC (show decode prog_14_method_57_code 63 = .ok (.aload_n 0, 1) by decide +kernel) rfl) ?_
  refine xA (ok_get hC (show decode prog_14_method_57_code 64 = .ok (.getfield 211, 3) by decide +kernel) (by decide) (r0 := ("StyleCourtModel", xF13, 85)) rfl (by decide) rfl w_1151) ?_
  refine xA (ok_ifge hC (show decode prog_14_method_57_code 67 = .ok (.ifCond .ge 68, 3) by decide +kernel) (by decide)) ?_
  refine xA (ok_aload_n hC (show decode prog_14_method_57_code 70 = .ok (.aload_n 0, 1) by decide +kernel) rfl) ?_
  refine xA (ok_iconst hC (show decode prog_14_method_57_code 71 = .ok (.iconst 0, 1) by decide +kernel) (by decide)) ?_
  refine xA (ok_put hC (show decode prog_14_method_57_code 72 = .ok (.putfield 314, 3) by decide +kernel) (by decide) (r0 := ("StyleCourtModel", xF13, 85)) rfl (by decide) rfl (by decide +kernel) w_1187) ?_
  refine xA (ok_iconst hC (show decode prog_14_method_57_code 75 = .ok (.iconst 0, 1) by decide +kernel) (by decide)) ?_
  refine xA (ok_istore_n hC (show decode prog_14_method_57_code 76 = .ok (.istore_n 3, 1) by decide +kernel) rfl (by decide)) ?_
  refine xA (ok_iload_n hC (show decode prog_14_method_57_code 77 = .ok (.iload_n 3, 1) by decide +kernel) rfl) ?_
  refine xA (ok_aload_n hC (show decode prog_14_method_57_code 78 = .ok (.aload_n 0, 1) by decide +kernel) rfl) ?_
  refine xA (ok_get hC (show decode prog_14_method_57_code 79 = .ok (.getfield 311, 3) by decide +kernel) (by decide) (r0 := ("StyleCourtModel", xF13, 85)) rfl (by decide) rfl w_1155) ?_
  refine xA (ok_icge hC (show decode prog_14_method_57_code 82 = .ok (.if_icmp .ge 42, 3) by decide +kernel) (by decide)) ?_
  refine xA (ok_aload_n hC (show decode prog_14_method_57_code 85 = .ok (.aload_n 0, 1) by decide +kernel) rfl) ?_
  refine xA (ok_bipush hC (show decode prog_14_method_57_code 86 = .ok (.bipush 121, 2) by decide +kernel) (by decide)) ?_
  refine xA (ok_iload_n hC (show decode prog_14_method_57_code 88 = .ok (.iload_n 3, 1) by decide +kernel) rfl) ?_
  refine xA (ok_callV hC hnh (show decode prog_14_method_57_code 89 = .ok (.invokevirtual 410, 3) by decide +kernel) (by decide) (by decide) (by decide) (r0 := ("StyleCourtModel", xF13, 85)) rfl ⟨by decide, by decide, by decide +kernel⟩ w_1597 w_83 w_1594 w_1596 w_61) ?_
  refine xA (ok_ifne hC (show decode prog_14_method_57_code 92 = .ok (.ifCond .ne 6, 3) by decide +kernel) (by decide)) ?_
  refine xA (ok_goto hC (show decode prog_14_method_57_code 95 = .ok (.goto 23, 3) by decide +kernel) (by decide)) ?_
  refine xA (ok_aload_n hC (show decode prog_14_method_57_code 98 = .ok (.aload_n 0, 1) by decide +kernel) rfl) ?_
  refine xA (ok_get hC (show decode prog_14_method_57_code 99 = .ok (.getfield 100, 3) by decide +kernel) (by decide) (r0 := ("StyleCourtModel", xF13, 85)) rfl (by decide) rfl w_1188) ?_
  refine xA (ok_aload_n hC (show decode prog_14_method_57_code 102 = .ok (.aload_n 0, 1) by decide +kernel) rfl) ?_
  refine xA (ok_get hC (show decode prog_14_method_57_code 103 = .ok (.getfield 314, 3) by decide +kernel) (by decide) (r0 := ("StyleCourtModel", xF13, 85)) rfl (by decide) rfl w_1187) ?_
  refine xA (ok_iload_n hC (show decode prog_14_method_57_code 106 = .ok (.iload_n 3, 1) by decide +kernel) rfl) ?_
  refine xA (ok_iast hC (show decode prog_14_method_57_code 107 = .ok (.iastore, 1) by decide +kernel) (by decide) rfl) ?_
  refine xA (ok_aload_n hC (show decode prog_14_method_57_code 108 = .ok (.aload_n 0, 1) by decide +kernel) rfl) ?_
  refine xA (ok_dup hC (show decode prog_14_method_57_code 109 = .ok (.dup, 1) by decide +kernel)) ?_
  refine xA (ok_get hC (show decode prog_14_method_57_code 110 = .ok (.getfield 314, 3) by decide +kernel) (by decide) (r0 := ("StyleCourtModel", xF13, 85)) rfl (by decide) rfl w_1187) ?_
  refine xA (ok_iconst hC (show decode prog_14_method_57_code 113 = .ok (.iconst 1, 1) by decide +kernel) (by decide)) ?_
  refine xA (ok_iadd hC (show decode prog_14_method_57_code 114 = .ok (.iadd, 1) by decide +kernel)) ?_
  refine xA (ok_put hC (show decode prog_14_method_57_code 115 = .ok (.putfield 314, 3) by decide +kernel) (by decide) (r0 := ("StyleCourtModel", xF13, 85)) rfl (by decide) rfl (by decide +kernel) w_1187) ?_
  refine xA (ok_iinc hC (show decode prog_14_method_57_code 118 = .ok (.iinc 3 1, 3) by decide +kernel) (by decide) (by decide)) ?_
  refine xA (ok_goto hC (show decode prog_14_method_57_code 121 = .ok (.goto (-44), 3) by decide +kernel) (by decide)) ?_
  refine xA (ok_aload_n hC (show decode prog_14_method_57_code 124 = .ok (.aload_n 0, 1) by decide +kernel) rfl) ?_
  refine xA (ok_aload_n hC (show decode prog_14_method_57_code 125 = .ok (.aload_n 0, 1) by decide +kernel) rfl) ?_
  refine xA (ok_get hC (show decode prog_14_method_57_code 126 = .ok (.getfield 112, 3) by decide +kernel) (by decide) (r0 := ("StyleCourtModel", xF13, 85)) rfl (by decide) rfl w_1201) ?_
  refine xA (ok_bipush hC (show decode prog_14_method_57_code 129 = .ok (.bipush 121, 2) by decide +kernel) (by decide)) ?_
  refine xA (ok_iald hC (show decode prog_14_method_57_code 131 = .ok (.iaload, 1) by decide +kernel) (by decide) rfl) ?_
  refine xA (ok_put hC (show decode prog_14_method_57_code 132 = .ok (.putfield 446, 3) by decide +kernel) (by decide) (r0 := ("StyleCourtModel", xF13, 85)) rfl (by decide) rfl (by decide +kernel) w_1229) ?_
  refine xA (ok_aload_n hC (show decode prog_14_method_57_code 135 = .ok (.aload_n 0, 1) by decide +kernel) rfl) ?_
  refine xA (ok_iload_n hC (show decode prog_14_method_57_code 136 = .ok (.iload_n 1, 1) by decide +kernel) rfl) ?_
  refine xA (ok_put hC (show decode prog_14_method_57_code 137 = .ok (.putfield 357, 3) by decide +kernel) (by decide) (r0 := ("StyleCourtModel", xF13, 85)) rfl (by decide) rfl (by decide +kernel) w_1196) ?_
  refine xA (ok_aload_n hC (show decode prog_14_method_57_code 140 = .ok (.aload_n 0, 1) by decide +kernel) rfl) ?_
  refine xA (ok_iload_n hC (show decode prog_14_method_57_code 141 = .ok (.iload_n 2, 1) by decide +kernel) rfl) ?_
  refine xA (ok_put hC (show decode prog_14_method_57_code 142 = .ok (.putfield 341, 3) by decide +kernel) (by decide) (r0 := ("StyleCourtModel", xF13, 85)) rfl (by decide) rfl (by decide +kernel) w_1197) ?_
  refine xA (ok_aload_n hC (show decode prog_14_method_57_code 145 = .ok (.aload_n 0, 1) by decide +kernel) rfl) ?_
  refine xA (ok_get hC (show decode prog_14_method_57_code 146 = .ok (.getfield 211, 3) by decide +kernel) (by decide) (r0 := ("StyleCourtModel", xF13, 85)) rfl (by decide) rfl w_1151) ?_
  refine xA (ok_iflt hC (show decode prog_14_method_57_code 149 = .ok (.ifCond .lt 9, 3) by decide +kernel) (by decide)) ?_
  refine xA (ok_aload_n hC (show decode prog_14_method_57_code 152 = .ok (.aload_n 0, 1) by decide +kernel) rfl) ?_
  refine xA (ok_iconst hC (show decode prog_14_method_57_code 153 = .ok (.iconst 1, 1) by decide +kernel) (by decide)) ?_
  refine xA (ok_callV hC hnh (show decode prog_14_method_57_code 154 = .ok (.invokevirtual 193, 3) by decide +kernel) (by decide) (by decide) (by decide) (r0 := ("StyleCourtModel", xF13, 85)) rfl ⟨by decide, by decide, by decide +kernel⟩ w_1413 w_83 w_1410 w_1412 w_25) ?_
  refine xA (ok_iret hC hr (show decode prog_14_method_57_code 157 = .ok (.ireturn, 1) by decide +kernel)) ?_
  refine xA (ok_aload_n hC (show decode prog_14_method_57_code 158 = .ok (.aload_n 0, 1) by decide +kernel) rfl) ?_
  refine xA (ok_iconst hC (show decode prog_14_method_57_code 159 = .ok (.iconst 0, 1) by decide +kernel) (by decide)) ?_
  refine xA (ok_put hC (show decode prog_14_method_57_code 160 = .ok (.putfield 187, 3) by decide +kernel) (by decide) (r0 := ("StyleCourtModel", xF13, 85)) rfl (by decide) rfl (by decide +kernel) w_1145) ?_
  refine xA (ok_aload_n hC (show decode prog_14_method_57_code 163 = .ok (.aload_n 0, 1) by decide +kernel) rfl) ?_
  refine xA (ok_get hC (show decode prog_14_method_57_code 164 = .ok (.getfield 314, 3) by decide +kernel) (by decide) (r0 := ("StyleCourtModel", xF13, 85)) rfl (by decide) rfl w_1187) ?_
  refine xA (ok_iret hC hr (show decode prog_14_method_57_code 167 = .ok (.ireturn, 1) by decide +kernel)) ?_
  exact trivial

def tb_Mo_found (X : xX) : List (Nat × xOp) := [(0, o_ild 1 1),
  (1, o_ic 0 2),
  (2, o_ald 0 3),
  (3, o_get 13 42 6),
  (6, o_ic 1 7),
  (7, o_isub 8),
  (8, o_callS X.l X.D X.P 0 3 y_Mo_in 11),
  (11, o_ifne 20 14),
  (14, o_ald 0 15),
  (15, o_ic 1 16),
  (16, o_callV X.l X.D X.P 13 0 2 y_Mo_refuse 19),
  (19, o_iret X.P),
  (20, o_ald 0 21),
  (21, o_ic 0 22),
  (22, o_put 13 0 (.int) 25),
  (25, o_ald 0 26),
  (26, o_get 13 43 29),
  (29, o_ild 1 30),
  (30, o_ld 0 31),
  (31, o_iret X.P)]
theorem tk_Mo_found {X : xX} (hC : xCx X prog_14_method_58_code "StyleCourtModel" 2 1) (hr : X.meth.sig.returnType = (some .int)) (hnh : X.c.exceptionTable.isEmpty = true) (hin : X.meth.name = "found") : xAll X (tb_Mo_found X) := by
  refine xA (ok_iload_n hC (show decode prog_14_method_58_code 0 = .ok (.iload_n 1, 1) by decide +kernel) rfl) ?_
  refine xA (ok_iconst hC (show decode prog_14_method_58_code 1 = .ok (.iconst 0, 1) by decide +kernel) (by decide)) ?_
  refine xA (ok_aload_n hC (show decode prog_14_method_58_code 2 = .ok (.aload_n 0, 1) by decide +kernel) rfl) ?_
  refine xA (ok_get hC (show decode prog_14_method_58_code 3 = .ok (.getfield 314, 3) by decide +kernel) (by decide) (r0 := ("StyleCourtModel", xF13, 85)) rfl (by decide) rfl w_1187) ?_
  refine xA (ok_iconst hC (show decode prog_14_method_58_code 6 = .ok (.iconst 1, 1) by decide +kernel) (by decide)) ?_
  refine xA (ok_isub hC (show decode prog_14_method_58_code 7 = .ok (.isub, 1) by decide +kernel)) ?_
  refine xA (ok_callS (hh := []) hC hnh (show decode prog_14_method_58_code 8 = .ok (.invokestatic 201, 3) by decide +kernel) (by decide) (by decide) ⟨by decide, by decide, by decide +kernel⟩ (Or.inl w_1424) w_83 w_1422 w_1423) ?_
  refine xA (ok_ifne hC (show decode prog_14_method_58_code 11 = .ok (.ifCond .ne 9, 3) by decide +kernel) (by decide)) ?_
  refine xA (ok_aload_n hC (show decode prog_14_method_58_code 14 = .ok (.aload_n 0, 1) by decide +kernel) rfl) ?_
  refine xA (ok_iconst hC (show decode prog_14_method_58_code 15 = .ok (.iconst 1, 1) by decide +kernel) (by decide)) ?_
  refine xA (ok_callV hC hnh (show decode prog_14_method_58_code 16 = .ok (.invokevirtual 193, 3) by decide +kernel) (by decide) (by decide) (by decide) (r0 := ("StyleCourtModel", xF13, 85)) rfl ⟨by decide, by decide, by decide +kernel⟩ w_1413 w_83 w_1410 w_1412 w_25) ?_
  refine xA (ok_iret hC hr (show decode prog_14_method_58_code 19 = .ok (.ireturn, 1) by decide +kernel)) ?_
  refine xA (ok_aload_n hC (show decode prog_14_method_58_code 20 = .ok (.aload_n 0, 1) by decide +kernel) rfl) ?_
  refine xA (ok_iconst hC (show decode prog_14_method_58_code 21 = .ok (.iconst 0, 1) by decide +kernel) (by decide)) ?_
  refine xA (ok_put hC (show decode prog_14_method_58_code 22 = .ok (.putfield 187, 3) by decide +kernel) (by decide) (r0 := ("StyleCourtModel", xF13, 85)) rfl (by decide) rfl (by decide +kernel) w_1145) ?_
  refine xA (ok_aload_n hC (show decode prog_14_method_58_code 25 = .ok (.aload_n 0, 1) by decide +kernel) rfl) ?_
  refine xA (ok_get hC (show decode prog_14_method_58_code 26 = .ok (.getfield 100, 3) by decide +kernel) (by decide) (r0 := ("StyleCourtModel", xF13, 85)) rfl (by decide) rfl w_1188) ?_
  refine xA (ok_iload_n hC (show decode prog_14_method_58_code 29 = .ok (.iload_n 1, 1) by decide +kernel) rfl) ?_
  refine xA (ok_iald hC (show decode prog_14_method_58_code 30 = .ok (.iaload, 1) by decide +kernel) (by decide) rfl) ?_
  refine xA (ok_iret hC hr (show decode prog_14_method_58_code 31 = .ok (.ireturn, 1) by decide +kernel)) ?_
  exact trivial

def tb_Mo_fits (X : xX) : List (Nat × xOp) := [(0, o_ild 1 1),
  (1, o_ic 0 2),
  (2, o_ald 0 3),
  (3, o_get 13 50 6),
  (6, o_ic 1 7),
  (7, o_isub 8),
  (8, o_callS X.l X.D X.P 0 3 y_Mo_in 11),
  (11, o_ifeq 22 14),
  (14, o_ald 0 15),
  (15, o_ild 2 16),
  (16, o_callV X.l X.D X.P 13 1 2 y_Mo_isThere 19),
  (19, o_ifne 28 22),
  (22, o_ald 0 23),
  (23, o_ic 1 24),
  (24, o_callV X.l X.D X.P 13 0 2 y_Mo_refuse 27),
  (27, o_iret X.P),
  (28, o_ald 0 29),
  (29, o_ic 0 30),
  (30, o_put 13 0 (.int) 33),
  (33, o_ald 0 34),
  (34, o_ild 1 35),
  (35, o_ild 2 36),
  (36, o_callV X.l X.D X.P 13 4 3 y_Mo_selectorFits 39),
  (39, o_ifeq 46 42),
  (42, o_ic 1 43),
  (43, o_goto 47),
  (46, o_ic 0 47),
  (47, o_iret X.P)]
theorem tk_Mo_fits {X : xX} (hC : xCx X prog_14_method_59_code "StyleCourtModel" 3 5) (hr : X.meth.sig.returnType = (some .int)) (hnh : X.c.exceptionTable.isEmpty = true) (hin : X.meth.name = "fits") : xAll X (tb_Mo_fits X) := by
  refine xA (ok_iload_n hC (show decode prog_14_method_59_code 0 = .ok (.iload_n 1, 1) by decide +kernel) rfl) ?_
  refine xA (ok_iconst hC (show decode prog_14_method_59_code 1 = .ok (.iconst 0, 1) by decide +kernel) (by decide)) ?_
  refine xA (ok_aload_n hC (show decode prog_14_method_59_code 2 = .ok (.aload_n 0, 1) by decide +kernel) rfl) ?_
  refine xA (ok_get hC (show decode prog_14_method_59_code 3 = .ok (.getfield 382, 3) by decide +kernel) (by decide) (r0 := ("StyleCourtModel", xF13, 85)) rfl (by decide) rfl w_1195) ?_
  refine xA (ok_iconst hC (show decode prog_14_method_59_code 6 = .ok (.iconst 1, 1) by decide +kernel) (by decide)) ?_
  refine xA (ok_isub hC (show decode prog_14_method_59_code 7 = .ok (.isub, 1) by decide +kernel)) ?_
  refine xA (ok_callS (hh := []) hC hnh (show decode prog_14_method_59_code 8 = .ok (.invokestatic 201, 3) by decide +kernel) (by decide) (by decide) ⟨by decide, by decide, by decide +kernel⟩ (Or.inl w_1424) w_83 w_1422 w_1423) ?_
  refine xA (ok_ifeq hC (show decode prog_14_method_59_code 11 = .ok (.ifCond .eq 11, 3) by decide +kernel) (by decide)) ?_
  refine xA (ok_aload_n hC (show decode prog_14_method_59_code 14 = .ok (.aload_n 0, 1) by decide +kernel) rfl) ?_
  refine xA (ok_iload_n hC (show decode prog_14_method_59_code 15 = .ok (.iload_n 2, 1) by decide +kernel) rfl) ?_
  refine xA (ok_callV hC hnh (show decode prog_14_method_59_code 16 = .ok (.invokevirtual 418, 3) by decide +kernel) (by decide) (by decide) (by decide) (r0 := ("StyleCourtModel", xF13, 85)) rfl ⟨by decide, by decide, by decide +kernel⟩ w_1589 w_83 w_1586 w_1588 w_59) ?_
  refine xA (ok_ifne hC (show decode prog_14_method_59_code 19 = .ok (.ifCond .ne 9, 3) by decide +kernel) (by decide)) ?_
  refine xA (ok_aload_n hC (show decode prog_14_method_59_code 22 = .ok (.aload_n 0, 1) by decide +kernel) rfl) ?_
  refine xA (ok_iconst hC (show decode prog_14_method_59_code 23 = .ok (.iconst 1, 1) by decide +kernel) (by decide)) ?_
  refine xA (ok_callV hC hnh (show decode prog_14_method_59_code 24 = .ok (.invokevirtual 193, 3) by decide +kernel) (by decide) (by decide) (by decide) (r0 := ("StyleCourtModel", xF13, 85)) rfl ⟨by decide, by decide, by decide +kernel⟩ w_1413 w_83 w_1410 w_1412 w_25) ?_
  refine xA (ok_iret hC hr (show decode prog_14_method_59_code 27 = .ok (.ireturn, 1) by decide +kernel)) ?_
  refine xA (ok_aload_n hC (show decode prog_14_method_59_code 28 = .ok (.aload_n 0, 1) by decide +kernel) rfl) ?_
  refine xA (ok_iconst hC (show decode prog_14_method_59_code 29 = .ok (.iconst 0, 1) by decide +kernel) (by decide)) ?_
  refine xA (ok_put hC (show decode prog_14_method_59_code 30 = .ok (.putfield 187, 3) by decide +kernel) (by decide) (r0 := ("StyleCourtModel", xF13, 85)) rfl (by decide) rfl (by decide +kernel) w_1145) ?_
  refine xA (ok_aload_n hC (show decode prog_14_method_59_code 33 = .ok (.aload_n 0, 1) by decide +kernel) rfl) ?_
  refine xA (ok_iload_n hC (show decode prog_14_method_59_code 34 = .ok (.iload_n 1, 1) by decide +kernel) rfl) ?_
  refine xA (ok_iload_n hC (show decode prog_14_method_59_code 35 = .ok (.iload_n 2, 1) by decide +kernel) rfl) ?_
  refine xA (ok_callV hC hnh (show decode prog_14_method_59_code 36 = .ok (.invokevirtual 410, 3) by decide +kernel) (by decide) (by decide) (by decide) (r0 := ("StyleCourtModel", xF13, 85)) rfl ⟨by decide, by decide, by decide +kernel⟩ w_1597 w_83 w_1594 w_1596 w_61) ?_
  refine xA (ok_ifeq hC (show decode prog_14_method_59_code 39 = .ok (.ifCond .eq 7, 3) by decide +kernel) (by decide)) ?_
  refine xA (ok_iconst hC (show decode prog_14_method_59_code 42 = .ok (.iconst 1, 1) by decide +kernel) (by decide)) ?_
  refine xA (ok_goto hC (show decode prog_14_method_59_code 43 = .ok (.goto 4, 3) by decide +kernel) (by decide)) ?_
  refine xA (ok_iconst hC (show decode prog_14_method_59_code 46 = .ok (.iconst 0, 1) by decide +kernel) (by decide)) ?_
  refine xA (ok_iret hC hr (show decode prog_14_method_59_code 47 = .ok (.ireturn, 1) by decide +kernel)) ?_
  exact trivial

def tb_Mo_element (X : xX) : List (Nat × xOp) := [(0, o_ald 0 1),
  (1, o_ild 1 2),
  (2, o_callV X.l X.D X.P 13 1 2 y_Mo_isThere 5),
  (5, o_ifeq 18 8),
  (8, o_ild 2 9),
  (9, o_ic 0 10),
  (10, o_ic 8 12),
  (12, o_callS X.l X.D X.P 0 3 y_Mo_in 15),
  (15, o_ifne 24 18),
  (18, o_ald 0 19),
  (19, o_ic 1 20),
  (20, o_callV X.l X.D X.P 13 0 2 y_Mo_refuse 23),
  (23, o_iret X.P),
  (24, o_ald 0 25),
  (25, o_ic 0 26),
  (26, o_put 13 0 (.int) 29),
  (29, o_ild 2 30),
  (30, o_ifne 40 33),
  (33, o_ald 0 34),
  (34, o_get 13 17 37),
  (37, o_ild 1 38),
  (38, o_ld 0 39),
  (39, o_iret X.P),
  (40, o_ild 2 41),
  (41, o_ic 1 42),
  (42, o_icne 52 45),
  (45, o_ald 0 46),
  (46, o_get 13 14 49),
  (49, o_ild 1 50),
  (50, o_ld 0 51),
  (51, o_iret X.P),
  (52, o_ild 2 53),
  (53, o_ic 2 54),
  (54, o_icne 64 57),
  (57, o_ald 0 58),
  (58, o_get 13 15 61),
  (61, o_ild 1 62),
  (62, o_ld 0 63),
  (63, o_iret X.P),
  (64, o_ild 2 65),
  (65, o_ic 3 66),
  (66, o_icne 76 69),
  (69, o_ald 0 70),
  (70, o_get 13 16 73),
  (73, o_ild 1 74),
  (74, o_ld 0 75),
  (75, o_iret X.P),
  (76, o_ild 2 77),
  (77, o_ic 4 78),
  (78, o_icne 88 81),
  (81, o_ald 0 82),
  (82, o_get 13 18 85),
  (85, o_ild 1 86),
  (86, o_ld 0 87),
  (87, o_iret X.P),
  (88, o_ild 2 89),
  (89, o_ic 5 90),
  (90, o_icne 100 93),
  (93, o_ald 0 94),
  (94, o_get 13 19 97),
  (97, o_ild 1 98),
  (98, o_ld 0 99),
  (99, o_iret X.P),
  (100, o_ild 2 101),
  (101, o_ic 6 103),
  (103, o_icne 121 106),
  (106, o_ald 0 107),
  (107, o_get 13 25 110),
  (110, o_ild 1 111),
  (111, o_ld 3 112),
  (112, o_ifeq 119 115),
  (115, o_ic 1 116),
  (116, o_goto 120),
  (119, o_ic 0 120),
  (120, o_iret X.P),
  (121, o_ild 2 122),
  (122, o_ic 7 124),
  (124, o_icne 136 127),
  (127, o_ald 0 128),
  (128, o_get 13 20 131),
  (131, o_ild 1 132),
  (132, o_ld 0 133),
  (133, o_goto 142),
  (136, o_ald 0 137),
  (137, o_get 13 21 140),
  (140, o_ild 1 141),
  (141, o_ld 0 142),
  (142, o_iret X.P)]
theorem tk_Mo_element {X : xX} (hC : xCx X prog_14_method_60_code "StyleCourtModel" 3 2) (hr : X.meth.sig.returnType = (some .int)) (hnh : X.c.exceptionTable.isEmpty = true) (hin : X.meth.name = "element") : xAll X (tb_Mo_element X) := by
  refine xA (ok_aload_n hC (show decode prog_14_method_60_code 0 = .ok (.aload_n 0, 1) by decide +kernel) rfl) ?_
  refine xA (ok_iload_n hC (show decode prog_14_method_60_code 1 = .ok (.iload_n 1, 1) by decide +kernel) rfl) ?_
  refine xA (ok_callV hC hnh (show decode prog_14_method_60_code 2 = .ok (.invokevirtual 418, 3) by decide +kernel) (by decide) (by decide) (by decide) (r0 := ("StyleCourtModel", xF13, 85)) rfl ⟨by decide, by decide, by decide +kernel⟩ w_1589 w_83 w_1586 w_1588 w_59) ?_
  refine xA (ok_ifeq hC (show decode prog_14_method_60_code 5 = .ok (.ifCond .eq 13, 3) by decide +kernel) (by decide)) ?_
  refine xA (ok_iload_n hC (show decode prog_14_method_60_code 8 = .ok (.iload_n 2, 1) by decide +kernel) rfl) ?_
  refine xA (ok_iconst hC (show decode prog_14_method_60_code 9 = .ok (.iconst 0, 1) by decide +kernel) (by decide)) ?_
  refine xA (ok_bipush hC (show decode prog_14_method_60_code 10 = .ok (.bipush 8, 2) by decide +kernel) (by decide)) ?_
  refine xA (ok_callS (hh := []) hC hnh (show decode prog_14_method_60_code 12 = .ok (.invokestatic 201, 3) by decide +kernel) (by decide) (by decide) ⟨by decide, by decide, by decide +kernel⟩ (Or.inl w_1424) w_83 w_1422 w_1423) ?_
  refine xA (ok_ifne hC (show decode prog_14_method_60_code 15 = .ok (.ifCond .ne 9, 3) by decide +kernel) (by decide)) ?_
  refine xA (ok_aload_n hC (show decode prog_14_method_60_code 18 = .ok (.aload_n 0, 1) by decide +kernel) rfl) ?_
  refine xA (ok_iconst hC (show decode prog_14_method_60_code 19 = .ok (.iconst 1, 1) by decide +kernel) (by decide)) ?_
  refine xA (ok_callV hC hnh (show decode prog_14_method_60_code 20 = .ok (.invokevirtual 193, 3) by decide +kernel) (by decide) (by decide) (by decide) (r0 := ("StyleCourtModel", xF13, 85)) rfl ⟨by decide, by decide, by decide +kernel⟩ w_1413 w_83 w_1410 w_1412 w_25) ?_
  refine xA (ok_iret hC hr (show decode prog_14_method_60_code 23 = .ok (.ireturn, 1) by decide +kernel)) ?_
  refine xA (ok_aload_n hC (show decode prog_14_method_60_code 24 = .ok (.aload_n 0, 1) by decide +kernel) rfl) ?_
  refine xA (ok_iconst hC (show decode prog_14_method_60_code 25 = .ok (.iconst 0, 1) by decide +kernel) (by decide)) ?_
  refine xA (ok_put hC (show decode prog_14_method_60_code 26 = .ok (.putfield 187, 3) by decide +kernel) (by decide) (r0 := ("StyleCourtModel", xF13, 85)) rfl (by decide) rfl (by decide +kernel) w_1145) ?_
  refine xA (ok_iload_n hC (show decode prog_14_method_60_code 29 = .ok (.iload_n 2, 1) by decide +kernel) rfl) ?_
  refine xA (ok_ifne hC (show decode prog_14_method_60_code 30 = .ok (.ifCond .ne 10, 3) by decide +kernel) (by decide)) ?_
  refine xA (ok_aload_n hC (show decode prog_14_method_60_code 33 = .ok (.aload_n 0, 1) by decide +kernel) rfl) ?_
  refine xA (ok_get hC (show decode prog_14_method_60_code 34 = .ok (.getfield 39, 3) by decide +kernel) (by decide) (r0 := ("StyleCourtModel", xF13, 85)) rfl (by decide) rfl w_1162) ?_
  refine xA (ok_iload_n hC (show decode prog_14_method_60_code 37 = .ok (.iload_n 1, 1) by decide +kernel) rfl) ?_
  refine xA (ok_iald hC (show decode prog_14_method_60_code 38 = .ok (.iaload, 1) by decide +kernel) (by decide) rfl) ?_
  refine xA (ok_iret hC hr (show decode prog_14_method_60_code 39 = .ok (.ireturn, 1) by decide +kernel)) ?_
  refine xA (ok_iload_n hC (show decode prog_14_method_60_code 40 = .ok (.iload_n 2, 1) by decide +kernel) rfl) ?_
  refine xA (ok_iconst hC (show decode prog_14_method_60_code 41 = .ok (.iconst 1, 1) by decide +kernel) (by decide)) ?_
  refine xA (ok_icne hC (show decode prog_14_method_60_code 42 = .ok (.if_icmp .ne 10, 3) by decide +kernel) (by decide)) ?_
  refine xA (ok_aload_n hC (show decode prog_14_method_60_code 45 = .ok (.aload_n 0, 1) by decide +kernel) rfl) ?_
  refine xA (ok_get hC (show decode prog_14_method_60_code 46 = .ok (.getfield 30, 3) by decide +kernel) (by decide) (r0 := ("StyleCourtModel", xF13, 85)) rfl (by decide) rfl w_1159) ?_
  refine xA (ok_iload_n hC (show decode prog_14_method_60_code 49 = .ok (.iload_n 1, 1) by decide +kernel) rfl) ?_
  refine xA (ok_iald hC (show decode prog_14_method_60_code 50 = .ok (.iaload, 1) by decide +kernel) (by decide) rfl) ?_
  refine xA (ok_iret hC hr (show decode prog_14_method_60_code 51 = .ok (.ireturn, 1) by decide +kernel)) ?_
  refine xA (ok_iload_n hC (show decode prog_14_method_60_code 52 = .ok (.iload_n 2, 1) by decide +kernel) rfl) ?_
  refine xA (ok_iconst hC (show decode prog_14_method_60_code 53 = .ok (.iconst 2, 1) by decide +kernel) (by decide)) ?_
  refine xA (ok_icne hC (show decode prog_14_method_60_code 54 = .ok (.if_icmp .ne 10, 3) by decide +kernel) (by decide)) ?_
  refine xA (ok_aload_n hC (show decode prog_14_method_60_code 57 = .ok (.aload_n 0, 1) by decide +kernel) rfl) ?_
  refine xA (ok_get hC (show decode prog_14_method_60_code 58 = .ok (.getfield 33, 3) by decide +kernel) (by decide) (r0 := ("StyleCourtModel", xF13, 85)) rfl (by decide) rfl w_1160) ?_
  refine xA (ok_iload_n hC (show decode prog_14_method_60_code 61 = .ok (.iload_n 1, 1) by decide +kernel) rfl) ?_
  refine xA (ok_iald hC (show decode prog_14_method_60_code 62 = .ok (.iaload, 1) by decide +kernel) (by decide) rfl) ?_
  refine xA (ok_iret hC hr (show decode prog_14_method_60_code 63 = .ok (.ireturn, 1) by decide +kernel)) ?_
  refine xA (ok_iload_n hC (show decode prog_14_method_60_code 64 = .ok (.iload_n 2, 1) by decide +kernel) rfl) ?_
  refine xA (ok_iconst hC (show decode prog_14_method_60_code 65 = .ok (.iconst 3, 1) by decide +kernel) (by decide)) ?_
  refine xA (ok_icne hC (show decode prog_14_method_60_code 66 = .ok (.if_icmp .ne 10, 3) by decide +kernel) (by decide)) ?_
  refine xA (ok_aload_n hC (show decode prog_14_method_60_code 69 = .ok (.aload_n 0, 1) by decide +kernel) rfl) ?_
  refine xA (ok_get hC (show decode prog_14_method_60_code 70 = .ok (.getfield 36, 3) by decide +kernel) (by decide) (r0 := ("StyleCourtModel", xF13, 85)) rfl (by decide) rfl w_1161) ?_
  refine xA (ok_iload_n hC (show decode prog_14_method_60_code 73 = .ok (.iload_n 1, 1) by decide +kernel) rfl) ?_
  refine xA (ok_iald hC (show decode prog_14_method_60_code 74 = .ok (.iaload, 1) by decide +kernel) (by decide) rfl) ?_
  refine xA (ok_iret hC hr (show decode prog_14_method_60_code 75 = .ok (.ireturn, 1) by decide +kernel)) ?_
  refine xA (ok_iload_n hC (show decode prog_14_method_60_code 76 = .ok (.iload_n 2, 1) by decide +kernel) rfl) ?_
  refine xA (ok_iconst hC (show decode prog_14_method_60_code 77 = .ok (.iconst 4, 1) by decide +kernel) (by decide)) ?_
  refine xA (ok_icne hC (show decode prog_14_method_60_code 78 = .ok (.if_icmp .ne 10, 3) by decide +kernel) (by decide)) ?_
  refine xA (ok_aload_n hC (show decode prog_14_method_60_code 81 = .ok (.aload_n 0, 1) by decide +kernel) rfl) ?_
  refine xA (ok_get hC (show decode prog_14_method_60_code 82 = .ok (.getfield 42, 3) by decide +kernel) (by decide) (r0 := ("StyleCourtModel", xF13, 85)) rfl (by decide) rfl w_1163) ?_
  refine xA (ok_iload_n hC (show decode prog_14_method_60_code 85 = .ok (.iload_n 1, 1) by decide +kernel) rfl) ?_
  refine xA (ok_iald hC (show decode prog_14_method_60_code 86 = .ok (.iaload, 1) by decide +kernel) (by decide) rfl) ?_
  refine xA (ok_iret hC hr (show decode prog_14_method_60_code 87 = .ok (.ireturn, 1) by decide +kernel)) ?_
  refine xA (ok_iload_n hC (show decode prog_14_method_60_code 88 = .ok (.iload_n 2, 1) by decide +kernel) rfl) ?_
  refine xA (ok_iconst hC (show decode prog_14_method_60_code 89 = .ok (.iconst 5, 1) by decide +kernel) (by decide)) ?_
  refine xA (ok_icne hC (show decode prog_14_method_60_code 90 = .ok (.if_icmp .ne 10, 3) by decide +kernel) (by decide)) ?_
  refine xA (ok_aload_n hC (show decode prog_14_method_60_code 93 = .ok (.aload_n 0, 1) by decide +kernel) rfl) ?_
  refine xA (ok_get hC (show decode prog_14_method_60_code 94 = .ok (.getfield 45, 3) by decide +kernel) (by decide) (r0 := ("StyleCourtModel", xF13, 85)) rfl (by decide) rfl w_1164) ?_
  refine xA (ok_iload_n hC (show decode prog_14_method_60_code 97 = .ok (.iload_n 1, 1) by decide +kernel) rfl) ?_
  refine xA (ok_iald hC (show decode prog_14_method_60_code 98 = .ok (.iaload, 1) by decide +kernel) (by decide) rfl) ?_
  refine xA (ok_iret hC hr (show decode prog_14_method_60_code 99 = .ok (.ireturn, 1) by decide +kernel)) ?_
  refine xA (ok_iload_n hC (show decode prog_14_method_60_code 100 = .ok (.iload_n 2, 1) by decide +kernel) rfl) ?_
  refine xA (ok_bipush hC (show decode prog_14_method_60_code 101 = .ok (.bipush 6, 2) by decide +kernel) (by decide)) ?_
  refine xA (ok_icne hC (show decode prog_14_method_60_code 103 = .ok (.if_icmp .ne 18, 3) by decide +kernel) (by decide)) ?_
  refine xA (ok_aload_n hC (show decode prog_14_method_60_code 106 = .ok (.aload_n 0, 1) by decide +kernel) rfl) ?_
  refine xA (ok_get hC (show decode prog_14_method_60_code 107 = .ok (.getfield 63, 3) by decide +kernel) (by decide) (r0 := ("StyleCourtModel", xF13, 85)) rfl (by decide) rfl w_1170) ?_
  refine xA (ok_iload_n hC (show decode prog_14_method_60_code 110 = .ok (.iload_n 1, 1) by decide +kernel) rfl) ?_
  refine xA (ok_zald hC (show decode prog_14_method_60_code 111 = .ok (.baload, 1) by decide +kernel) (by decide) rfl) ?_
  refine xA (ok_ifeq hC (show decode prog_14_method_60_code 112 = .ok (.ifCond .eq 7, 3) by decide +kernel) (by decide)) ?_
  refine xA (ok_iconst hC (show decode prog_14_method_60_code 115 = .ok (.iconst 1, 1) by decide +kernel) (by decide)) ?_
  refine xA (ok_goto hC (show decode prog_14_method_60_code 116 = .ok (.goto 4, 3) by decide +kernel) (by decide)) ?_
  refine xA (ok_iconst hC (show decode prog_14_method_60_code 119 = .ok (.iconst 0, 1) by decide +kernel) (by decide)) ?_
  refine xA (ok_iret hC hr (show decode prog_14_method_60_code 120 = .ok (.ireturn, 1) by decide +kernel)) ?_
  refine xA (ok_iload_n hC (show decode prog_14_method_60_code 121 = .ok (.iload_n 2, 1) by decide +kernel) rfl) ?_
  refine xA (ok_bipush hC (show decode prog_14_method_60_code 122 = .ok (.bipush 7, 2) by decide +kernel) (by decide)) ?_
  refine xA (ok_icne hC (show decode prog_14_method_60_code 124 = .ok (.if_icmp .ne 12, 3) by decide +kernel) (by decide)) ?_
  refine xA (ok_aload_n hC (show decode prog_14_method_60_code 127 = .ok (.aload_n 0, 1) by decide +kernel) rfl) ?_
  refine xA (ok_get hC (show decode prog_14_method_60_code 128 = .ok (.getfield 48, 3) by decide +kernel) (by decide) (r0 := ("StyleCourtModel", xF13, 85)) rfl (by decide) rfl w_1165) ?_
  refine xA (ok_iload_n hC (show decode prog_14_method_60_code 131 = .ok (.iload_n 1, 1) by decide +kernel) rfl) ?_
  refine xA (ok_iald hC (show decode prog_14_method_60_code 132 = .ok (.iaload, 1) by decide +kernel) (by decide) rfl) ?_
  refine xA (ok_goto hC (show decode prog_14_method_60_code 133 = .ok (.goto 9, 3) by decide +kernel) (by decide)) ?_
  refine xA (ok_aload_n hC (show decode prog_14_method_60_code 136 = .ok (.aload_n 0, 1) by decide +kernel) rfl) ?_
  refine xA (ok_get hC (show decode prog_14_method_60_code 137 = .ok (.getfield 51, 3) by decide +kernel) (by decide) (r0 := ("StyleCourtModel", xF13, 85)) rfl (by decide) rfl w_1166) ?_
  refine xA (ok_iload_n hC (show decode prog_14_method_60_code 140 = .ok (.iload_n 1, 1) by decide +kernel) rfl) ?_
  refine xA (ok_iald hC (show decode prog_14_method_60_code 141 = .ok (.iaload, 1) by decide +kernel) (by decide) rfl) ?_
  refine xA (ok_iret hC hr (show decode prog_14_method_60_code 142 = .ok (.ireturn, 1) by decide +kernel)) ?_
  exact trivial

def tb_Mo_tell (X : xX) : List (Nat × xOp) := [(0, o_ald 0 1),
  (1, o_ild 1 2),
  (2, o_callV X.l X.D X.P 13 1 2 y_Mo_isThere 5),
  (5, o_ifeq 26 8),
  (8, o_ild 2 9),
  (9, o_ic 0 10),
  (10, o_ic 1 11),
  (11, o_ic 2 12),
  (12, o_ald 0 13),
  (13, o_get 13 19 16),
  (16, o_ild 1 17),
  (17, o_ld 0 18),
  (18, o_imul 19),
  (19, o_iadd 20),
  (20, o_callS X.l X.D X.P 0 3 y_Mo_in 23),
  (23, o_ifne 32 26),
  (26, o_ald 0 27),
  (27, o_ic 1 28),
  (28, o_callV X.l X.D X.P 13 0 2 y_Mo_refuse 31),
  (31, o_iret X.P),
  (32, o_ild 2 33),
  (33, o_ic 1 34),
  (34, o_icne 89 37),
  (37, o_lc 0 38),
  (38, o_lst 3 39),
  (39, o_ald 0 40),
  (40, o_get 13 22 43),
  (43, o_ild 1 44),
  (44, o_ld 0 45),
  (45, o_ist 5 47),
  (47, o_ild 5 49),
  (49, o_ald 0 50),
  (50, o_get 13 23 53),
  (53, o_ild 1 54),
  (54, o_ld 0 55),
  (55, o_icge 75 58),
  (58, o_lld 3 59),
  (59, o_ald 0 60),
  (60, o_get 13 31 63),
  (63, o_ild 5 65),
  (65, o_ld 0 66),
  (66, o_i2l 67),
  (67, o_ladd 68),
  (68, o_lst 3 69),
  (69, o_inc 5 1 72),
  (72, o_goto 47),
  (75, o_lld 3 76),
  (76, o_lc 16384 79),
  (79, o_lcmp 80),
  (80, o_ifle 89 83),
  (83, o_ald 0 84),
  (84, o_ic 2 85),
  (85, o_callV X.l X.D X.P 13 0 2 y_Mo_refuse 88),
  (88, o_iret X.P),
  (89, o_ald 0 90),
  (90, o_ic 0 91),
  (91, o_put 13 0 (.int) 94),
  (94, o_ald 0 95),
  (95, o_ic 0 96),
  (96, o_put 13 4 (.int) 99),
  (99, o_ild 2 100),
  (100, o_ifne 122 103),
  (103, o_ald 0 104),
  (104, o_ald 0 105),
  (105, o_get 13 12 108),
  (108, o_ild 1 109),
  (109, o_ld 0 110),
  (110, o_ald 0 111),
  (111, o_get 13 13 114),
  (114, o_ild 1 115),
  (115, o_ld 0 116),
  (116, o_callV X.l X.D X.P 13 0 3 y_Mo_say 119),
  (119, o_goto 221),
  (122, o_ild 2 123),
  (123, o_ic 1 124),
  (124, o_icne 169 127),
  (127, o_ald 0 128),
  (128, o_get 13 22 131),
  (131, o_ild 1 132),
  (132, o_ld 0 133),
  (133, o_ist 3 134),
  (134, o_ild 3 135),
  (135, o_ald 0 136),
  (136, o_get 13 23 139),
  (139, o_ild 1 140),
  (140, o_ld 0 141),
  (141, o_icge 166 144),
  (144, o_ald 0 145),
  (145, o_ald 0 146),
  (146, o_get 13 30 149),
  (149, o_ild 3 150),
  (150, o_ld 0 151),
  (151, o_ald 0 152),
  (152, o_get 13 31 155),
  (155, o_ild 3 156),
  (156, o_ld 0 157),
  (157, o_callV X.l X.D X.P 13 0 3 y_Mo_say 160),
  (160, o_inc 3 1 163),
  (163, o_goto 134),
  (166, o_goto 221),
  (169, o_ic 6 171),
  (171, o_ild 1 172),
  (172, o_imul 173),
  (173, o_ild 2 174),
  (174, o_ic 2 175),
  (175, o_isub 176),
  (176, o_ic 2 177),
  (177, o_idiv 178),
  (178, o_iadd 179),
  (179, o_ist 3 180),
  (180, o_ild 2 181),
  (181, o_ic 2 182),
  (182, o_irem 183),
  (183, o_ifne 205 186),
  (186, o_ald 0 187),
  (187, o_ald 0 188),
  (188, o_get 13 26 191),
  (191, o_ild 3 192),
  (192, o_ld 0 193),
  (193, o_ald 0 194),
  (194, o_get 13 27 197),
  (197, o_ild 3 198),
  (198, o_ld 0 199),
  (199, o_callV X.l X.D X.P 13 0 3 y_Mo_say 202),
  (202, o_goto 221),
  (205, o_ald 0 206),
  (206, o_ald 0 207),
  (207, o_get 13 28 210),
  (210, o_ild 3 211),
  (211, o_ld 0 212),
  (212, o_ald 0 213),
  (213, o_get 13 29 216),
  (216, o_ild 3 217),
  (217, o_ld 0 218),
  (218, o_callV X.l X.D X.P 13 0 3 y_Mo_say 221),
  (221, o_ald 0 222),
  (222, o_get 13 4 225),
  (225, o_iret X.P)]
theorem tk_Mo_tell {X : xX} (hC : xCx X prog_14_method_61_code "StyleCourtModel" 6 2) (hr : X.meth.sig.returnType = (some .int)) (hnh : X.c.exceptionTable.isEmpty = true) (hin : X.meth.name = "tell") : xAll X (tb_Mo_tell X) := by
  refine xA (ok_aload_n hC (show decode prog_14_method_61_code 0 = .ok (.aload_n 0, 1) by decide +kernel) rfl) ?_
  refine xA (ok_iload_n hC (show decode prog_14_method_61_code 1 = .ok (.iload_n 1, 1) by decide +kernel) rfl) ?_
  refine xA (ok_callV hC hnh (show decode prog_14_method_61_code 2 = .ok (.invokevirtual 418, 3) by decide +kernel) (by decide) (by decide) (by decide) (r0 := ("StyleCourtModel", xF13, 85)) rfl ⟨by decide, by decide, by decide +kernel⟩ w_1589 w_83 w_1586 w_1588 w_59) ?_
  refine xA (ok_ifeq hC (show decode prog_14_method_61_code 5 = .ok (.ifCond .eq 21, 3) by decide +kernel) (by decide)) ?_
  refine xA (ok_iload_n hC (show decode prog_14_method_61_code 8 = .ok (.iload_n 2, 1) by decide +kernel) rfl) ?_
  refine xA (ok_iconst hC (show decode prog_14_method_61_code 9 = .ok (.iconst 0, 1) by decide +kernel) (by decide)) ?_
  refine xA (ok_iconst hC (show decode prog_14_method_61_code 10 = .ok (.iconst 1, 1) by decide +kernel) (by decide)) ?_
  refine xA (ok_iconst hC (show decode prog_14_method_61_code 11 = .ok (.iconst 2, 1) by decide +kernel) (by decide)) ?_
  refine xA (ok_aload_n hC (show decode prog_14_method_61_code 12 = .ok (.aload_n 0, 1) by decide +kernel) rfl) ?_
  refine xA (ok_get hC (show decode prog_14_method_61_code 13 = .ok (.getfield 45, 3) by decide +kernel) (by decide) (r0 := ("StyleCourtModel", xF13, 85)) rfl (by decide) rfl w_1164) ?_
  refine xA (ok_iload_n hC (show decode prog_14_method_61_code 16 = .ok (.iload_n 1, 1) by decide +kernel) rfl) ?_
  refine xA (ok_iald hC (show decode prog_14_method_61_code 17 = .ok (.iaload, 1) by decide +kernel) (by decide) rfl) ?_
  refine xA (ok_imul hC (show decode prog_14_method_61_code 18 = .ok (.imul, 1) by decide +kernel)) ?_
  refine xA (ok_iadd hC (show decode prog_14_method_61_code 19 = .ok (.iadd, 1) by decide +kernel)) ?_
  refine xA (ok_callS (hh := []) hC hnh (show decode prog_14_method_61_code 20 = .ok (.invokestatic 201, 3) by decide +kernel) (by decide) (by decide) ⟨by decide, by decide, by decide +kernel⟩ (Or.inl w_1424) w_83 w_1422 w_1423) ?_
  refine xA (ok_ifne hC (show decode prog_14_method_61_code 23 = .ok (.ifCond .ne 9, 3) by decide +kernel) (by decide)) ?_
  refine xA (ok_aload_n hC (show decode prog_14_method_61_code 26 = .ok (.aload_n 0, 1) by decide +kernel) rfl) ?_
  refine xA (ok_iconst hC (show decode prog_14_method_61_code 27 = .ok (.iconst 1, 1) by decide +kernel) (by decide)) ?_
  refine xA (ok_callV hC hnh (show decode prog_14_method_61_code 28 = .ok (.invokevirtual 193, 3) by decide +kernel) (by decide) (by decide) (by decide) (r0 := ("StyleCourtModel", xF13, 85)) rfl ⟨by decide, by decide, by decide +kernel⟩ w_1413 w_83 w_1410 w_1412 w_25) ?_
  refine xA (ok_iret hC hr (show decode prog_14_method_61_code 31 = .ok (.ireturn, 1) by decide +kernel)) ?_
  refine xA (ok_iload_n hC (show decode prog_14_method_61_code 32 = .ok (.iload_n 2, 1) by decide +kernel) rfl) ?_
  refine xA (ok_iconst hC (show decode prog_14_method_61_code 33 = .ok (.iconst 1, 1) by decide +kernel) (by decide)) ?_
  refine xA (ok_icne hC (show decode prog_14_method_61_code 34 = .ok (.if_icmp .ne 55, 3) by decide +kernel) (by decide)) ?_
  refine xA (ok_lconst hC (show decode prog_14_method_61_code 37 = .ok (.lconst 0, 1) by decide +kernel) (by decide)) ?_
  refine xA (ok_lstore_n hC (show decode prog_14_method_61_code 38 = .ok (.lstore_n 3, 1) by decide +kernel) rfl (by decide)) ?_
  refine xA (ok_aload_n hC (show decode prog_14_method_61_code 39 = .ok (.aload_n 0, 1) by decide +kernel) rfl) ?_
  refine xA (ok_get hC (show decode prog_14_method_61_code 40 = .ok (.getfield 54, 3) by decide +kernel) (by decide) (r0 := ("StyleCourtModel", xF13, 85)) rfl (by decide) rfl w_1167) ?_
  refine xA (ok_iload_n hC (show decode prog_14_method_61_code 43 = .ok (.iload_n 1, 1) by decide +kernel) rfl) ?_
  refine xA (ok_iald hC (show decode prog_14_method_61_code 44 = .ok (.iaload, 1) by decide +kernel) (by decide) rfl) ?_
  refine xA (ok_istore hC (show decode prog_14_method_61_code 45 = .ok (.istore 5, 2) by decide +kernel) (by decide)) ?_
  refine xA (ok_iload hC (show decode prog_14_method_61_code 47 = .ok (.iload 5, 2) by decide +kernel)) ?_
  refine xA (ok_aload_n hC (show decode prog_14_method_61_code 49 = .ok (.aload_n 0, 1) by decide +kernel) rfl) ?_
  refine xA (ok_get hC (show decode prog_14_method_61_code 50 = .ok (.getfield 57, 3) by decide +kernel) (by decide) (r0 := ("StyleCourtModel", xF13, 85)) rfl (by decide) rfl w_1168) ?_
  refine xA (ok_iload_n hC (show decode prog_14_method_61_code 53 = .ok (.iload_n 1, 1) by decide +kernel) rfl) ?_
  refine xA (ok_iald hC (show decode prog_14_method_61_code 54 = .ok (.iaload, 1) by decide +kernel) (by decide) rfl) ?_
  refine xA (ok_icge hC (show decode prog_14_method_61_code 55 = .ok (.if_icmp .ge 20, 3) by decide +kernel) (by decide)) ?_
  refine xA (ok_lload_n hC (show decode prog_14_method_61_code 58 = .ok (.lload_n 3, 1) by decide +kernel) rfl) ?_
  refine xA (ok_aload_n hC (show decode prog_14_method_61_code 59 = .ok (.aload_n 0, 1) by decide +kernel) rfl) ?_
  refine xA (ok_get hC (show decode prog_14_method_61_code 60 = .ok (.getfield 82, 3) by decide +kernel) (by decide) (r0 := ("StyleCourtModel", xF13, 85)) rfl (by decide) rfl w_1176) ?_
  refine xA (ok_iload hC (show decode prog_14_method_61_code 63 = .ok (.iload 5, 2) by decide +kernel)) ?_
  refine xA (ok_iald hC (show decode prog_14_method_61_code 65 = .ok (.iaload, 1) by decide +kernel) (by decide) rfl) ?_
  refine xA (ok_i2l hC (show decode prog_14_method_61_code 66 = .ok (.i2l, 1) by decide +kernel)) ?_
  refine xA (ok_ladd hC (show decode prog_14_method_61_code 67 = .ok (.ladd, 1) by decide +kernel)) ?_
  refine xA (ok_lstore_n hC (show decode prog_14_method_61_code 68 = .ok (.lstore_n 3, 1) by decide +kernel) rfl (by decide)) ?_
  refine xA (ok_iinc hC (show decode prog_14_method_61_code 69 = .ok (.iinc 5 1, 3) by decide +kernel) (by decide) (by decide)) ?_
  refine xA (ok_goto hC (show decode prog_14_method_61_code 72 = .ok (.goto (-25), 3) by decide +kernel) (by decide)) ?_
  refine xA (ok_lload_n hC (show decode prog_14_method_61_code 75 = .ok (.lload_n 3, 1) by decide +kernel) rfl) ?_
  refine xA (ok_ldc2 hC (show decode prog_14_method_61_code 76 = .ok (.ldc2_w 449, 3) by decide +kernel) w_1652) ?_
  refine xA (ok_lcmp hC (show decode prog_14_method_61_code 79 = .ok (.lcmp, 1) by decide +kernel)) ?_
  refine xA (ok_ifle hC (show decode prog_14_method_61_code 80 = .ok (.ifCond .le 9, 3) by decide +kernel) (by decide)) ?_
  refine xA (ok_aload_n hC (show decode prog_14_method_61_code 83 = .ok (.aload_n 0, 1) by decide +kernel) rfl) ?_
  refine xA (ok_iconst hC (show decode prog_14_method_61_code 84 = .ok (.iconst 2, 1) by decide +kernel) (by decide)) ?_
  refine xA (ok_callV hC hnh (show decode prog_14_method_61_code 85 = .ok (.invokevirtual 193, 3) by decide +kernel) (by decide) (by decide) (by decide) (r0 := ("StyleCourtModel", xF13, 85)) rfl ⟨by decide, by decide, by decide +kernel⟩ w_1413 w_83 w_1410 w_1412 w_25) ?_
  refine xA (ok_iret hC hr (show decode prog_14_method_61_code 88 = .ok (.ireturn, 1) by decide +kernel)) ?_
  refine xA (ok_aload_n hC (show decode prog_14_method_61_code 89 = .ok (.aload_n 0, 1) by decide +kernel) rfl) ?_
  refine xA (ok_iconst hC (show decode prog_14_method_61_code 90 = .ok (.iconst 0, 1) by decide +kernel) (by decide)) ?_
  refine xA (ok_put hC (show decode prog_14_method_61_code 91 = .ok (.putfield 187, 3) by decide +kernel) (by decide) (r0 := ("StyleCourtModel", xF13, 85)) rfl (by decide) rfl (by decide +kernel) w_1145) ?_
  refine xA (ok_aload_n hC (show decode prog_14_method_61_code 94 = .ok (.aload_n 0, 1) by decide +kernel) rfl) ?_
  refine xA (ok_iconst hC (show decode prog_14_method_61_code 95 = .ok (.iconst 0, 1) by decide +kernel) (by decide)) ?_
  refine xA (ok_put hC (show decode prog_14_method_61_code 96 = .ok (.putfield 424, 3) by decide +kernel) (by decide) (r0 := ("StyleCourtModel", xF13, 85)) rfl (by decide) rfl (by decide +kernel) w_1149) ?_
  refine xA (ok_iload_n hC (show decode prog_14_method_61_code 99 = .ok (.iload_n 2, 1) by decide +kernel) rfl) ?_
  refine xA (ok_ifne hC (show decode prog_14_method_61_code 100 = .ok (.ifCond .ne 22, 3) by decide +kernel) (by decide)) ?_
  refine xA (ok_aload_n hC (show decode prog_14_method_61_code 103 = .ok (.aload_n 0, 1) by decide +kernel) rfl) ?_
  refine xA (ok_aload_n hC (show decode prog_14_method_61_code 104 = .ok (.aload_n 0, 1) by decide +kernel) rfl) ?_
  refine xA (ok_get hC (show decode prog_14_method_61_code 105 = .ok (.getfield 24, 3) by decide +kernel) (by decide) (r0 := ("StyleCourtModel", xF13, 85)) rfl (by decide) rfl w_1157) ?_
  refine xA (ok_iload_n hC (show decode prog_14_method_61_code 108 = .ok (.iload_n 1, 1) by decide +kernel) rfl) ?_
  refine xA (ok_iald hC (show decode prog_14_method_61_code 109 = .ok (.iaload, 1) by decide +kernel) (by decide) rfl) ?_
  refine xA (ok_aload_n hC (show decode prog_14_method_61_code 110 = .ok (.aload_n 0, 1) by decide +kernel) rfl) ?_
  refine xA (ok_get hC (show decode prog_14_method_61_code 111 = .ok (.getfield 27, 3) by decide +kernel) (by decide) (r0 := ("StyleCourtModel", xF13, 85)) rfl (by decide) rfl w_1158) ?_
  refine xA (ok_iload_n hC (show decode prog_14_method_61_code 114 = .ok (.iload_n 1, 1) by decide +kernel) rfl) ?_
  refine xA (ok_iald hC (show decode prog_14_method_61_code 115 = .ok (.iaload, 1) by decide +kernel) (by decide) rfl) ?_
  refine xA (ok_callV hC hnh (show decode prog_14_method_61_code 116 = .ok (.invokevirtual 443, 3) by decide +kernel) (by decide) (by decide) (by decide) (r0 := ("StyleCourtModel", xF13, 85)) rfl ⟨by decide, by decide, by decide +kernel⟩ w_1631 w_83 w_1628 w_1630 w_67) ?_
  refine xA (ok_goto hC (show decode prog_14_method_61_code 119 = .ok (.goto 102, 3) by decide +kernel) (by decide)) ?_
  refine xA (ok_iload_n hC (show decode prog_14_method_61_code 122 = .ok (.iload_n 2, 1) by decide +kernel) rfl) ?_
  refine xA (ok_iconst hC (show decode prog_14_method_61_code 123 = .ok (.iconst 1, 1) by decide +kernel) (by decide)) ?_
  refine xA (ok_icne hC (show decode prog_14_method_61_code 124 = .ok (.if_icmp .ne 45, 3) by decide +kernel) (by decide)) ?_
  refine xA (ok_aload_n hC (show decode prog_14_method_61_code 127 = .ok (.aload_n 0, 1) by decide +kernel) rfl) ?_
  refine xA (ok_get hC (show decode prog_14_method_61_code 128 = .ok (.getfield 54, 3) by decide +kernel) (by decide) (r0 := ("StyleCourtModel", xF13, 85)) rfl (by decide) rfl w_1167) ?_
  refine xA (ok_iload_n hC (show decode prog_14_method_61_code 131 = .ok (.iload_n 1, 1) by decide +kernel) rfl) ?_
  refine xA (ok_iald hC (show decode prog_14_method_61_code 132 = .ok (.iaload, 1) by decide +kernel) (by decide) rfl) ?_
  refine xA (ok_istore_n hC (show decode prog_14_method_61_code 133 = .ok (.istore_n 3, 1) by decide +kernel) rfl (by decide)) ?_
  refine xA (ok_iload_n hC (show decode prog_14_method_61_code 134 = .ok (.iload_n 3, 1) by decide +kernel) rfl) ?_
  refine xA (ok_aload_n hC (show decode prog_14_method_61_code 135 = .ok (.aload_n 0, 1) by decide +kernel) rfl) ?_
  refine xA (ok_get hC (show decode prog_14_method_61_code 136 = .ok (.getfield 57, 3) by decide +kernel) (by decide) (r0 := ("StyleCourtModel", xF13, 85)) rfl (by decide) rfl w_1168) ?_
  refine xA (ok_iload_n hC (show decode prog_14_method_61_code 139 = .ok (.iload_n 1, 1) by decide +kernel) rfl) ?_
  refine xA (ok_iald hC (show decode prog_14_method_61_code 140 = .ok (.iaload, 1) by decide +kernel) (by decide) rfl) ?_
  refine xA (ok_icge hC (show decode prog_14_method_61_code 141 = .ok (.if_icmp .ge 25, 3) by decide +kernel) (by decide)) ?_
  refine xA (ok_aload_n hC (show decode prog_14_method_61_code 144 = .ok (.aload_n 0, 1) by decide +kernel) rfl) ?_
  refine xA (ok_aload_n hC (show decode prog_14_method_61_code 145 = .ok (.aload_n 0, 1) by decide +kernel) rfl) ?_
  refine xA (ok_get hC (show decode prog_14_method_61_code 146 = .ok (.getfield 79, 3) by decide +kernel) (by decide) (r0 := ("StyleCourtModel", xF13, 85)) rfl (by decide) rfl w_1175) ?_
  refine xA (ok_iload_n hC (show decode prog_14_method_61_code 149 = .ok (.iload_n 3, 1) by decide +kernel) rfl) ?_
  refine xA (ok_iald hC (show decode prog_14_method_61_code 150 = .ok (.iaload, 1) by decide +kernel) (by decide) rfl) ?_
  refine xA (ok_aload_n hC (show decode prog_14_method_61_code 151 = .ok (.aload_n 0, 1) by decide +kernel) rfl) ?_
  refine xA (ok_get hC (show decode prog_14_method_61_code 152 = .ok (.getfield 82, 3) by decide +kernel) (by decide) (r0 := ("StyleCourtModel", xF13, 85)) rfl (by decide) rfl w_1176) ?_
  refine xA (ok_iload_n hC (show decode prog_14_method_61_code 155 = .ok (.iload_n 3, 1) by decide +kernel) rfl) ?_
  refine xA (ok_iald hC (show decode prog_14_method_61_code 156 = .ok (.iaload, 1) by decide +kernel) (by decide) rfl) ?_
  refine xA (ok_callV hC hnh (show decode prog_14_method_61_code 157 = .ok (.invokevirtual 443, 3) by decide +kernel) (by decide) (by decide) (by decide) (r0 := ("StyleCourtModel", xF13, 85)) rfl ⟨by decide, by decide, by decide +kernel⟩ w_1631 w_83 w_1628 w_1630 w_67) ?_
  refine xA (ok_iinc hC (show decode prog_14_method_61_code 160 = .ok (.iinc 3 1, 3) by decide +kernel) (by decide) (by decide)) ?_
  refine xA (ok_goto hC (show decode prog_14_method_61_code 163 = .ok (.goto (-29), 3) by decide +kernel) (by decide)) ?_
  refine xA (ok_goto hC (show decode prog_14_method_61_code 166 = .ok (.goto 55, 3) by decide +kernel) (by decide)) ?_
  refine xA (ok_bipush hC (show decode prog_14_method_61_code 169 = .ok (.bipush 6, 2) by decide +kernel) (by decide)) ?_
  refine xA (ok_iload_n hC (show decode prog_14_method_61_code 171 = .ok (.iload_n 1, 1) by decide +kernel) rfl) ?_
  refine xA (ok_imul hC (show decode prog_14_method_61_code 172 = .ok (.imul, 1) by decide +kernel)) ?_
  refine xA (ok_iload_n hC (show decode prog_14_method_61_code 173 = .ok (.iload_n 2, 1) by decide +kernel) rfl) ?_
  refine xA (ok_iconst hC (show decode prog_14_method_61_code 174 = .ok (.iconst 2, 1) by decide +kernel) (by decide)) ?_
  refine xA (ok_isub hC (show decode prog_14_method_61_code 175 = .ok (.isub, 1) by decide +kernel)) ?_
  refine xA (ok_iconst hC (show decode prog_14_method_61_code 176 = .ok (.iconst 2, 1) by decide +kernel) (by decide)) ?_
  refine xA (ok_idiv hC (show decode prog_14_method_61_code 177 = .ok (.idiv, 1) by decide +kernel)) ?_
  refine xA (ok_iadd hC (show decode prog_14_method_61_code 178 = .ok (.iadd, 1) by decide +kernel)) ?_
  refine xA (ok_istore_n hC (show decode prog_14_method_61_code 179 = .ok (.istore_n 3, 1) by decide +kernel) rfl (by decide)) ?_
  refine xA (ok_iload_n hC (show decode prog_14_method_61_code 180 = .ok (.iload_n 2, 1) by decide +kernel) rfl) ?_
  refine xA (ok_iconst hC (show decode prog_14_method_61_code 181 = .ok (.iconst 2, 1) by decide +kernel) (by decide)) ?_
  refine xA (ok_irem hC (show decode prog_14_method_61_code 182 = .ok (.irem, 1) by decide +kernel)) ?_
  refine xA (ok_ifne hC (show decode prog_14_method_61_code 183 = .ok (.ifCond .ne 22, 3) by decide +kernel) (by decide)) ?_
  refine xA (ok_aload_n hC (show decode prog_14_method_61_code 186 = .ok (.aload_n 0, 1) by decide +kernel) rfl) ?_
  refine xA (ok_aload_n hC (show decode prog_14_method_61_code 187 = .ok (.aload_n 0, 1) by decide +kernel) rfl) ?_
  refine xA (ok_get hC (show decode prog_14_method_61_code 188 = .ok (.getfield 67, 3) by decide +kernel) (by decide) (r0 := ("StyleCourtModel", xF13, 85)) rfl (by decide) rfl w_1171) ?_
  refine xA (ok_iload_n hC (show decode prog_14_method_61_code 191 = .ok (.iload_n 3, 1) by decide +kernel) rfl) ?_
  refine xA (ok_iald hC (show decode prog_14_method_61_code 192 = .ok (.iaload, 1) by decide +kernel) (by decide) rfl) ?_
  refine xA (ok_aload_n hC (show decode prog_14_method_61_code 193 = .ok (.aload_n 0, 1) by decide +kernel) rfl) ?_
  refine xA (ok_get hC (show decode prog_14_method_61_code 194 = .ok (.getfield 70, 3) by decide +kernel) (by decide) (r0 := ("StyleCourtModel", xF13, 85)) rfl (by decide) rfl w_1172) ?_
  refine xA (ok_iload_n hC (show decode prog_14_method_61_code 197 = .ok (.iload_n 3, 1) by decide +kernel) rfl) ?_
  refine xA (ok_iald hC (show decode prog_14_method_61_code 198 = .ok (.iaload, 1) by decide +kernel) (by decide) rfl) ?_
  refine xA (ok_callV hC hnh (show decode prog_14_method_61_code 199 = .ok (.invokevirtual 443, 3) by decide +kernel) (by decide) (by decide) (by decide) (r0 := ("StyleCourtModel", xF13, 85)) rfl ⟨by decide, by decide, by decide +kernel⟩ w_1631 w_83 w_1628 w_1630 w_67) ?_
  refine xA (ok_goto hC (show decode prog_14_method_61_code 202 = .ok (.goto 19, 3) by decide +kernel) (by decide)) ?_
  refine xA (ok_aload_n hC (show decode prog_14_method_61_code 205 = .ok (.aload_n 0, 1) by decide +kernel) rfl) ?_
  refine xA (ok_aload_n hC (show decode prog_14_method_61_code 206 = .ok (.aload_n 0, 1) by decide +kernel) rfl) ?_
  refine xA (ok_get hC (show decode prog_14_method_61_code 207 = .ok (.getfield 73, 3) by decide +kernel) (by decide) (r0 := ("StyleCourtModel", xF13, 85)) rfl (by decide) rfl w_1173) ?_
  refine xA (ok_iload_n hC (show decode prog_14_method_61_code 210 = .ok (.iload_n 3, 1) by decide +kernel) rfl) ?_
  refine xA (ok_iald hC (show decode prog_14_method_61_code 211 = .ok (.iaload, 1) by decide +kernel) (by decide) rfl) ?_
  refine xA (ok_aload_n hC (show decode prog_14_method_61_code 212 = .ok (.aload_n 0, 1) by decide +kernel) rfl) ?_
  refine xA (ok_get hC (show decode prog_14_method_61_code 213 = .ok (.getfield 76, 3) by decide +kernel) (by decide) (r0 := ("StyleCourtModel", xF13, 85)) rfl (by decide) rfl w_1174) ?_
  refine xA (ok_iload_n hC (show decode prog_14_method_61_code 216 = .ok (.iload_n 3, 1) by decide +kernel) rfl) ?_
  refine xA (ok_iald hC (show decode prog_14_method_61_code 217 = .ok (.iaload, 1) by decide +kernel) (by decide) rfl) ?_
  refine xA (ok_callV hC hnh (show decode prog_14_method_61_code 218 = .ok (.invokevirtual 443, 3) by decide +kernel) (by decide) (by decide) (by decide) (r0 := ("StyleCourtModel", xF13, 85)) rfl ⟨by decide, by decide, by decide +kernel⟩ w_1631 w_83 w_1628 w_1630 w_67) ?_
  refine xA (ok_aload_n hC (show decode prog_14_method_61_code 221 = .ok (.aload_n 0, 1) by decide +kernel) rfl) ?_
  refine xA (ok_get hC (show decode prog_14_method_61_code 222 = .ok (.getfield 424, 3) by decide +kernel) (by decide) (r0 := ("StyleCourtModel", xF13, 85)) rfl (by decide) rfl w_1149) ?_
  refine xA (ok_iret hC hr (show decode prog_14_method_61_code 225 = .ok (.ireturn, 1) by decide +kernel)) ?_
  exact trivial

def tb_Mo_word (X : xX) : List (Nat × xOp) := [(0, o_ild 1 1),
  (1, o_ic 0 2),
  (2, o_ald 0 3),
  (3, o_get 13 4 6),
  (6, o_ic 1 7),
  (7, o_isub 8),
  (8, o_callS X.l X.D X.P 0 3 y_Mo_in 11),
  (11, o_ifne 21 14),
  (14, o_ald 0 15),
  (15, o_ic 1 16),
  (16, o_callV X.l X.D X.P 13 0 2 y_Mo_refuse 19),
  (19, o_i2l 20),
  (20, o_lret X.P),
  (21, o_ald 0 22),
  (22, o_ic 0 23),
  (23, o_put 13 0 (.int) 26),
  (26, o_lc 0 27),
  (27, o_lst 2 28),
  (28, o_ild 1 29),
  (29, o_ist 4 31),
  (31, o_ild 4 33),
  (33, o_ild 1 34),
  (34, o_ic 8 36),
  (36, o_iadd 37),
  (37, o_icge 73 40),
  (40, o_lld 2 41),
  (41, o_ic 8 43),
  (43, o_lshl 44),
  (44, o_ild 4 46),
  (46, o_ald 0 47),
  (47, o_get 13 4 50),
  (50, o_icge 63 53),
  (53, o_ald 0 54),
  (54, o_get 13 3 57),
  (57, o_ild 4 59),
  (59, o_ld 0 60),
  (60, o_goto 64),
  (63, o_ic 0 64),
  (64, o_i2l 65),
  (65, o_lor 66),
  (66, o_lst 2 67),
  (67, o_inc 4 1 70),
  (70, o_goto 31),
  (73, o_lld 2 74),
  (74, o_lret X.P)]
theorem tk_Mo_word {X : xX} (hC : xCx X prog_14_method_62_code "StyleCourtModel" 5 1) (hr : X.meth.sig.returnType = (some .long)) (hnh : X.c.exceptionTable.isEmpty = true) (hin : X.meth.name = "word") : xAll X (tb_Mo_word X) := by
  refine xA (ok_iload_n hC (show decode prog_14_method_62_code 0 = .ok (.iload_n 1, 1) by decide +kernel) rfl) ?_
  refine xA (ok_iconst hC (show decode prog_14_method_62_code 1 = .ok (.iconst 0, 1) by decide +kernel) (by decide)) ?_
  refine xA (ok_aload_n hC (show decode prog_14_method_62_code 2 = .ok (.aload_n 0, 1) by decide +kernel) rfl) ?_
  refine xA (ok_get hC (show decode prog_14_method_62_code 3 = .ok (.getfield 424, 3) by decide +kernel) (by decide) (r0 := ("StyleCourtModel", xF13, 85)) rfl (by decide) rfl w_1149) ?_
  refine xA (ok_iconst hC (show decode prog_14_method_62_code 6 = .ok (.iconst 1, 1) by decide +kernel) (by decide)) ?_
  refine xA (ok_isub hC (show decode prog_14_method_62_code 7 = .ok (.isub, 1) by decide +kernel)) ?_
  refine xA (ok_callS (hh := []) hC hnh (show decode prog_14_method_62_code 8 = .ok (.invokestatic 201, 3) by decide +kernel) (by decide) (by decide) ⟨by decide, by decide, by decide +kernel⟩ (Or.inl w_1424) w_83 w_1422 w_1423) ?_
  refine xA (ok_ifne hC (show decode prog_14_method_62_code 11 = .ok (.ifCond .ne 10, 3) by decide +kernel) (by decide)) ?_
  refine xA (ok_aload_n hC (show decode prog_14_method_62_code 14 = .ok (.aload_n 0, 1) by decide +kernel) rfl) ?_
  refine xA (ok_iconst hC (show decode prog_14_method_62_code 15 = .ok (.iconst 1, 1) by decide +kernel) (by decide)) ?_
  refine xA (ok_callV hC hnh (show decode prog_14_method_62_code 16 = .ok (.invokevirtual 193, 3) by decide +kernel) (by decide) (by decide) (by decide) (r0 := ("StyleCourtModel", xF13, 85)) rfl ⟨by decide, by decide, by decide +kernel⟩ w_1413 w_83 w_1410 w_1412 w_25) ?_
  refine xA (ok_i2l hC (show decode prog_14_method_62_code 19 = .ok (.i2l, 1) by decide +kernel)) ?_
  refine xA (ok_lret hC hr (show decode prog_14_method_62_code 20 = .ok (.lreturn, 1) by decide +kernel)) ?_
  refine xA (ok_aload_n hC (show decode prog_14_method_62_code 21 = .ok (.aload_n 0, 1) by decide +kernel) rfl) ?_
  refine xA (ok_iconst hC (show decode prog_14_method_62_code 22 = .ok (.iconst 0, 1) by decide +kernel) (by decide)) ?_
  refine xA (ok_put hC (show decode prog_14_method_62_code 23 = .ok (.putfield 187, 3) by decide +kernel) (by decide) (r0 := ("StyleCourtModel", xF13, 85)) rfl (by decide) rfl (by decide +kernel) w_1145) ?_
  refine xA (ok_lconst hC (show decode prog_14_method_62_code 26 = .ok (.lconst 0, 1) by decide +kernel) (by decide)) ?_
  refine xA (ok_lstore_n hC (show decode prog_14_method_62_code 27 = .ok (.lstore_n 2, 1) by decide +kernel) rfl (by decide)) ?_
  refine xA (ok_iload_n hC (show decode prog_14_method_62_code 28 = .ok (.iload_n 1, 1) by decide +kernel) rfl) ?_
  refine xA (ok_istore hC (show decode prog_14_method_62_code 29 = .ok (.istore 4, 2) by decide +kernel) (by decide)) ?_
  refine xA (ok_iload hC (show decode prog_14_method_62_code 31 = .ok (.iload 4, 2) by decide +kernel)) ?_
  refine xA (ok_iload_n hC (show decode prog_14_method_62_code 33 = .ok (.iload_n 1, 1) by decide +kernel) rfl) ?_
  refine xA (ok_bipush hC (show decode prog_14_method_62_code 34 = .ok (.bipush 8, 2) by decide +kernel) (by decide)) ?_
  refine xA (ok_iadd hC (show decode prog_14_method_62_code 36 = .ok (.iadd, 1) by decide +kernel)) ?_
  refine xA (ok_icge hC (show decode prog_14_method_62_code 37 = .ok (.if_icmp .ge 36, 3) by decide +kernel) (by decide)) ?_
  refine xA (ok_lload_n hC (show decode prog_14_method_62_code 40 = .ok (.lload_n 2, 1) by decide +kernel) rfl) ?_
  refine xA (ok_bipush hC (show decode prog_14_method_62_code 41 = .ok (.bipush 8, 2) by decide +kernel) (by decide)) ?_
  refine xA (ok_lshl hC (show decode prog_14_method_62_code 43 = .ok (.lshl, 1) by decide +kernel)) ?_
  refine xA (ok_iload hC (show decode prog_14_method_62_code 44 = .ok (.iload 4, 2) by decide +kernel)) ?_
  refine xA (ok_aload_n hC (show decode prog_14_method_62_code 46 = .ok (.aload_n 0, 1) by decide +kernel) rfl) ?_
  refine xA (ok_get hC (show decode prog_14_method_62_code 47 = .ok (.getfield 424, 3) by decide +kernel) (by decide) (r0 := ("StyleCourtModel", xF13, 85)) rfl (by decide) rfl w_1149) ?_
  refine xA (ok_icge hC (show decode prog_14_method_62_code 50 = .ok (.if_icmp .ge 13, 3) by decide +kernel) (by decide)) ?_
  refine xA (ok_aload_n hC (show decode prog_14_method_62_code 53 = .ok (.aload_n 0, 1) by decide +kernel) rfl) ?_
  refine xA (ok_get hC (show decode prog_14_method_62_code 54 = .ok (.getfield 13, 3) by decide +kernel) (by decide) (r0 := ("StyleCourtModel", xF13, 85)) rfl (by decide) rfl w_1148) ?_
  refine xA (ok_iload hC (show decode prog_14_method_62_code 57 = .ok (.iload 4, 2) by decide +kernel)) ?_
  refine xA (ok_iald hC (show decode prog_14_method_62_code 59 = .ok (.iaload, 1) by decide +kernel) (by decide) rfl) ?_
  refine xA (ok_goto hC (show decode prog_14_method_62_code 60 = .ok (.goto 4, 3) by decide +kernel) (by decide)) ?_
  refine xA (ok_iconst hC (show decode prog_14_method_62_code 63 = .ok (.iconst 0, 1) by decide +kernel) (by decide)) ?_
  refine xA (ok_i2l hC (show decode prog_14_method_62_code 64 = .ok (.i2l, 1) by decide +kernel)) ?_
  refine xA (ok_lor hC (show decode prog_14_method_62_code 65 = .ok (.lor, 1) by decide +kernel)) ?_
  refine xA (ok_lstore_n hC (show decode prog_14_method_62_code 66 = .ok (.lstore_n 2, 1) by decide +kernel) rfl (by decide)) ?_
  refine xA (ok_iinc hC (show decode prog_14_method_62_code 67 = .ok (.iinc 4 1, 3) by decide +kernel) (by decide) (by decide)) ?_
  refine xA (ok_goto hC (show decode prog_14_method_62_code 70 = .ok (.goto (-39), 3) by decide +kernel) (by decide)) ?_
  refine xA (ok_lload_n hC (show decode prog_14_method_62_code 73 = .ok (.lload_n 2, 1) by decide +kernel) rfl) ?_
  refine xA (ok_lret hC hr (show decode prog_14_method_62_code 74 = .ok (.lreturn, 1) by decide +kernel)) ?_
  exact trivial

def tb_Mo_count (X : xX) : List (Nat × xOp) := [(0, o_ild 1 1),
  (1, o_ic 0 2),
  (2, o_ic 6 4),
  (4, o_callS X.l X.D X.P 0 3 y_Mo_in 7),
  (7, o_ifne 28 10),
  (10, o_ild 1 11),
  (11, o_ic 10 13),
  (13, o_ic 129 16),
  (16, o_callS X.l X.D X.P 0 3 y_Mo_in 19),
  (19, o_ifne 28 22),
  (22, o_ald 0 23),
  (23, o_ic 1 24),
  (24, o_callV X.l X.D X.P 13 0 2 y_Mo_refuse 27),
  (27, o_iret X.P),
  (28, o_ald 0 29),
  (29, o_ic 0 30),
  (30, o_put 13 0 (.int) 33),
  (33, o_ild 1 34),
  (34, o_ifne 42 37),
  (37, o_ald 0 38),
  (38, o_get 13 2 41),
  (41, o_iret X.P),
  (42, o_ild 1 43),
  (43, o_ic 1 44),
  (44, o_icne 52 47),
  (47, o_ald 0 48),
  (48, o_get 13 4 51),
  (51, o_iret X.P),
  (52, o_ild 1 53),
  (53, o_ic 2 54),
  (54, o_icne 62 57),
  (57, o_ald 0 58),
  (58, o_get 13 50 61),
  (61, o_iret X.P),
  (62, o_ild 1 63),
  (63, o_ic 3 64),
  (64, o_icne 72 67),
  (67, o_ald 0 68),
  (68, o_get 13 68 71),
  (71, o_iret X.P),
  (72, o_ild 1 73),
  (73, o_ic 4 74),
  (74, o_icne 82 77),
  (77, o_ald 0 78),
  (78, o_get 13 10 81),
  (81, o_iret X.P),
  (82, o_ild 1 83),
  (83, o_ic 5 84),
  (84, o_icne 92 87),
  (87, o_ald 0 88),
  (88, o_get 13 42 91),
  (91, o_iret X.P),
  (92, o_ild 1 93),
  (93, o_ic 6 95),
  (95, o_icne 103 98),
  (98, o_ald 0 99),
  (99, o_get 13 84 102),
  (102, o_iret X.P),
  (103, o_ild 1 104),
  (104, o_ic 10 106),
  (106, o_isub 107),
  (107, o_ald 0 108),
  (108, o_get 13 50 111),
  (111, o_icge 126 114),
  (114, o_ald 0 115),
  (115, o_get 13 56 118),
  (118, o_ild 1 119),
  (119, o_ic 10 121),
  (121, o_isub 122),
  (122, o_ld 0 123),
  (123, o_goto 127),
  (126, o_ic (-1) 127),
  (127, o_iret X.P)]
theorem tk_Mo_count {X : xX} (hC : xCx X prog_14_method_63_code "StyleCourtModel" 2 1) (hr : X.meth.sig.returnType = (some .int)) (hnh : X.c.exceptionTable.isEmpty = true) (hin : X.meth.name = "count") : xAll X (tb_Mo_count X) := by
  refine xA (ok_iload_n hC (show decode prog_14_method_63_code 0 = .ok (.iload_n 1, 1) by decide +kernel) rfl) ?_
  refine xA (ok_iconst hC (show decode prog_14_method_63_code 1 = .ok (.iconst 0, 1) by decide +kernel) (by decide)) ?_
  refine xA (ok_bipush hC (show decode prog_14_method_63_code 2 = .ok (.bipush 6, 2) by decide +kernel) (by decide)) ?_
  refine xA (ok_callS (hh := []) hC hnh (show decode prog_14_method_63_code 4 = .ok (.invokestatic 201, 3) by decide +kernel) (by decide) (by decide) ⟨by decide, by decide, by decide +kernel⟩ (Or.inl w_1424) w_83 w_1422 w_1423) ?_
  refine xA (ok_ifne hC (show decode prog_14_method_63_code 7 = .ok (.ifCond .ne 21, 3) by decide +kernel) (by decide)) ?_
  refine xA (ok_iload_n hC (show decode prog_14_method_63_code 10 = .ok (.iload_n 1, 1) by decide +kernel) rfl) ?_
  refine xA (ok_bipush hC (show decode prog_14_method_63_code 11 = .ok (.bipush 10, 2) by decide +kernel) (by decide)) ?_
  refine xA (ok_sipush hC (show decode prog_14_method_63_code 13 = .ok (.sipush 129, 3) by decide +kernel) (by decide)) ?_
  refine xA (ok_callS (hh := []) hC hnh (show decode prog_14_method_63_code 16 = .ok (.invokestatic 201, 3) by decide +kernel) (by decide) (by decide) ⟨by decide, by decide, by decide +kernel⟩ (Or.inl w_1424) w_83 w_1422 w_1423) ?_
  refine xA (ok_ifne hC (show decode prog_14_method_63_code 19 = .ok (.ifCond .ne 9, 3) by decide +kernel) (by decide)) ?_
  refine xA (ok_aload_n hC (show decode prog_14_method_63_code 22 = .ok (.aload_n 0, 1) by decide +kernel) rfl) ?_
  refine xA (ok_iconst hC (show decode prog_14_method_63_code 23 = .ok (.iconst 1, 1) by decide +kernel) (by decide)) ?_
  refine xA (ok_callV hC hnh (show decode prog_14_method_63_code 24 = .ok (.invokevirtual 193, 3) by decide +kernel) (by decide) (by decide) (by decide) (r0 := ("StyleCourtModel", xF13, 85)) rfl ⟨by decide, by decide, by decide +kernel⟩ w_1413 w_83 w_1410 w_1412 w_25) ?_
  refine xA (ok_iret hC hr (show decode prog_14_method_63_code 27 = .ok (.ireturn, 1) by decide +kernel)) ?_
  refine xA (ok_aload_n hC (show decode prog_14_method_63_code 28 = .ok (.aload_n 0, 1) by decide +kernel) rfl) ?_
  refine xA (ok_iconst hC (show decode prog_14_method_63_code 29 = .ok (.iconst 0, 1) by decide +kernel) (by decide)) ?_
  refine xA (ok_put hC (show decode prog_14_method_63_code 30 = .ok (.putfield 187, 3) by decide +kernel) (by decide) (r0 := ("StyleCourtModel", xF13, 85)) rfl (by decide) rfl (by decide +kernel) w_1145) ?_
  refine xA (ok_iload_n hC (show decode prog_14_method_63_code 33 = .ok (.iload_n 1, 1) by decide +kernel) rfl) ?_
  refine xA (ok_ifne hC (show decode prog_14_method_63_code 34 = .ok (.ifCond .ne 8, 3) by decide +kernel) (by decide)) ?_
  refine xA (ok_aload_n hC (show decode prog_14_method_63_code 37 = .ok (.aload_n 0, 1) by decide +kernel) rfl) ?_
  refine xA (ok_get hC (show decode prog_14_method_63_code 38 = .ok (.getfield 190, 3) by decide +kernel) (by decide) (r0 := ("StyleCourtModel", xF13, 85)) rfl (by decide) rfl w_1147) ?_
  refine xA (ok_iret hC hr (show decode prog_14_method_63_code 41 = .ok (.ireturn, 1) by decide +kernel)) ?_
  refine xA (ok_iload_n hC (show decode prog_14_method_63_code 42 = .ok (.iload_n 1, 1) by decide +kernel) rfl) ?_
  refine xA (ok_iconst hC (show decode prog_14_method_63_code 43 = .ok (.iconst 1, 1) by decide +kernel) (by decide)) ?_
  refine xA (ok_icne hC (show decode prog_14_method_63_code 44 = .ok (.if_icmp .ne 8, 3) by decide +kernel) (by decide)) ?_
  refine xA (ok_aload_n hC (show decode prog_14_method_63_code 47 = .ok (.aload_n 0, 1) by decide +kernel) rfl) ?_
  refine xA (ok_get hC (show decode prog_14_method_63_code 48 = .ok (.getfield 424, 3) by decide +kernel) (by decide) (r0 := ("StyleCourtModel", xF13, 85)) rfl (by decide) rfl w_1149) ?_
  refine xA (ok_iret hC hr (show decode prog_14_method_63_code 51 = .ok (.ireturn, 1) by decide +kernel)) ?_
  refine xA (ok_iload_n hC (show decode prog_14_method_63_code 52 = .ok (.iload_n 1, 1) by decide +kernel) rfl) ?_
  refine xA (ok_iconst hC (show decode prog_14_method_63_code 53 = .ok (.iconst 2, 1) by decide +kernel) (by decide)) ?_
  refine xA (ok_icne hC (show decode prog_14_method_63_code 54 = .ok (.if_icmp .ne 8, 3) by decide +kernel) (by decide)) ?_
  refine xA (ok_aload_n hC (show decode prog_14_method_63_code 57 = .ok (.aload_n 0, 1) by decide +kernel) rfl) ?_
  refine xA (ok_get hC (show decode prog_14_method_63_code 58 = .ok (.getfield 382, 3) by decide +kernel) (by decide) (r0 := ("StyleCourtModel", xF13, 85)) rfl (by decide) rfl w_1195) ?_
  refine xA (ok_iret hC hr (show decode prog_14_method_63_code 61 = .ok (.ireturn, 1) by decide +kernel)) ?_
  refine xA (ok_iload_n hC (show decode prog_14_method_63_code 62 = .ok (.iload_n 1, 1) by decide +kernel) rfl) ?_
  refine xA (ok_iconst hC (show decode prog_14_method_63_code 63 = .ok (.iconst 3, 1) by decide +kernel) (by decide)) ?_
  refine xA (ok_icne hC (show decode prog_14_method_63_code 64 = .ok (.if_icmp .ne 8, 3) by decide +kernel) (by decide)) ?_
  refine xA (ok_aload_n hC (show decode prog_14_method_63_code 67 = .ok (.aload_n 0, 1) by decide +kernel) rfl) ?_
  refine xA (ok_get hC (show decode prog_14_method_63_code 68 = .ok (.getfield 373, 3) by decide +kernel) (by decide) (r0 := ("StyleCourtModel", xF13, 85)) rfl (by decide) rfl w_1213) ?_
  refine xA (ok_iret hC hr (show decode prog_14_method_63_code 71 = .ok (.ireturn, 1) by decide +kernel)) ?_
  refine xA (ok_iload_n hC (show decode prog_14_method_63_code 72 = .ok (.iload_n 1, 1) by decide +kernel) rfl) ?_
  refine xA (ok_iconst hC (show decode prog_14_method_63_code 73 = .ok (.iconst 4, 1) by decide +kernel) (by decide)) ?_
  refine xA (ok_icne hC (show decode prog_14_method_63_code 74 = .ok (.if_icmp .ne 8, 3) by decide +kernel) (by decide)) ?_
  refine xA (ok_aload_n hC (show decode prog_14_method_63_code 77 = .ok (.aload_n 0, 1) by decide +kernel) rfl) ?_
  refine xA (ok_get hC (show decode prog_14_method_63_code 78 = .ok (.getfield 311, 3) by decide +kernel) (by decide) (r0 := ("StyleCourtModel", xF13, 85)) rfl (by decide) rfl w_1155) ?_
  refine xA (ok_iret hC hr (show decode prog_14_method_63_code 81 = .ok (.ireturn, 1) by decide +kernel)) ?_
  refine xA (ok_iload_n hC (show decode prog_14_method_63_code 82 = .ok (.iload_n 1, 1) by decide +kernel) rfl) ?_
  refine xA (ok_iconst hC (show decode prog_14_method_63_code 83 = .ok (.iconst 5, 1) by decide +kernel) (by decide)) ?_
  refine xA (ok_icne hC (show decode prog_14_method_63_code 84 = .ok (.if_icmp .ne 8, 3) by decide +kernel) (by decide)) ?_
  refine xA (ok_aload_n hC (show decode prog_14_method_63_code 87 = .ok (.aload_n 0, 1) by decide +kernel) rfl) ?_
  refine xA (ok_get hC (show decode prog_14_method_63_code 88 = .ok (.getfield 314, 3) by decide +kernel) (by decide) (r0 := ("StyleCourtModel", xF13, 85)) rfl (by decide) rfl w_1187) ?_
  refine xA (ok_iret hC hr (show decode prog_14_method_63_code 91 = .ok (.ireturn, 1) by decide +kernel)) ?_
  refine xA (ok_iload_n hC (show decode prog_14_method_63_code 92 = .ok (.iload_n 1, 1) by decide +kernel) rfl) ?_
  refine xA (ok_bipush hC (show decode prog_14_method_63_code 93 = .ok (.bipush 6, 2) by decide +kernel) (by decide)) ?_
  refine xA (ok_icne hC (show decode prog_14_method_63_code 95 = .ok (.if_icmp .ne 8, 3) by decide +kernel) (by decide)) ?_
  refine xA (ok_aload_n hC (show decode prog_14_method_63_code 98 = .ok (.aload_n 0, 1) by decide +kernel) rfl) ?_
  refine xA (ok_get hC (show decode prog_14_method_63_code 99 = .ok (.getfield 446, 3) by decide +kernel) (by decide) (r0 := ("StyleCourtModel", xF13, 85)) rfl (by decide) rfl w_1229) ?_
  refine xA (ok_iret hC hr (show decode prog_14_method_63_code 102 = .ok (.ireturn, 1) by decide +kernel)) ?_
  refine xA (ok_iload_n hC (show decode prog_14_method_63_code 103 = .ok (.iload_n 1, 1) by decide +kernel) rfl) ?_
  refine xA (ok_bipush hC (show decode prog_14_method_63_code 104 = .ok (.bipush 10, 2) by decide +kernel) (by decide)) ?_
  refine xA (ok_isub hC (show decode prog_14_method_63_code 106 = .ok (.isub, 1) by decide +kernel)) ?_
  refine xA (ok_aload_n hC (show decode prog_14_method_63_code 107 = .ok (.aload_n 0, 1) by decide +kernel) rfl) ?_
  refine xA (ok_get hC (show decode prog_14_method_63_code 108 = .ok (.getfield 382, 3) by decide +kernel) (by decide) (r0 := ("StyleCourtModel", xF13, 85)) rfl (by decide) rfl w_1195) ?_
  refine xA (ok_icge hC (show decode prog_14_method_63_code 111 = .ok (.if_icmp .ge 15, 3) by decide +kernel) (by decide)) ?_
  refine xA (ok_aload_n hC (show decode prog_14_method_63_code 114 = .ok (.aload_n 0, 1) by decide +kernel) rfl) ?_
  refine xA (ok_get hC (show decode prog_14_method_63_code 115 = .ok (.getfield 112, 3) by decide +kernel) (by decide) (r0 := ("StyleCourtModel", xF13, 85)) rfl (by decide) rfl w_1201) ?_
  refine xA (ok_iload_n hC (show decode prog_14_method_63_code 118 = .ok (.iload_n 1, 1) by decide +kernel) rfl) ?_
  refine xA (ok_bipush hC (show decode prog_14_method_63_code 119 = .ok (.bipush 10, 2) by decide +kernel) (by decide)) ?_
  refine xA (ok_isub hC (show decode prog_14_method_63_code 121 = .ok (.isub, 1) by decide +kernel)) ?_
  refine xA (ok_iald hC (show decode prog_14_method_63_code 122 = .ok (.iaload, 1) by decide +kernel) (by decide) rfl) ?_
  refine xA (ok_goto hC (show decode prog_14_method_63_code 123 = .ok (.goto 4, 3) by decide +kernel) (by decide)) ?_
  refine xA (ok_iconst hC (show decode prog_14_method_63_code 126 = .ok (.iconst (-1), 1) by decide +kernel) (by decide)) ?_
  refine xA (ok_iret hC hr (show decode prog_14_method_63_code 127 = .ok (.ireturn, 1) by decide +kernel)) ?_
  exact trivial
