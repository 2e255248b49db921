def tb_Mo_isFixed (X : xX) : List (Nat × xOp) := [(0, o_ald 0 1),
  (1, o_ald 0 2),
  (2, o_get 13 8 5),
  (5, o_ild 1 6),
  (6, o_iadd 7),
  (7, o_ild 2 8),
  (8, o_lc 27764 11),
  (11, o_callV X.l X.D X.P 13 0 4 y_Mo_isWord 14),
  (14, o_ifne 34 17),
  (17, o_ald 0 18),
  (18, o_ald 0 19),
  (19, o_get 13 8 22),
  (22, o_ild 1 23),
  (23, o_iadd 24),
  (24, o_ild 2 25),
  (25, o_lc 6385008 28),
  (28, o_callV X.l X.D X.P 13 0 4 y_Mo_isWord 31),
  (31, o_ifeq 38 34),
  (34, o_ic 1 35),
  (35, o_goto 39),
  (38, o_ic 0 39),
  (39, o_zret .boolean X.P)]
theorem tk_Mo_isFixed {X : xX} (hC : xCx X prog_14_method_21_code "StyleCourtModel" 3 1) (hr : X.meth.sig.returnType = (some .boolean)) (hnh : X.c.exceptionTable.isEmpty = true) (hin : X.meth.name = "isFixed") : xAll X (tb_Mo_isFixed X) := by
  refine xA (ok_aload_n hC (show decode prog_14_method_21_code 0 = .ok (.aload_n 0, 1) by decide +kernel) rfl) ?_
  refine xA (ok_aload_n hC (show decode prog_14_method_21_code 1 = .ok (.aload_n 0, 1) by decide +kernel) rfl) ?_
  refine xA (ok_get hC (show decode prog_14_method_21_code 2 = .ok (.getfield 205, 3) by decide +kernel) (by decide) (r0 := ("StyleCourtModel", xF13, 85)) rfl (by decide) rfl w_1153) ?_
  refine xA (ok_iload_n hC (show decode prog_14_method_21_code 5 = .ok (.iload_n 1, 1) by decide +kernel) rfl) ?_
  refine xA (ok_iadd hC (show decode prog_14_method_21_code 6 = .ok (.iadd, 1) by decide +kernel)) ?_
  refine xA (ok_iload_n hC (show decode prog_14_method_21_code 7 = .ok (.iload_n 2, 1) by decide +kernel) rfl) ?_
  refine xA (ok_ldc2 hC (show decode prog_14_method_21_code 8 = .ok (.ldc2_w 243, 3) by decide +kernel) w_1482) ?_
  refine xA (ok_callV hC hnh (show decode prog_14_method_21_code 11 = .ok (.invokevirtual 245, 3) by decide +kernel) (by decide) (by decide) (by decide) (r0 := ("StyleCourtModel", xF13, 85)) rfl ⟨by decide, by decide, by decide +kernel⟩ w_1486 w_83 w_1483 w_1485 w_38) ?_
  refine xA (ok_ifne hC (show decode prog_14_method_21_code 14 = .ok (.ifCond .ne 20, 3) by decide +kernel) (by decide)) ?_
  refine xA (ok_aload_n hC (show decode prog_14_method_21_code 17 = .ok (.aload_n 0, 1) by decide +kernel) rfl) ?_
  refine xA (ok_aload_n hC (show decode prog_14_method_21_code 18 = .ok (.aload_n 0, 1) by decide +kernel) rfl) ?_
  refine xA (ok_get hC (show decode prog_14_method_21_code 19 = .ok (.getfield 205, 3) by decide +kernel) (by decide) (r0 := ("StyleCourtModel", xF13, 85)) rfl (by decide) rfl w_1153) ?_
  refine xA (ok_iload_n hC (show decode prog_14_method_21_code 22 = .ok (.iload_n 1, 1) by decide +kernel) rfl) ?_
  refine xA (ok_iadd hC (show decode prog_14_method_21_code 23 = .ok (.iadd, 1) by decide +kernel)) ?_
  refine xA (ok_iload_n hC (show decode prog_14_method_21_code 24 = .ok (.iload_n 2, 1) by decide +kernel) rfl) ?_
  refine xA (ok_ldc2 hC (show decode prog_14_method_21_code 25 = .ok (.ldc2_w 249, 3) by decide +kernel) w_1487) ?_
  refine xA (ok_callV hC hnh (show decode prog_14_method_21_code 28 = .ok (.invokevirtual 245, 3) by decide +kernel) (by decide) (by decide) (by decide) (r0 := ("StyleCourtModel", xF13, 85)) rfl ⟨by decide, by decide, by decide +kernel⟩ w_1486 w_83 w_1483 w_1485 w_38) ?_
  refine xA (ok_ifeq hC (show decode prog_14_method_21_code 31 = .ok (.ifCond .eq 7, 3) by decide +kernel) (by decide)) ?_
  refine xA (ok_iconst hC (show decode prog_14_method_21_code 34 = .ok (.iconst 1, 1) by decide +kernel) (by decide)) ?_
  refine xA (ok_goto hC (show decode prog_14_method_21_code 35 = .ok (.goto 4, 3) by decide +kernel) (by decide)) ?_
  refine xA (ok_iconst hC (show decode prog_14_method_21_code 38 = .ok (.iconst 0, 1) by decide +kernel) (by decide)) ?_
  refine xA (ok_zret hC hr (show decode prog_14_method_21_code 39 = .ok (.ireturn, 1) by decide +kernel)) ?_
  exact trivial

def tb_Mo_isWord (X : xX) : List (Nat × xOp) := [(0, o_lc 0 1),
  (1, o_lst 5 3),
  (3, o_ild 2 4),
  (4, o_ic 7 6),
  (6, o_icle 11 9),
  (9, o_ic 0 10),
  (10, o_zret .boolean X.P),
  (11, o_ic 0 12),
  (12, o_ist 7 14),
  (14, o_ild 7 16),
  (16, o_ild 2 17),
  (17, o_icge 44 20),
  (20, o_lld 5 22),
  (22, o_ic 8 24),
  (24, o_lshl 25),
  (25, o_ald 0 26),
  (26, o_get 13 7 29),
  (29, o_ild 1 30),
  (30, o_ild 7 32),
  (32, o_iadd 33),
  (33, o_ld 0 34),
  (34, o_i2l 35),
  (35, o_lor 36),
  (36, o_lst 5 38),
  (38, o_inc 7 1 41),
  (41, o_goto 14),
  (44, o_lld 5 46),
  (46, o_lld 3 47),
  (47, o_lcmp 48),
  (48, o_ifne 55 51),
  (51, o_ic 1 52),
  (52, o_goto 56),
  (55, o_ic 0 56),
  (56, o_zret .boolean X.P)]
theorem tk_Mo_isWord {X : xX} (hC : xCx X prog_14_method_15_code "StyleCourtModel" 8 0) (hr : X.meth.sig.returnType = (some .boolean)) (hnh : X.c.exceptionTable.isEmpty = true) (hin : X.meth.name = "isWord") : xAll X (tb_Mo_isWord X) := by
  refine xA (ok_lconst hC (show decode prog_14_method_15_code 0 = .ok (.lconst 0, 1) by decide +kernel) (by decide)) ?_
  refine xA (ok_lstore hC (show decode prog_14_method_15_code 1 = .ok (.lstore 5, 2) by decide +kernel) (by decide)) ?_
  refine xA (ok_iload_n hC (show decode prog_14_method_15_code 3 = .ok (.iload_n 2, 1) by decide +kernel) rfl) ?_
  refine xA (ok_bipush hC (show decode prog_14_method_15_code 4 = .ok (.bipush 7, 2) by decide +kernel) (by decide)) ?_
  refine xA (ok_icle hC (show decode prog_14_method_15_code 6 = .ok (.if_icmp .le 5, 3) by decide +kernel) (by decide)) ?_
  refine xA (ok_iconst hC (show decode prog_14_method_15_code 9 = .ok (.iconst 0, 1) by decide +kernel) (by decide)) ?_
  refine xA (ok_zret hC hr (show decode prog_14_method_15_code 10 = .ok (.ireturn, 1) by decide +kernel)) ?_
  refine xA (ok_iconst hC (show decode prog_14_method_15_code 11 = .ok (.iconst 0, 1) by decide +kernel) (by decide)) ?_
  refine xA (ok_istore hC (show decode prog_14_method_15_code 12 = .ok (.istore 7, 2) by decide +kernel) (by decide)) ?_
  refine xA (ok_iload hC (show decode prog_14_method_15_code 14 = .ok (.iload 7, 2) by decide +kernel)) ?_
  refine xA (ok_iload_n hC (show decode prog_14_method_15_code 16 = .ok (.iload_n 2, 1) by decide +kernel) rfl) ?_
  refine xA (ok_icge hC (show decode prog_14_method_15_code 17 = .ok (.if_icmp .ge 27, 3) by decide +kernel) (by decide)) ?_
  refine xA (ok_lload hC (show decode prog_14_method_15_code 20 = .ok (.lload 5, 2) by decide +kernel)) ?_
  refine xA (ok_bipush hC (show decode prog_14_method_15_code 22 = .ok (.bipush 8, 2) by decide +kernel) (by decide)) ?_
  refine xA (ok_lshl hC (show decode prog_14_method_15_code 24 = .ok (.lshl, 1) by decide +kernel)) ?_
  refine xA (ok_aload_n hC (show decode prog_14_method_15_code 25 = .ok (.aload_n 0, 1) by decide +kernel) rfl) ?_
  refine xA (ok_get hC (show decode prog_14_method_15_code 26 = .ok (.getfield 21, 3) by decide +kernel) (by decide) (r0 := ("StyleCourtModel", xF13, 85)) rfl (by decide) rfl w_1152) ?_
  refine xA (ok_iload_n hC (show decode prog_14_method_15_code 29 = .ok (.iload_n 1, 1) by decide +kernel) rfl) ?_
  refine xA (ok_iload hC (show decode prog_14_method_15_code 30 = .ok (.iload 7, 2) by decide +kernel)) ?_
  refine xA (ok_iadd hC (show decode prog_14_method_15_code 32 = .ok (.iadd, 1) by decide +kernel)) ?_
  refine xA (ok_iald hC (show decode prog_14_method_15_code 33 = .ok (.iaload, 1) by decide +kernel) (by decide) rfl) ?_
  refine xA (ok_i2l hC (show decode prog_14_method_15_code 34 = .ok (.i2l, 1) by decide +kernel)) ?_
  refine xA (ok_lor hC (show decode prog_14_method_15_code 35 = .ok (.lor, 1) by decide +kernel)) ?_
  refine xA (ok_lstore hC (show decode prog_14_method_15_code 36 = .ok (.lstore 5, 2) by decide +kernel) (by decide)) ?_
  refine xA (ok_iinc hC (show decode prog_14_method_15_code 38 = .ok (.iinc 7 1, 3) by decide +kernel) (by decide) (by decide)) ?_
  refine xA (ok_goto hC (show decode prog_14_method_15_code 41 = .ok (.goto (-27), 3) by decide +kernel) (by decide)) ?_
  refine xA (ok_lload hC (show decode prog_14_method_15_code 44 = .ok (.lload 5, 2) by decide +kernel)) ?_
  refine xA (ok_lload_n hC (show decode prog_14_method_15_code 46 = .ok (.lload_n 3, 1) by decide +kernel) rfl) ?_
  refine xA (ok_lcmp hC (show decode prog_14_method_15_code 47 = .ok (.lcmp, 1) by decide +kernel)) ?_
  refine xA (ok_ifne hC (show decode prog_14_method_15_code 48 = .ok (.ifCond .ne 7, 3) by decide +kernel) (by decide)) ?_
  refine xA (ok_iconst hC (show decode prog_14_method_15_code 51 = .ok (.iconst 1, 1) by decide +kernel) (by decide)) ?_
  refine xA (ok_goto hC (show decode prog_14_method_15_code 52 = .ok (.goto 4, 3) by decide +kernel) (by decide)) ?_
  refine xA (ok_iconst hC (show decode prog_14_method_15_code 55 = .ok (.iconst 0, 1) by decide +kernel) (by decide)) ?_
  refine xA (ok_zret hC hr (show decode prog_14_method_15_code 56 = .ok (.ireturn, 1) by decide +kernel)) ?_
  exact trivial

def tb_Mo_entity (X : xX) : List (Nat × xOp) := [(0, o_ic 0 1),
  (1, o_ist 3 2),
  (2, o_ild 3 3),
  (3, o_ald 0 4),
  (4, o_get 13 37 7),
  (7, o_icge 49 10),
  (10, o_ald 0 11),
  (11, o_ald 0 12),
  (12, o_get 13 8 15),
  (15, o_ald 0 16),
  (16, o_get 13 33 19),
  (19, o_ild 3 20),
  (20, o_ld 0 21),
  (21, o_iadd 22),
  (22, o_ald 0 23),
  (23, o_get 13 34 26),
  (26, o_ild 3 27),
  (27, o_ld 0 28),
  (28, o_ald 0 29),
  (29, o_get 13 8 32),
  (32, o_ild 1 33),
  (33, o_iadd 34),
  (34, o_ild 2 35),
  (35, o_callV X.l X.D X.P 13 0 5 y_Mo_same 38),
  (38, o_ifeq 43 41),
  (41, o_ild 3 42),
  (42, o_iret X.P),
  (43, o_inc 3 1 46),
  (46, o_goto 2),
  (49, o_ic (-1) 50),
  (50, o_iret X.P)]
theorem tk_Mo_entity {X : xX} (hC : xCx X prog_14_method_20_code "StyleCourtModel" 4 1) (hr : X.meth.sig.returnType = (some .int)) (hnh : X.c.exceptionTable.isEmpty = true) (hin : X.meth.name = "entity") : xAll X (tb_Mo_entity X) := by
  refine xA (ok_iconst hC (show decode prog_14_method_20_code 0 = .ok (.iconst 0, 1) by decide +kernel) (by decide)) ?_
  refine xA (ok_istore_n hC (show decode prog_14_method_20_code 1 = .ok (.istore_n 3, 1) by decide +kernel) rfl (by decide)) ?_
  refine xA (ok_iload_n hC (show decode prog_14_method_20_code 2 = .ok (.iload_n 3, 1) by decide +kernel) rfl) ?_
  refine xA (ok_aload_n hC (show decode prog_14_method_20_code 3 = .ok (.aload_n 0, 1) by decide +kernel) rfl) ?_
  refine xA (ok_get hC (show decode prog_14_method_20_code 4 = .ok (.getfield 236, 3) by decide +kernel) (by decide) (r0 := ("StyleCourtModel", xF13, 85)) rfl (by decide) rfl w_1182) ?_
  refine xA (ok_icge hC (show decode prog_14_method_20_code 7 = .ok (.if_icmp .ge 42, 3) by decide +kernel) (by decide)) ?_
  refine xA (ok_aload_n hC (show decode prog_14_method_20_code 10 = .ok (.aload_n 0, 1) by decide +kernel) rfl) ?_
  refine xA (ok_aload_n hC (show decode prog_14_method_20_code 11 = .ok (.aload_n 0, 1) by decide +kernel) rfl) ?_
  refine xA (ok_get hC (show decode prog_14_method_20_code 12 = .ok (.getfield 205, 3) by decide +kernel) (by decide) (r0 := ("StyleCourtModel", xF13, 85)) rfl (by decide) rfl w_1153) ?_
  refine xA (ok_aload_n hC (show decode prog_14_method_20_code 15 = .ok (.aload_n 0, 1) by decide +kernel) rfl) ?_
  refine xA (ok_get hC (show decode prog_14_method_20_code 16 = .ok (.getfield 85, 3) by decide +kernel) (by decide) (r0 := ("StyleCourtModel", xF13, 85)) rfl (by decide) rfl w_1178) ?_
  refine xA (ok_iload_n hC (show decode prog_14_method_20_code 19 = .ok (.iload_n 3, 1) by decide +kernel) rfl) ?_
  refine xA (ok_iald hC (show decode prog_14_method_20_code 20 = .ok (.iaload, 1) by decide +kernel) (by decide) rfl) ?_
  refine xA (ok_iadd hC (show decode prog_14_method_20_code 21 = .ok (.iadd, 1) by decide +kernel)) ?_
  refine xA (ok_aload_n hC (show decode prog_14_method_20_code 22 = .ok (.aload_n 0, 1) by decide +kernel) rfl) ?_
  refine xA (ok_get hC (show decode prog_14_method_20_code 23 = .ok (.getfield 88, 3) by decide +kernel) (by decide) (r0 := ("StyleCourtModel", xF13, 85)) rfl (by decide) rfl w_1179) ?_
  refine xA (ok_iload_n hC (show decode prog_14_method_20_code 26 = .ok (.iload_n 3, 1) by decide +kernel) rfl) ?_
  refine xA (ok_iald hC (show decode prog_14_method_20_code 27 = .ok (.iaload, 1) by decide +kernel) (by decide) rfl) ?_
  refine xA (ok_aload_n hC (show decode prog_14_method_20_code 28 = .ok (.aload_n 0, 1) by decide +kernel) rfl) ?_
  refine xA (ok_get hC (show decode prog_14_method_20_code 29 = .ok (.getfield 205, 3) by decide +kernel) (by decide) (r0 := ("StyleCourtModel", xF13, 85)) rfl (by decide) rfl w_1153) ?_
  refine xA (ok_iload_n hC (show decode prog_14_method_20_code 32 = .ok (.iload_n 1, 1) by decide +kernel) rfl) ?_
  refine xA (ok_iadd hC (show decode prog_14_method_20_code 33 = .ok (.iadd, 1) by decide +kernel)) ?_
  refine xA (ok_iload_n hC (show decode prog_14_method_20_code 34 = .ok (.iload_n 2, 1) by decide +kernel) rfl) ?_
  refine xA (ok_callV hC hnh (show decode prog_14_method_20_code 35 = .ok (.invokevirtual 239, 3) by decide +kernel) (by decide) (by decide) (by decide) (r0 := ("StyleCourtModel", xF13, 85)) rfl ⟨by decide, by decide, by decide +kernel⟩ w_1462 w_83 w_1459 w_1461 w_33) ?_
  refine xA (ok_ifeq hC (show decode prog_14_method_20_code 38 = .ok (.ifCond .eq 5, 3) by decide +kernel) (by decide)) ?_
  refine xA (ok_iload_n hC (show decode prog_14_method_20_code 41 = .ok (.iload_n 3, 1) by decide +kernel) rfl) ?_
  refine xA (ok_iret hC hr (show decode prog_14_method_20_code 42 = .ok (.ireturn, 1) by decide +kernel)) ?_
  refine xA (ok_iinc hC (show decode prog_14_method_20_code 43 = .ok (.iinc 3 1, 3) by decide +kernel) (by decide) (by decide)) ?_
  refine xA (ok_goto hC (show decode prog_14_method_20_code 46 = .ok (.goto (-44), 3) by decide +kernel) (by decide)) ?_
  refine xA (ok_iconst hC (show decode prog_14_method_20_code 49 = .ok (.iconst (-1), 1) by decide +kernel) (by decide)) ?_
  refine xA (ok_iret hC hr (show decode prog_14_method_20_code 50 = .ok (.ireturn, 1) by decide +kernel)) ?_
  exact trivial

def tb_Mo_stringFrom (X : xX) : List (Nat × xOp) := [(0, o_ald 0 1),
  (1, o_ild 1 2),
  (2, o_callV X.l X.D X.P 13 0 2 y_Mo_byteAt 5),
  (5, o_ic 34 7),
  (7, o_iceq 17 10),
  (10, o_ald 0 11),
  (11, o_ild 1 12),
  (12, o_callV X.l X.D X.P 13 0 2 y_Mo_wrong 15),
  (15, o_ild 1 16),
  (16, o_iret X.P),
  (17, o_ild 1 18),
  (18, o_ic 1 19),
  (19, o_iadd 20),
  (20, o_ist 2 21),
  (21, o_ald 0 22),
  (22, o_ild 2 23),
  (23, o_callV X.l X.D X.P 13 0 2 y_Mo_byteAt 26),
  (26, o_ic 32 28),
  (28, o_iclt 57 31),
  (31, o_ald 0 32),
  (32, o_ild 2 33),
  (33, o_callV X.l X.D X.P 13 0 2 y_Mo_byteAt 36),
  (36, o_ic 126 38),
  (38, o_icgt 57 41),
  (41, o_ald 0 42),
  (42, o_ild 2 43),
  (43, o_callV X.l X.D X.P 13 0 2 y_Mo_byteAt 46),
  (46, o_ic 34 48),
  (48, o_iceq 57 51),
  (51, o_inc 2 1 54),
  (54, o_goto 21),
  (57, o_ald 0 58),
  (58, o_ild 2 59),
  (59, o_callV X.l X.D X.P 13 0 2 y_Mo_byteAt 62),
  (62, o_ic 34 64),
  (64, o_iceq 72 67),
  (67, o_ald 0 68),
  (68, o_ild 1 69),
  (69, o_callV X.l X.D X.P 13 0 2 y_Mo_wrong 72),
  (72, o_ild 2 73),
  (73, o_ic 1 74),
  (74, o_iadd 75),
  (75, o_iret X.P)]
theorem tk_Mo_stringFrom {X : xX} (hC : xCx X prog_14_method_17_code "StyleCourtModel" 3 1) (hr : X.meth.sig.returnType = (some .int)) (hnh : X.c.exceptionTable.isEmpty = true) (hin : X.meth.name = "stringFrom") : xAll X (tb_Mo_stringFrom X) := by
  refine xA (ok_aload_n hC (show decode prog_14_method_17_code 0 = .ok (.aload_n 0, 1) by decide +kernel) rfl) ?_
  refine xA (ok_iload_n hC (show decode prog_14_method_17_code 1 = .ok (.iload_n 1, 1) by decide +kernel) rfl) ?_
  refine xA (ok_callV hC hnh (show decode prog_14_method_17_code 2 = .ok (.invokevirtual 214, 3) by decide +kernel) (by decide) (by decide) (by decide) (r0 := ("StyleCourtModel", xF13, 85)) rfl ⟨by decide, by decide, by decide +kernel⟩ w_1440 w_83 w_1437 w_1439 w_29) ?_
  refine xA (ok_bipush hC (show decode prog_14_method_17_code 5 = .ok (.bipush 34, 2) by decide +kernel) (by decide)) ?_
  refine xA (ok_iceq hC (show decode prog_14_method_17_code 7 = .ok (.if_icmp .eq 10, 3) by decide +kernel) (by decide)) ?_
  refine xA (ok_aload_n hC (show decode prog_14_method_17_code 10 = .ok (.aload_n 0, 1) by decide +kernel) rfl) ?_
  refine xA (ok_iload_n hC (show decode prog_14_method_17_code 11 = .ok (.iload_n 1, 1) by decide +kernel) rfl) ?_
  refine xA (ok_callV hC hnh (show decode prog_14_method_17_code 12 = .ok (.invokevirtual 221, 3) by decide +kernel) (by decide) (by decide) (by decide) (r0 := ("StyleCourtModel", xF13, 85)) rfl ⟨by decide, by decide, by decide +kernel⟩ w_1448 w_83 w_1445 w_1447 w_31) ?_
  refine xA (ok_iload_n hC (show decode prog_14_method_17_code 15 = .ok (.iload_n 1, 1) by decide +kernel) rfl) ?_
  refine xA (ok_iret hC hr (show decode prog_14_method_17_code 16 = .ok (.ireturn, 1) by decide +kernel)) ?_
  refine xA (ok_iload_n hC (show decode prog_14_method_17_code 17 = .ok (.iload_n 1, 1) by decide +kernel) rfl) ?_
  refine xA (ok_iconst hC (show decode prog_14_method_17_code 18 = .ok (.iconst 1, 1) by decide +kernel) (by decide)) ?_
  refine xA (ok_iadd hC (show decode prog_14_method_17_code 19 = .ok (.iadd, 1) by decide +kernel)) ?_
  refine xA (ok_istore_n hC (show decode prog_14_method_17_code 20 = .ok (.istore_n 2, 1) by decide +kernel) rfl (by decide)) ?_
  refine xA (ok_aload_n hC (show decode prog_14_method_17_code 21 = .ok (.aload_n 0, 1) by decide +kernel) rfl) ?_
  refine xA (ok_iload_n hC (show decode prog_14_method_17_code 22 = .ok (.iload_n 2, 1) by decide +kernel) rfl) ?_
  refine xA (ok_callV hC hnh (show decode prog_14_method_17_code 23 = .ok (.invokevirtual 214, 3) by decide +kernel) (by decide) (by decide) (by decide) (r0 := ("StyleCourtModel", xF13, 85)) rfl ⟨by decide, by decide, by decide +kernel⟩ w_1440 w_83 w_1437 w_1439 w_29) ?_
  refine xA (ok_bipush hC (show decode prog_14_method_17_code 26 = .ok (.bipush 32, 2) by decide +kernel) (by decide)) ?_
  refine xA (ok_iclt hC (show decode prog_14_method_17_code 28 = .ok (.if_icmp .lt 29, 3) by decide +kernel) (by decide)) ?_
  refine xA (ok_aload_n hC (show decode prog_14_method_17_code 31 = .ok (.aload_n 0, 1) by decide +kernel) rfl) ?_
  refine xA (ok_iload_n hC (show decode prog_14_method_17_code 32 = .ok (.iload_n 2, 1) by decide +kernel) rfl) ?_
  refine xA (ok_callV hC hnh (show decode prog_14_method_17_code 33 = .ok (.invokevirtual 214, 3) by decide +kernel) (by decide) (by decide) (by decide) (r0 := ("StyleCourtModel", xF13, 85)) rfl ⟨by decide, by decide, by decide +kernel⟩ w_1440 w_83 w_1437 w_1439 w_29) ?_
  refine xA (ok_bipush hC (show decode prog_14_method_17_code 36 = .ok (.bipush 126, 2) by decide +kernel) (by decide)) ?_
  refine xA (ok_icgt hC (show decode prog_14_method_17_code 38 = .ok (.if_icmp .gt 19, 3) by decide +kernel) (by decide)) ?_
  refine xA (ok_aload_n hC (show decode prog_14_method_17_code 41 = .ok (.aload_n 0, 1) by decide +kernel) rfl) ?_
  refine xA (ok_iload_n hC (show decode prog_14_method_17_code 42 = .ok (.iload_n 2, 1) by decide +kernel) rfl) ?_
  refine xA (ok_callV hC hnh (show decode prog_14_method_17_code 43 = .ok (.invokevirtual 214, 3) by decide +kernel) (by decide) (by decide) (by decide) (r0 := ("StyleCourtModel", xF13, 85)) rfl ⟨by decide, by decide, by decide +kernel⟩ w_1440 w_83 w_1437 w_1439 w_29) ?_
  refine xA (ok_bipush hC (show decode prog_14_method_17_code 46 = .ok (.bipush 34, 2) by decide +kernel) (by decide)) ?_
  refine xA (ok_iceq hC (show decode prog_14_method_17_code 48 = .ok (.if_icmp .eq 9, 3) by decide +kernel) (by decide)) ?_
  refine xA (ok_iinc hC (show decode prog_14_method_17_code 51 = .ok (.iinc 2 1, 3) by decide +kernel) (by decide) (by decide)) ?_
  refine xA (ok_goto hC (show decode prog_14_method_17_code 54 = .ok (.goto (-33), 3) by decide +kernel) (by decide)) ?_
  refine xA (ok_aload_n hC (show decode prog_14_method_17_code 57 = .ok (.aload_n 0, 1) by decide +kernel) rfl) ?_
  refine xA (ok_iload_n hC (show decode prog_14_method_17_code 58 = .ok (.iload_n 2, 1) by decide +kernel) rfl) ?_
  refine xA (ok_callV hC hnh (show decode prog_14_method_17_code 59 = .ok (.invokevirtual 214, 3) by decide +kernel) (by decide) (by decide) (by decide) (r0 := ("StyleCourtModel", xF13, 85)) rfl ⟨by decide, by decide, by decide +kernel⟩ w_1440 w_83 w_1437 w_1439 w_29) ?_
  refine xA (ok_bipush hC (show decode prog_14_method_17_code 62 = .ok (.bipush 34, 2) by decide +kernel) (by decide)) ?_
  refine xA (ok_iceq hC (show decode prog_14_method_17_code 64 = .ok (.if_icmp .eq 8, 3) by decide +kernel) (by decide)) ?_
  refine xA (ok_aload_n hC (show decode prog_14_method_17_code 67 = .ok (.aload_n 0, 1) by decide +kernel) rfl) ?_
  refine xA (ok_iload_n hC (show decode prog_14_method_17_code 68 = .ok (.iload_n 1, 1) by decide +kernel) rfl) ?_
  refine xA (ok_callV hC hnh (show decode prog_14_method_17_code 69 = .ok (.invokevirtual 221, 3) by decide +kernel) (by decide) (by decide) (by decide) (r0 := ("StyleCourtModel", xF13, 85)) rfl ⟨by decide, by decide, by decide +kernel⟩ w_1448 w_83 w_1445 w_1447 w_31) ?_
  refine xA (ok_iload_n hC (show decode prog_14_method_17_code 72 = .ok (.iload_n 2, 1) by decide +kernel) rfl) ?_
  refine xA (ok_iconst hC (show decode prog_14_method_17_code 73 = .ok (.iconst 1, 1) by decide +kernel) (by decide)) ?_
  refine xA (ok_iadd hC (show decode prog_14_method_17_code 74 = .ok (.iadd, 1) by decide +kernel)) ?_
  refine xA (ok_iret hC hr (show decode prog_14_method_17_code 75 = .ok (.ireturn, 1) by decide +kernel)) ?_
  exact trivial

def tb_Mo_behindString (X : xX) : List (Nat × xOp) := [(0, o_ild 1 1),
  (1, o_ic 1 2),
  (2, o_iadd 3),
  (3, o_ist 2 4),
  (4, o_ald 0 5),
  (5, o_ild 2 6),
  (6, o_callV X.l X.D X.P 13 0 2 y_Mo_byteAt 9),
  (9, o_ic 34 11),
  (11, o_iceq 20 14),
  (14, o_inc 2 1 17),
  (17, o_goto 4),
  (20, o_ild 2 21),
  (21, o_ic 1 22),
  (22, o_iadd 23),
  (23, o_iret X.P)]
theorem tk_Mo_behindString {X : xX} (hC : xCx X prog_14_method_24_code "StyleCourtModel" 3 1) (hr : X.meth.sig.returnType = (some .int)) (hnh : X.c.exceptionTable.isEmpty = true) (hin : X.meth.name = "behindString") : xAll X (tb_Mo_behindString X) := by
  refine xA (ok_iload_n hC (show decode prog_14_method_24_code 0 = .ok (.iload_n 1, 1) by decide +kernel) rfl) ?_
  refine xA (ok_iconst hC (show decode prog_14_method_24_code 1 = .ok (.iconst 1, 1) by decide +kernel) (by decide)) ?_
  refine xA (ok_iadd hC (show decode prog_14_method_24_code 2 = .ok (.iadd, 1) by decide +kernel)) ?_
  refine xA (ok_istore_n hC (show decode prog_14_method_24_code 3 = .ok (.istore_n 2, 1) by decide +kernel) rfl (by decide)) ?_
  refine xA (ok_aload_n hC (show decode prog_14_method_24_code 4 = .ok (.aload_n 0, 1) by decide +kernel) rfl) ?_
  refine xA (ok_iload_n hC (show decode prog_14_method_24_code 5 = .ok (.iload_n 2, 1) by decide +kernel) rfl) ?_
  refine xA (ok_callV hC hnh (show decode prog_14_method_24_code 6 = .ok (.invokevirtual 214, 3) by decide +kernel) (by decide) (by decide) (by decide) (r0 := ("StyleCourtModel", xF13, 85)) rfl ⟨by decide, by decide, by decide +kernel⟩ w_1440 w_83 w_1437 w_1439 w_29) ?_
  refine xA (ok_bipush hC (show decode prog_14_method_24_code 9 = .ok (.bipush 34, 2) by decide +kernel) (by decide)) ?_
  refine xA (ok_iceq hC (show decode prog_14_method_24_code 11 = .ok (.if_icmp .eq 9, 3) by decide +kernel) (by decide)) ?_
  refine xA (ok_iinc hC (show decode prog_14_method_24_code 14 = .ok (.iinc 2 1, 3) by decide +kernel) (by decide) (by decide)) ?_
  refine xA (ok_goto hC (show decode prog_14_method_24_code 17 = .ok (.goto (-13), 3) by decide +kernel) (by decide)) ?_
  refine xA (ok_iload_n hC (show decode prog_14_method_24_code 20 = .ok (.iload_n 2, 1) by decide +kernel) rfl) ?_
  refine xA (ok_iconst hC (show decode prog_14_method_24_code 21 = .ok (.iconst 1, 1) by decide +kernel) (by decide)) ?_
  refine xA (ok_iadd hC (show decode prog_14_method_24_code 22 = .ok (.iadd, 1) by decide +kernel)) ?_
  refine xA (ok_iret hC hr (show decode prog_14_method_24_code 23 = .ok (.ireturn, 1) by decide +kernel)) ?_
  exact trivial

def tb_Mo_opened (X : xX) : List (Nat × xOp) := [(0, o_ald 0 1),
  (1, o_get 13 11 4),
  (4, o_ist 2 5),
  (5, o_ald 0 6),
  (6, o_get 13 38 9),
  (9, o_ic 1 10),
  (10, o_iadd 11),
  (11, o_ist 3 12),
  (12, o_ald 0 13),
  (13, o_ild 3 14),
  (14, o_callV X.l X.D X.P 13 1 2 y_Mo_nameFrom 17),
  (17, o_ist 4 19),
  (19, o_ald 0 20),
  (20, o_get 13 6 23),
  (23, o_iflt 28 26),
  (26, o_ild 1 27),
  (27, o_iret X.P),
  (28, o_ild 1 29),
  (29, o_ifge 36 32),
  (32, o_ic 0 33),
  (33, o_goto 44),
  (36, o_ald 0 37),
  (37, o_get 13 18 40),
  (40, o_ild 1 41),
  (41, o_ld 0 42),
  (42, o_ic 1 43),
  (43, o_iadd 44),
  (44, o_ist 5 46),
  (46, o_ild 2 47),
  (47, o_ic 500 50),
  (50, o_iceq 60 53),
  (53, o_ild 5 55),
  (55, o_ic 20 57),
  (57, o_icne 67 60),
  (60, o_ald 0 61),
  (61, o_ild 3 62),
  (62, o_callV X.l X.D X.P 13 0 2 y_Mo_wrong 65),
  (65, o_ild 1 66),
  (66, o_iret X.P),
  (67, o_ald 0 68),
  (68, o_get 13 12 71),
  (71, o_ild 2 72),
  (72, o_ild 3 73),
  (73, o_iast 0 74),
  (74, o_ald 0 75),
  (75, o_get 13 13 78),
  (78, o_ild 2 79),
  (79, o_ild 4 81),
  (81, o_ild 3 82),
  (82, o_isub 83),
  (83, o_iast 0 84),
  (84, o_ald 0 85),
  (85, o_get 13 14 88),
  (88, o_ild 2 89),
  (89, o_ild 1 90),
  (90, o_iast 0 91),
  (91, o_ald 0 92),
  (92, o_get 13 18 95),
  (95, o_ild 2 96),
  (96, o_ild 5 98),
  (98, o_iast 0 99),
  (99, o_ald 0 100),
  (100, o_get 13 20 103),
  (103, o_ild 2 104),
  (104, o_ald 0 105),
  (105, o_get 13 38 108),
  (108, o_iast 0 109),
  (109, o_ald 0 110),
  (110, o_get 13 16 113),
  (113, o_ild 2 114),
  (114, o_ic 0 115),
  (115, o_iast 0 116),
  (116, o_ald 0 117),
  (117, o_get 13 24 120),
  (120, o_ild 2 121),
  (121, o_ic (-1) 122),
  (122, o_iast 0 123),
  (123, o_ald 0 124),
  (124, o_get 13 19 127),
  (127, o_ild 2 128),
  (128, o_ic 0 129),
  (129, o_iast 0 130),
  (130, o_ald 0 131),
  (131, o_get 13 25 134),
  (134, o_ild 2 135),
  (135, o_ic 1 136),
  (136, o_zast 3 137),
  (137, o_ald 0 138),
  (138, o_get 13 22 141),
  (141, o_ild 2 142),
  (142, o_ald 0 143),
  (143, o_get 13 32 146),
  (146, o_iast 0 147),
  (147, o_ild 1 148),
  (148, o_ifge 189 151),
  (151, o_ald 0 152),
  (152, o_dup 153),
  (153, o_get 13 39 156),
  (156, o_ic 1 157),
  (157, o_iadd 158),
  (158, o_put 13 39 (.int) 161),
  (161, o_ald 0 162),
  (162, o_get 13 17 165),
  (165, o_ild 2 166),
  (166, o_ald 0 167),
  (167, o_get 13 39 170),
  (170, o_iast 0 171),
  (171, o_ald 0 172),
  (172, o_get 13 15 175),
  (175, o_ild 2 176),
  (176, o_ald 0 177),
  (177, o_get 13 40 180),
  (180, o_iast 0 181),
  (181, o_ald 0 182),
  (182, o_ild 2 183),
  (183, o_put 13 40 (.int) 186),
  (186, o_goto 237),
  (189, o_ald 0 190),
  (190, o_get 13 16 193),
  (193, o_ild 1 194),
  (194, o_dup2 195),
  (195, o_ld 0 196),
  (196, o_ic 1 197),
  (197, o_iadd 198),
  (198, o_iast 0 199),
  (199, o_ald 0 200),
  (200, o_get 13 17 203),
  (203, o_ild 2 204),
  (204, o_ald 0 205),
  (205, o_get 13 16 208),
  (208, o_ild 1 209),
  (209, o_ld 0 210),
  (210, o_iast 0 211),
  (211, o_ald 0 212),
  (212, o_get 13 15 215),
  (215, o_ild 2 216),
  (216, o_ald 0 217),
  (217, o_get 13 24 220),
  (220, o_ild 1 221),
  (221, o_ld 0 222),
  (222, o_iast 0 223),
  (223, o_ald 0 224),
  (224, o_get 13 24 227),
  (227, o_ild 1 228),
  (228, o_ild 2 229),
  (229, o_iast 0 230),
  (230, o_ald 0 231),
  (231, o_get 13 25 234),
  (234, o_ild 1 235),
  (235, o_ic 0 236),
  (236, o_zast 3 237),
  (237, o_ald 0 238),
  (238, o_dup 239),
  (239, o_get 13 11 242),
  (242, o_ic 1 243),
  (243, o_iadd 244),
  (244, o_put 13 11 (.int) 247),
  (247, o_ald 0 248),
  (248, o_ild 4 250),
  (250, o_put 13 38 (.int) 253),
  (253, o_ald 0 254),
  (254, o_get 13 6 257),
  (257, o_ifge 402 260),
  (260, o_ald 0 261),
  (261, o_get 13 38 264),
  (264, o_ist 6 266),
  (266, o_ald 0 267),
  (267, o_callV X.l X.D X.P 13 1 1 y_Mo_blanks 270),
  (270, o_ald 0 271),
  (271, o_ald 0 272),
  (272, o_get 13 38 275),
  (275, o_callV X.l X.D X.P 13 0 2 y_Mo_byteAt 278),
  (278, o_ist 7 280),
  (280, o_ild 7 282),
  (282, o_ic 62 284),
  (284, o_icne 299 287),
  (287, o_ald 0 288),
  (288, o_dup 289),
  (289, o_get 13 38 292),
  (292, o_ic 1 293),
  (293, o_iadd 294),
  (294, o_put 13 38 (.int) 297),
  (297, o_ild 2 298),
  (298, o_iret X.P),
  (299, o_ild 7 301),
  (301, o_ic 47 303),
  (303, o_icne 375 306),
  (306, o_ald 0 307),
  (307, o_dup 308),
  (308, o_get 13 38 311),
  (311, o_ic 1 312),
  (312, o_iadd 313),
  (313, o_put 13 38 (.int) 316),
  (316, o_ald 0 317),
  (317, o_callV X.l X.D X.P 13 1 1 y_Mo_blanks 320),
  (320, o_ald 0 321),
  (321, o_ald 0 322),
  (322, o_get 13 38 325),
  (325, o_callV X.l X.D X.P 13 0 2 y_Mo_byteAt 328),
  (328, o_ic 62 330),
  (330, o_iceq 343 333),
  (333, o_ald 0 334),
  (334, o_ald 0 335),
  (335, o_get 13 38 338),
  (338, o_callV X.l X.D X.P 13 0 2 y_Mo_wrong 341),
  (341, o_ild 2 342),
  (342, o_iret X.P),
  (343, o_ald 0 344),
  (344, o_dup 345),
  (345, o_get 13 38 348),
  (348, o_ic 1 349),
  (349, o_iadd 350),
  (350, o_put 13 38 (.int) 353),
  (353, o_ald 0 354),
  (354, o_get 13 23 357),
  (357, o_ild 2 358),
  (358, o_ald 0 359),
  (359, o_get 13 32 362),
  (362, o_iast 0 363),
  (363, o_ald 0 364),
  (364, o_get 13 21 367),
  (367, o_ild 2 368),
  (368, o_ald 0 369),
  (369, o_get 13 38 372),
  (372, o_iast 0 373),
  (373, o_ild 1 374),
  (374, o_iret X.P),
  (375, o_ald 0 376),
  (376, o_get 13 38 379),
  (379, o_ild 6 381),
  (381, o_icne 394 384),
  (384, o_ald 0 385),
  (385, o_ald 0 386),
  (386, o_get 13 38 389),
  (389, o_callV X.l X.D X.P 13 0 2 y_Mo_wrong 392),
  (392, o_ild 2 393),
  (393, o_iret X.P),
  (394, o_ald 0 395),
  (395, o_ild 2 396),
  (396, o_callV X.l X.D X.P 13 2 2 y_Mo_field 399),
  (399, o_goto 253),
  (402, o_ild 2 403),
  (403, o_iret X.P)]
theorem tk_Mo_opened {X : xX} (hC : xCx X prog_14_method_26_code "StyleCourtModel" 8 3) (hr : X.meth.sig.returnType = (some .int)) (hnh : X.c.exceptionTable.isEmpty = true) (hin : X.meth.name = "opened") : xAll X (tb_Mo_opened X) := by
  refine xA (ok_aload_n hC (show decode prog_14_method_26_code 0 = .ok (.aload_n 0, 1) by decide +kernel) rfl) ?_
  refine xA (ok_get hC (show decode prog_14_method_26_code 1 = .ok (.getfield 275, 3) by decide +kernel) (by decide) (r0 := ("StyleCourtModel", xF13, 85)) rfl (by decide) rfl w_1156) ?_
  refine xA (ok_istore_n hC (show decode prog_14_method_26_code 4 = .ok (.istore_n 2, 1) by decide +kernel) rfl (by decide)) ?_
  refine xA (ok_aload_n hC (show decode prog_14_method_26_code 5 = .ok (.aload_n 0, 1) by decide +kernel) rfl) ?_
  refine xA (ok_get hC (show decode prog_14_method_26_code 6 = .ok (.getfield 227, 3) by decide +kernel) (by decide) (r0 := ("StyleCourtModel", xF13, 85)) rfl (by decide) rfl w_1183) ?_
  refine xA (ok_iconst hC (show decode prog_14_method_26_code 9 = .ok (.iconst 1, 1) by decide +kernel) (by decide)) ?_
  refine xA (ok_iadd hC (show decode prog_14_method_26_code 10 = .ok (.iadd, 1) by decide +kernel)) ?_
  refine xA (ok_istore_n hC (show decode prog_14_method_26_code 11 = .ok (.istore_n 3, 1) by decide +kernel) rfl (by decide)) ?_
  refine xA (ok_aload_n hC (show decode prog_14_method_26_code 12 = .ok (.aload_n 0, 1) by decide +kernel) rfl) ?_
  refine xA (ok_iload_n hC (show decode prog_14_method_26_code 13 = .ok (.iload_n 3, 1) by decide +kernel) rfl) ?_
  refine xA (ok_callV hC hnh (show decode prog_14_method_26_code 14 = .ok (.invokevirtual 251, 3) by decide +kernel) (by decide) (by decide) (by decide) (r0 := ("StyleCourtModel", xF13, 85)) rfl ⟨by decide, by decide, by decide +kernel⟩ w_1452 w_83 w_1449 w_1451 w_32) ?_
  refine xA (ok_istore hC (show decode prog_14_method_26_code 17 = .ok (.istore 4, 2) by decide +kernel) (by decide)) ?_
  refine xA (ok_aload_n hC (show decode prog_14_method_26_code 19 = .ok (.aload_n 0, 1) by decide +kernel) rfl) ?_
  refine xA (ok_get hC (show decode prog_14_method_26_code 20 = .ok (.getfield 211, 3) by decide +kernel) (by decide) (r0 := ("StyleCourtModel", xF13, 85)) rfl (by decide) rfl w_1151) ?_
  refine xA (ok_iflt hC (show decode prog_14_method_26_code 23 = .ok (.ifCond .lt 5, 3) by decide +kernel) (by decide)) ?_
  refine xA (ok_iload_n hC (show decode prog_14_method_26_code 26 = .ok (.iload_n 1, 1) by decide +kernel) rfl) ?_
  refine xA (ok_iret hC hr (show decode prog_14_method_26_code 27 = .ok (.ireturn, 1) by decide +kernel)) ?_
  refine xA (ok_iload_n hC (show decode prog_14_method_26_code 28 = .ok (.iload_n 1, 1) by decide +kernel) rfl) ?_
  refine xA (ok_ifge hC (show decode prog_14_method_26_code 29 = .ok (.ifCond .ge 7, 3) by decide +kernel) (by decide)) ?_
  refine xA (ok_iconst hC (show decode prog_14_method_26_code 32 = .ok (.iconst 0, 1) by decide +kernel) (by decide)) ?_
  refine xA (ok_goto hC (show decode prog_14_method_26_code 33 = .ok (.goto 11, 3) by decide +kernel) (by decide)) ?_
  refine xA (ok_aload_n hC (show decode prog_14_method_26_code 36 = .ok (.aload_n 0, 1) by decide +kernel) rfl) ?_
  refine xA (ok_get hC (show decode prog_14_method_26_code 37 = .ok (.getfield 42, 3) by decide +kernel) (by decide) (r0 := ("StyleCourtModel", xF13, 85)) rfl (by decide) rfl w_1163) ?_
  refine xA (ok_iload_n hC (show decode prog_14_method_26_code 40 = .ok (.iload_n 1, 1) by decide +kernel) rfl) ?_
  refine xA (ok_iald hC (show decode prog_14_method_26_code 41 = .ok (.iaload, 1) by decide +kernel) (by decide) rfl) ?_
  refine xA (ok_iconst hC (show decode prog_14_method_26_code 42 = .ok (.iconst 1, 1) by decide +kernel) (by decide)) ?_
  refine xA (ok_iadd hC (show decode prog_14_method_26_code 43 = .ok (.iadd, 1) by decide +kernel)) ?_
  refine xA (ok_istore hC (show decode prog_14_method_26_code 44 = .ok (.istore 5, 2) by decide +kernel) (by decide)) ?_
  refine xA (ok_iload_n hC (show decode prog_14_method_26_code 46 = .ok (.iload_n 2, 1) by decide +kernel) rfl) ?_
  refine xA (ok_sipush hC (show decode prog_14_method_26_code 47 = .ok (.sipush 500, 3) by decide +kernel) (by decide)) ?_
  refine xA (ok_iceq hC (show decode prog_14_method_26_code 50 = .ok (.if_icmp .eq 10, 3) by decide +kernel) (by decide)) ?_
  refine xA (ok_iload hC (show decode prog_14_method_26_code 53 = .ok (.iload 5, 2) by decide +kernel)) ?_
  refine xA (ok_bipush hC (show decode prog_14_method_26_code 55 = .ok (.bipush 20, 2) by decide +kernel) (by decide)) ?_
  refine xA (ok_icne hC (show decode prog_14_method_26_code 57 = .ok (.if_icmp .ne 10, 3) by decide +kernel) (by decide)) ?_
  refine xA (ok_aload_n hC (show decode prog_14_method_26_code 60 = .ok (.aload_n 0, 1) by decide +kernel) rfl) ?_
  refine xA (ok_iload_n hC (show decode prog_14_method_26_code 61 = .ok (.iload_n 3, 1) by decide +kernel) rfl) ?_
  refine xA (ok_callV hC hnh (show decode prog_14_method_26_code 62 = .ok (.invokevirtual 221, 3) by decide +kernel) (by decide) (by decide) (by decide) (r0 := ("StyleCourtModel", xF13, 85)) rfl ⟨by decide, by decide, by decide +kernel⟩ w_1448 w_83 w_1445 w_1447 w_31) ?_
  refine xA (ok_iload_n hC (show decode prog_14_method_26_code 65 = .ok (.iload_n 1, 1) by decide +kernel) rfl) ?_
  refine xA (ok_iret hC hr (show decode prog_14_method_26_code 66 = .ok (.ireturn, 1) by decide +kernel)) ?_
  refine xA (ok_aload_n hC (show decode prog_14_method_26_code 67 = .ok (.aload_n 0, 1) by decide +kernel) rfl) ?_
  refine xA (ok_get hC (show decode prog_14_method_26_code 68 = .ok (.getfield 24, 3) by decide +kernel) (by decide) (r0 := ("StyleCourtModel", xF13, 85)) rfl (by decide) rfl w_1157) ?_
  refine xA (ok_iload_n hC (show decode prog_14_method_26_code 71 = .ok (.iload_n 2, 1) by decide +kernel) rfl) ?_
  refine xA (ok_iload_n hC (show decode prog_14_method_26_code 72 = .ok (.iload_n 3, 1) by decide +kernel) rfl) ?_
  refine xA (ok_iast hC (show decode prog_14_method_26_code 73 = .ok (.iastore, 1) by decide +kernel) (by decide) rfl) ?_
  refine xA (ok_aload_n hC (show decode prog_14_method_26_code 74 = .ok (.aload_n 0, 1) by decide +kernel) rfl) ?_
  refine xA (ok_get hC (show decode prog_14_method_26_code 75 = .ok (.getfield 27, 3) by decide +kernel) (by decide) (r0 := ("StyleCourtModel", xF13, 85)) rfl (by decide) rfl w_1158) ?_
  refine xA (ok_iload_n hC (show decode prog_14_method_26_code 78 = .ok (.iload_n 2, 1) by decide +kernel) rfl) ?_
  refine xA (ok_iload hC (show decode prog_14_method_26_code 79 = .ok (.iload 4, 2) by decide +kernel)) ?_
  refine xA (ok_iload_n hC (show decode prog_14_method_26_code 81 = .ok (.iload_n 3, 1) by decide +kernel) rfl) ?_
  refine xA (ok_isub hC (show decode prog_14_method_26_code 82 = .ok (.isub, 1) by decide +kernel)) ?_
  refine xA (ok_iast hC (show decode prog_14_method_26_code 83 = .ok (.iastore, 1) by decide +kernel) (by decide) rfl) ?_
  refine xA (ok_aload_n hC (show decode prog_14_method_26_code 84 = .ok (.aload_n 0, 1) by decide +kernel) rfl) ?_
  refine xA (ok_get hC (show decode prog_14_method_26_code 85 = .ok (.getfield 30, 3) by decide +kernel) (by decide) (r0 := ("StyleCourtModel", xF13, 85)) rfl (by decide) rfl w_1159) ?_
  refine xA (ok_iload_n hC (show decode prog_14_method_26_code 88 = .ok (.iload_n 2, 1) by decide +kernel) rfl) ?_
  refine xA (ok_iload_n hC (show decode prog_14_method_26_code 89 = .ok (.iload_n 1, 1) by decide +kernel) rfl) ?_
  refine xA (ok_iast hC (show decode prog_14_method_26_code 90 = .ok (.iastore, 1) by decide +kernel) (by decide) rfl) ?_
  refine xA (ok_aload_n hC (show decode prog_14_method_26_code 91 = .ok (.aload_n 0, 1) by decide +kernel) rfl) ?_
  refine xA (ok_get hC (show decode prog_14_method_26_code 92 = .ok (.getfield 42, 3) by decide +kernel) (by decide) (r0 := ("StyleCourtModel", xF13, 85)) rfl (by decide) rfl w_1163) ?_
  refine xA (ok_iload_n hC (show decode prog_14_method_26_code 95 = .ok (.iload_n 2, 1) by decide +kernel) rfl) ?_
  refine xA (ok_iload hC (show decode prog_14_method_26_code 96 = .ok (.iload 5, 2) by decide +kernel)) ?_
  refine xA (ok_iast hC (show decode prog_14_method_26_code 98 = .ok (.iastore, 1) by decide +kernel) (by decide) rfl) ?_
  refine xA (ok_aload_n hC (show decode prog_14_method_26_code 99 = .ok (.aload_n 0, 1) by decide +kernel) rfl) ?_
  refine xA (ok_get hC (show decode prog_14_method_26_code 100 = .ok (.getfield 48, 3) by decide +kernel) (by decide) (r0 := ("StyleCourtModel", xF13, 85)) rfl (by decide) rfl w_1165) ?_
  refine xA (ok_iload_n hC (show decode prog_14_method_26_code 103 = .ok (.iload_n 2, 1) by decide +kernel) rfl) ?_
  refine xA (ok_aload_n hC (show decode prog_14_method_26_code 104 = .ok (.aload_n 0, 1) by decide +kernel) rfl) ?_
  refine xA (ok_get hC (show decode prog_14_method_26_code 105 = .ok (.getfield 227, 3) by decide +kernel) (by decide) (r0 := ("StyleCourtModel", xF13, 85)) rfl (by decide) rfl w_1183) ?_
  refine xA (ok_iast hC (show decode prog_14_method_26_code 108 = .ok (.iastore, 1) by decide +kernel) (by decide) rfl) ?_
  refine xA (ok_aload_n hC (show decode prog_14_method_26_code 109 = .ok (.aload_n 0, 1) by decide +kernel) rfl) ?_
  refine xA (ok_get hC (show decode prog_14_method_26_code 110 = .ok (.getfield 36, 3) by decide +kernel) (by decide) (r0 := ("StyleCourtModel", xF13, 85)) rfl (by decide) rfl w_1161) ?_
  refine xA (ok_iload_n hC (show decode prog_14_method_26_code 113 = .ok (.iload_n 2, 1) by decide +kernel) rfl) ?_
  refine xA (ok_iconst hC (show decode prog_14_method_26_code 114 = .ok (.iconst 0, 1) by decide +kernel) (by decide)) ?_
  refine xA (ok_iast hC (show decode prog_14_method_26_code 115 = .ok (.iastore, 1) by decide +kernel) (by decide) rfl) ?_
  refine xA (ok_aload_n hC (show decode prog_14_method_26_code 116 = .ok (.aload_n 0, 1) by decide +kernel) rfl) ?_
  refine xA (ok_get hC (show decode prog_14_method_26_code 117 = .ok (.getfield 60, 3) by decide +kernel) (by decide) (r0 := ("StyleCourtModel", xF13, 85)) rfl (by decide) rfl w_1169) ?_
  refine xA (ok_iload_n hC (show decode prog_14_method_26_code 120 = .ok (.iload_n 2, 1) by decide +kernel) rfl) ?_
  refine xA (ok_iconst hC (show decode prog_14_method_26_code 121 = .ok (.iconst (-1), 1) by decide +kernel) (by decide)) ?_
  refine xA (ok_iast hC (show decode prog_14_method_26_code 122 = .ok (.iastore, 1) by decide +kernel) (by decide) rfl) ?_
  refine xA (ok_aload_n hC (show decode prog_14_method_26_code 123 = .ok (.aload_n 0, 1) by decide +kernel) rfl) ?_
  refine xA (ok_get hC (show decode prog_14_method_26_code 124 = .ok (.getfield 45, 3) by decide +kernel) (by decide) (r0 := ("StyleCourtModel", xF13, 85)) rfl (by decide) rfl w_1164) ?_
  refine xA (ok_iload_n hC (show decode prog_14_method_26_code 127 = .ok (.iload_n 2, 1) by decide +kernel) rfl) ?_
  refine xA (ok_iconst hC (show decode prog_14_method_26_code 128 = .ok (.iconst 0, 1) by decide +kernel) (by decide)) ?_
  refine xA (ok_iast hC (show decode prog_14_method_26_code 129 = .ok (.iastore, 1) by decide +kernel) (by decide) rfl) ?_
  refine xA (ok_aload_n hC (show decode prog_14_method_26_code 130 = .ok (.aload_n 0, 1) by decide +kernel) rfl) ?_
  refine xA (ok_get hC (show decode prog_14_method_26_code 131 = .ok (.getfield 63, 3) by decide +kernel) (by decide) (r0 := ("StyleCourtModel", xF13, 85)) rfl (by decide) rfl w_1170) ?_
  refine xA (ok_iload_n hC (show decode prog_14_method_26_code 134 = .ok (.iload_n 2, 1) by decide +kernel) rfl) ?_
  refine xA (ok_iconst hC (show decode prog_14_method_26_code 135 = .ok (.iconst 1, 1) by decide +kernel) (by decide)) ?_
  refine xA (ok_zast hC (show decode prog_14_method_26_code 136 = .ok (.bastore, 1) by decide +kernel) (by decide) rfl) ?_
  refine xA (ok_aload_n hC (show decode prog_14_method_26_code 137 = .ok (.aload_n 0, 1) by decide +kernel) rfl) ?_
  refine xA (ok_get hC (show decode prog_14_method_26_code 138 = .ok (.getfield 54, 3) by decide +kernel) (by decide) (r0 := ("StyleCourtModel", xF13, 85)) rfl (by decide) rfl w_1167) ?_
  refine xA (ok_iload_n hC (show decode prog_14_method_26_code 141 = .ok (.iload_n 2, 1) by decide +kernel) rfl) ?_
  refine xA (ok_aload_n hC (show decode prog_14_method_26_code 142 = .ok (.aload_n 0, 1) by decide +kernel) rfl) ?_
  refine xA (ok_get hC (show decode prog_14_method_26_code 143 = .ok (.getfield 233, 3) by decide +kernel) (by decide) (r0 := ("StyleCourtModel", xF13, 85)) rfl (by decide) rfl w_1177) ?_
  refine xA (ok_iast hC (show decode prog_14_method_26_code 146 = .ok (.iastore, 1) by decide +kernel) (by decide) rfl) ?_
  refine xA (ok_iload_n hC (show decode prog_14_method_26_code 147 = .ok (.iload_n 1, 1) by decide +kernel) rfl) ?_
  refine xA (ok_ifge hC (show decode prog_14_method_26_code 148 = .ok (.ifCond .ge 41, 3) by decide +kernel) (by decide)) ?_
  refine xA (ok_aload_n hC (show decode prog_14_method_26_code 151 = .ok (.aload_n 0, 1) by decide +kernel) rfl) ?_
  refine xA (ok_dup hC (show decode prog_14_method_26_code 152 = .ok (.dup, 1) by decide +kernel)) ?_
  refine xA (ok_get hC (show decode prog_14_method_26_code 153 = .ok (.getfield 278, 3) by decide +kernel) (by decide) (r0 := ("StyleCourtModel", xF13, 85)) rfl (by decide) rfl w_1184) ?_
  refine xA (ok_iconst hC (show decode prog_14_method_26_code 156 = .ok (.iconst 1, 1) by decide +kernel) (by decide)) ?_
  refine xA (ok_iadd hC (show decode prog_14_method_26_code 157 = .ok (.iadd, 1) by decide +kernel)) ?_
  refine xA (ok_put hC (show decode prog_14_method_26_code 158 = .ok (.putfield 278, 3) by decide +kernel) (by decide) (r0 := ("StyleCourtModel", xF13, 85)) rfl (by decide) rfl (by decide +kernel) w_1184) ?_
  refine xA (ok_aload_n hC (show decode prog_14_method_26_code 161 = .ok (.aload_n 0, 1) by decide +kernel) rfl) ?_
  refine xA (ok_get hC (show decode prog_14_method_26_code 162 = .ok (.getfield 39, 3) by decide +kernel) (by decide) (r0 := ("StyleCourtModel", xF13, 85)) rfl (by decide) rfl w_1162) ?_
  refine xA (ok_iload_n hC (show decode prog_14_method_26_code 165 = .ok (.iload_n 2, 1) by decide +kernel) rfl) ?_
  refine xA (ok_aload_n hC (show decode prog_14_method_26_code 166 = .ok (.aload_n 0, 1) by decide +kernel) rfl) ?_
  refine xA (ok_get hC (show decode prog_14_method_26_code 167 = .ok (.getfield 278, 3) by decide +kernel) (by decide) (r0 := ("StyleCourtModel", xF13, 85)) rfl (by decide) rfl w_1184) ?_
  refine xA (ok_iast hC (show decode prog_14_method_26_code 170 = .ok (.iastore, 1) by decide +kernel) (by decide) rfl) ?_
  refine xA (ok_aload_n hC (show decode prog_14_method_26_code 171 = .ok (.aload_n 0, 1) by decide +kernel) rfl) ?_
  refine xA (ok_get hC (show decode prog_14_method_26_code 172 = .ok (.getfield 33, 3) by decide +kernel) (by decide) (r0 := ("StyleCourtModel", xF13, 85)) rfl (by decide) rfl w_1160) ?_
  refine xA (ok_iload_n hC (show decode prog_14_method_26_code 175 = .ok (.iload_n 2, 1) by decide +kernel) rfl) ?_
  refine xA (ok_aload_n hC (show decode prog_14_method_26_code 176 = .ok (.aload_n 0, 1) by decide +kernel) rfl) ?_
  refine xA (ok_get hC (show decode prog_14_method_26_code 177 = .ok (.getfield 281, 3) by decide +kernel) (by decide) (r0 := ("StyleCourtModel", xF13, 85)) rfl (by decide) rfl w_1185) ?_
  refine xA (ok_iast hC (show decode prog_14_method_26_code 180 = .ok (.iastore, 1) by decide +kernel) (by decide) rfl) ?_
  refine xA (ok_aload_n hC (show decode prog_14_method_26_code 181 = .ok (.aload_n 0, 1) by decide +kernel) rfl) ?_
  refine xA (ok_iload_n hC (show decode prog_14_method_26_code 182 = .ok (.iload_n 2, 1) by decide +kernel) rfl) ?_
  refine xA (ok_put hC (show decode prog_14_method_26_code 183 = .ok (.putfield 281, 3) by decide +kernel) (by decide) (r0 := ("StyleCourtModel", xF13, 85)) rfl (by decide) rfl (by decide +kernel) w_1185) ?_
  refine xA (ok_goto hC (show decode prog_14_method_26_code 186 = .ok (.goto 51, 3) by decide +kernel) (by decide)) ?_
  refine xA (ok_aload_n hC (show decode prog_14_method_26_code 189 = .ok (.aload_n 0, 1) by decide +kernel) rfl) ?_
  refine xA (ok_get hC (show decode prog_14_method_26_code 190 = .ok (.getfield 36, 3) by decide +kernel) (by decide) (r0 := ("StyleCourtModel", xF13, 85)) rfl (by decide) rfl w_1161) ?_
  refine xA (ok_iload_n hC (show decode prog_14_method_26_code 193 = .ok (.iload_n 1, 1) by decide +kernel) rfl) ?_
  refine xA (ok_dup2 hC (show decode prog_14_method_26_code 194 = .ok (.dup2, 1) by decide +kernel)) ?_
  refine xA (ok_iald hC (show decode prog_14_method_26_code 195 = .ok (.iaload, 1) by decide +kernel) (by decide) rfl) ?_
  refine xA (ok_iconst hC (show decode prog_14_method_26_code 196 = .ok (.iconst 1, 1) by decide +kernel) (by decide)) ?_
  refine xA (ok_iadd hC (show decode prog_14_method_26_code 197 = .ok (.iadd, 1) by decide +kernel)) ?_
  refine xA (ok_iast hC (show decode prog_14_method_26_code 198 = .ok (.iastore, 1) by decide +kernel) (by decide) rfl) ?_
  refine xA (ok_aload_n hC (show decode prog_14_method_26_code 199 = .ok (.aload_n 0, 1) by decide +kernel) rfl) ?_
  refine xA (ok_get hC (show decode prog_14_method_26_code 200 = .ok (.getfield 39, 3) by decide +kernel) (by decide) (r0 := ("StyleCourtModel", xF13, 85)) rfl (by decide) rfl w_1162) ?_
  refine xA (ok_iload_n hC (show decode prog_14_method_26_code 203 = .ok (.iload_n 2, 1) by decide +kernel) rfl) ?_
  refine xA (ok_aload_n hC (show decode prog_14_method_26_code 204 = .ok (.aload_n 0, 1) by decide +kernel) rfl) ?_
  refine xA (ok_get hC (show decode prog_14_method_26_code 205 = .ok (.getfield 36, 3) by decide +kernel) (by decide) (r0 := ("StyleCourtModel", xF13, 85)) rfl (by decide) rfl w_1161) ?_
  refine xA (ok_iload_n hC (show decode prog_14_method_26_code 208 = .ok (.iload_n 1, 1) by decide +kernel) rfl) ?_
  refine xA (ok_iald hC (show decode prog_14_method_26_code 209 = .ok (.iaload, 1) by decide +kernel) (by decide) rfl) ?_
  refine xA (ok_iast hC (show decode prog_14_method_26_code 210 = .ok (.iastore, 1) by decide +kernel) (by decide) rfl) ?_
  refine xA (ok_aload_n hC (show decode prog_14_method_26_code 211 = .ok (.aload_n 0, 1) by decide +kernel) rfl) ?_
  refine xA (ok_get hC (show decode prog_14_method_26_code 212 = .ok (.getfield 33, 3) by decide +kernel) (by decide) (r0 := ("StyleCourtModel", xF13, 85)) rfl (by decide) rfl w_1160) ?_
  refine xA (ok_iload_n hC (show decode prog_14_method_26_code 215 = .ok (.iload_n 2, 1) by decide +kernel) rfl) ?_
  refine xA (ok_aload_n hC (show decode prog_14_method_26_code 216 = .ok (.aload_n 0, 1) by decide +kernel) rfl) ?_
  refine xA (ok_get hC (show decode prog_14_method_26_code 217 = .ok (.getfield 60, 3) by decide +kernel) (by decide) (r0 := ("StyleCourtModel", xF13, 85)) rfl (by decide) rfl w_1169) ?_
  refine xA (ok_iload_n hC (show decode prog_14_method_26_code 220 = .ok (.iload_n 1, 1) by decide +kernel) rfl) ?_
  refine xA (ok_iald hC (show decode prog_14_method_26_code 221 = .ok (.iaload, 1) by decide +kernel) (by decide) rfl) ?_
  refine xA (ok_iast hC (show decode prog_14_method_26_code 222 = .ok (.iastore, 1) by decide +kernel) (by decide) rfl) ?_
  refine xA (ok_aload_n hC (show decode prog_14_method_26_code 223 = .ok (.aload_n 0, 1) by decide +kernel) rfl) ?_
  refine xA (ok_get hC (show decode prog_14_method_26_code 224 = .ok (.getfield 60, 3) by decide +kernel) (by decide) (r0 := ("StyleCourtModel", xF13, 85)) rfl (by decide) rfl w_1169) ?_
  refine xA (ok_iload_n hC (show decode prog_14_method_26_code 227 = .ok (.iload_n 1, 1) by decide +kernel) rfl) ?_
  refine xA (ok_iload_n hC (show decode prog_14_method_26_code 228 = .ok (.iload_n 2, 1) by decide +kernel) rfl) ?_
  refine xA (ok_iast hC (show decode prog_14_method_26_code 229 = .ok (.iastore, 1) by decide +kernel) (by decide) rfl) ?_
  refine xA (ok_aload_n hC (show decode prog_14_method_26_code 230 = .ok (.aload_n 0, 1) by decide +kernel) rfl) ?_
  refine xA (ok_get hC (show decode prog_14_method_26_code 231 = .ok (.getfield 63, 3) by decide +kernel) (by decide) (r0 := ("StyleCourtModel", xF13, 85)) rfl (by decide) rfl w_1170) ?_
  refine xA (ok_iload_n hC (show decode prog_14_method_26_code 234 = .ok (.iload_n 1, 1) by decide +kernel) rfl) ?_
  refine xA (ok_iconst hC (show decode prog_14_method_26_code 235 = .ok (.iconst 0, 1) by decide +kernel) (by decide)) ?_
  refine xA (ok_zast hC (show decode prog_14_method_26_code 236 = .ok (.bastore, 1) by decide +kernel) (by decide) rfl) ?_
  refine xA (ok_aload_n hC (show decode prog_14_method_26_code 237 = .ok (.aload_n 0, 1) by decide +kernel) rfl) ?_
  refine xA (ok_dup hC (show decode prog_14_method_26_code 238 = .ok (.dup, 1) by decide +kernel)) ?_
  refine xA (ok_get hC (show decode prog_14_method_26_code 239 = .ok (.getfield 275, 3) by decide +kernel) (by decide) (r0 := ("StyleCourtModel", xF13, 85)) rfl (by decide) rfl w_1156) ?_
  refine xA (ok_iconst hC (show decode prog_14_method_26_code 242 = .ok (.iconst 1, 1) by decide +kernel) (by decide)) ?_
  refine xA (ok_iadd hC (show decode prog_14_method_26_code 243 = .ok (.iadd, 1) by decide +kernel)) ?_
  refine xA (ok_put hC (show decode prog_14_method_26_code 244 = .ok (.putfield 275, 3) by decide +kernel) (by decide) (r0 := ("StyleCourtModel", xF13, 85)) rfl (by decide) rfl (by decide +kernel) w_1156) ?_
  refine xA (ok_aload_n hC (show decode prog_14_method_26_code 247 = .ok (.aload_n 0, 1) by decide +kernel) rfl) ?_
  refine xA (ok_iload hC (show decode prog_14_method_26_code 248 = .ok (.iload 4, 2) by decide +kernel)) ?_
  refine xA (ok_put hC (show decode prog_14_method_26_code 250 = .ok (.putfield 227, 3) by decide +kernel) (by decide) (r0 := ("StyleCourtModel", xF13, 85)) rfl (by decide) rfl (by decide +kernel) w_1183) ?_
  refine xA (ok_aload_n hC (show decode prog_14_method_26_code 253 = .ok (.aload_n 0, 1) by decide +kernel) rfl) ?_
  refine xA (ok_get hC (show decode prog_14_method_26_code 254 = .ok (.getfield 211, 3) by decide +kernel) (by decide) (r0 := ("StyleCourtModel", xF13, 85)) rfl (by decide) rfl w_1151) ?_
  refine xA (ok_ifge hC (show decode prog_14_method_26_code 257 = .ok (.ifCond .ge 145, 3) by decide +kernel) (by decide)) ?_
  refine xA (ok_aload_n hC (show decode prog_14_method_26_code 260 = .ok (.aload_n 0, 1) by decide +kernel) rfl) ?_
  refine xA (ok_get hC (show decode prog_14_method_26_code 261 = .ok (.getfield 227, 3) by decide +kernel) (by decide) (r0 := ("StyleCourtModel", xF13, 85)) rfl (by decide) rfl w_1183) ?_
  refine xA (ok_istore hC (show decode prog_14_method_26_code 264 = .ok (.istore 6, 2) by decide +kernel) (by decide)) ?_
  refine xA (ok_aload_n hC (show decode prog_14_method_26_code 266 = .ok (.aload_n 0, 1) by decide +kernel) rfl) ?_
  refine xA (ok_callV hC hnh (show decode prog_14_method_26_code 267 = .ok (.invokevirtual 266, 3) by decide +kernel) (by decide) (by decide) (by decide) (r0 := ("StyleCourtModel", xF13, 85)) rfl ⟨by decide, by decide, by decide +kernel⟩ w_1466 w_83 w_1463 w_1465 w_34) ?_
  refine xA (ok_aload_n hC (show decode prog_14_method_26_code 270 = .ok (.aload_n 0, 1) by decide +kernel) rfl) ?_
  refine xA (ok_aload_n hC (show decode prog_14_method_26_code 271 = .ok (.aload_n 0, 1) by decide +kernel) rfl) ?_
  refine xA (ok_get hC (show decode prog_14_method_26_code 272 = .ok (.getfield 227, 3) by decide +kernel) (by decide) (r0 := ("StyleCourtModel", xF13, 85)) rfl (by decide) rfl w_1183) ?_
  refine xA (ok_callV hC hnh (show decode prog_14_method_26_code 275 = .ok (.invokevirtual 214, 3) by decide +kernel) (by decide) (by decide) (by decide) (r0 := ("StyleCourtModel", xF13, 85)) rfl ⟨by decide, by decide, by decide +kernel⟩ w_1440 w_83 w_1437 w_1439 w_29) ?_
  refine xA (ok_istore hC (show decode prog_14_method_26_code 278 = .ok (.istore 7, 2) by decide +kernel) (by decide)) ?_
  refine xA (ok_iload hC (show decode prog_14_method_26_code 280 = .ok (.iload 7, 2) by decide +kernel)) ?_
  refine xA (ok_bipush hC (show decode prog_14_method_26_code 282 = .ok (.bipush 62, 2) by decide +kernel) (by decide)) ?_
  refine xA (ok_icne hC (show decode prog_14_method_26_code 284 = .ok (.if_icmp .ne 15, 3) by decide +kernel) (by decide)) ?_
  refine xA (ok_aload_n hC (show decode prog_14_method_26_code 287 = .ok (.aload_n 0, 1) by decide +kernel) rfl) ?_
  refine xA (ok_dup hC (show decode prog_14_method_26_code 288 = .ok (.dup, 1) by decide +kernel)) ?_
  refine xA (ok_get hC (show decode prog_14_method_26_code 289 = .ok (.getfield 227, 3) by decide +kernel) (by decide) (r0 := ("StyleCourtModel", xF13, 85)) rfl (by decide) rfl w_1183) ?_
  refine xA (ok_iconst hC (show decode prog_14_method_26_code 292 = .ok (.iconst 1, 1) by decide +kernel) (by decide)) ?_
  refine xA (ok_iadd hC (show decode prog_14_method_26_code 293 = .ok (.iadd, 1) by decide +kernel)) ?_
  refine xA (ok_put hC (show decode prog_14_method_26_code 294 = .ok (.putfield 227, 3) by decide +kernel) (by decide) (r0 := ("StyleCourtModel", xF13, 85)) rfl (by decide) rfl (by decide +kernel) w_1183) ?_
  refine xA (ok_iload_n hC (show decode prog_14_method_26_code 297 = .ok (.iload_n 2, 1) by decide +kernel) rfl) ?_
  refine xA (ok_iret hC hr (show decode prog_14_method_26_code 298 = .ok (.ireturn, 1) by decide +kernel)) ?_
  refine xA (ok_iload hC (show decode prog_14_method_26_code 299 = .ok (.iload 7, 2) by decide +kernel)) ?_
  refine xA (ok_bipush hC (show decode prog_14_method_26_code 301 = .ok (.bipush 47, 2) by decide +kernel) (by decide)) ?_
  refine xA (ok_icne hC (show decode prog_14_method_26_code 303 = .ok (.if_icmp .ne 72, 3) by decide +kernel) (by decide)) ?_
  refine xA (ok_aload_n hC (show decode prog_14_method_26_code 306 = .ok (.aload_n 0, 1) by decide +kernel) rfl) ?_
  refine xA (ok_dup hC (show decode prog_14_method_26_code 307 = .ok (.dup, 1) by decide +kernel)) ?_
  refine xA (ok_get hC (show decode prog_14_method_26_code 308 = .ok (.getfield 227, 3) by decide +kernel) (by decide) (r0 := ("StyleCourtModel", xF13, 85)) rfl (by decide) rfl w_1183) ?_
  refine xA (ok_iconst hC (show decode prog_14_method_26_code 311 = .ok (.iconst 1, 1) by decide +kernel) (by decide)) ?_
  refine xA (ok_iadd hC (show decode prog_14_method_26_code 312 = .ok (.iadd, 1) by decide +kernel)) ?_
  refine xA (ok_put hC (show decode prog_14_method_26_code 313 = .ok (.putfield 227, 3) by decide +kernel) (by decide) (r0 := ("StyleCourtModel", xF13, 85)) rfl (by decide) rfl (by decide +kernel) w_1183) ?_
  refine xA (ok_aload_n hC (show decode prog_14_method_26_code 316 = .ok (.aload_n 0, 1) by decide +kernel) rfl) ?_
  refine xA (ok_callV hC hnh (show decode prog_14_method_26_code 317 = .ok (.invokevirtual 266, 3) by decide +kernel) (by decide) (by decide) (by decide) (r0 := ("StyleCourtModel", xF13, 85)) rfl ⟨by decide, by decide, by decide +kernel⟩ w_1466 w_83 w_1463 w_1465 w_34) ?_
  refine xA (ok_aload_n hC (show decode prog_14_method_26_code 320 = .ok (.aload_n 0, 1) by decide +kernel) rfl) ?_
  refine xA (ok_aload_n hC (show decode prog_14_method_26_code 321 = .ok (.aload_n 0, 1) by decide +kernel) rfl) ?_
  refine xA (ok_get hC (show decode prog_14_method_26_code 322 = .ok (.getfield 227, 3) by decide +kernel) (by decide) (r0 := ("StyleCourtModel", xF13, 85)) rfl (by decide) rfl w_1183) ?_
  refine xA (ok_callV hC hnh (show decode prog_14_method_26_code 325 = .ok (.invokevirtual 214, 3) by decide +kernel) (by decide) (by decide) (by decide) (r0 := ("StyleCourtModel", xF13, 85)) rfl ⟨by decide, by decide, by decide +kernel⟩ w_1440 w_83 w_1437 w_1439 w_29) ?_
  refine xA (ok_bipush hC (show decode prog_14_method_26_code 328 = .ok (.bipush 62, 2) by decide +kernel) (by decide)) ?_
  refine xA (ok_iceq hC (show decode prog_14_method_26_code 330 = .ok (.if_icmp .eq 13, 3) by decide +kernel) (by decide)) ?_
  refine xA (ok_aload_n hC (show decode prog_14_method_26_code 333 = .ok (.aload_n 0, 1) by decide +kernel) rfl) ?_
  refine xA (ok_aload_n hC (show decode prog_14_method_26_code 334 = .ok (.aload_n 0, 1) by decide +kernel) rfl) ?_
  refine xA (ok_get hC (show decode prog_14_method_26_code 335 = .ok (.getfield 227, 3) by decide +kernel) (by decide) (r0 := ("StyleCourtModel", xF13, 85)) rfl (by decide) rfl w_1183) ?_
  refine xA (ok_callV hC hnh (show decode prog_14_method_26_code 338 = .ok (.invokevirtual 221, 3) by decide +kernel) (by decide) (by decide) (by decide) (r0 := ("StyleCourtModel", xF13, 85)) rfl ⟨by decide, by decide, by decide +kernel⟩ w_1448 w_83 w_1445 w_1447 w_31) ?_
  refine xA (ok_iload_n hC (show decode prog_14_method_26_code 341 = .ok (.iload_n 2, 1) by decide +kernel) rfl) ?_
  refine xA (ok_iret hC hr (show decode prog_14_method_26_code 342 = .ok (.ireturn, 1) by decide +kernel)) ?_
  refine xA (ok_aload_n hC (show decode prog_14_method_26_code 343 = .ok (.aload_n 0, 1) by decide +kernel) rfl) ?_
  refine xA (ok_dup hC (show decode prog_14_method_26_code 344 = .ok (.dup, 1) by decide +kernel)) ?_
  refine xA (ok_get hC (show decode prog_14_method_26_code 345 = .ok (.getfield 227, 3) by decide +kernel) (by decide) (r0 := ("StyleCourtModel", xF13, 85)) rfl (by decide) rfl w_1183) ?_
  refine xA (ok_iconst hC (show decode prog_14_method_26_code 348 = .ok (.iconst 1, 1) by decide +kernel) (by decide)) ?_
  refine xA (ok_iadd hC (show decode prog_14_method_26_code 349 = .ok (.iadd, 1) by decide +kernel)) ?_
  refine xA (ok_put hC (show decode prog_14_method_26_code 350 = .ok (.putfield 227, 3) by decide +kernel) (by decide) (r0 := ("StyleCourtModel", xF13, 85)) rfl (by decide) rfl (by decide +kernel) w_1183) ?_
  refine xA (ok_aload_n hC (show decode prog_14_method_26_code 353 = .ok (.aload_n 0, 1) by decide +kernel) rfl) ?_
  refine xA (ok_get hC (show decode prog_14_method_26_code 354 = .ok (.getfield 57, 3) by decide +kernel) (by decide) (r0 := ("StyleCourtModel", xF13, 85)) rfl (by decide) rfl w_1168) ?_
  refine xA (ok_iload_n hC (show decode prog_14_method_26_code 357 = .ok (.iload_n 2, 1) by decide +kernel) rfl) ?_
  refine xA (ok_aload_n hC (show decode prog_14_method_26_code 358 = .ok (.aload_n 0, 1) by decide +kernel) rfl) ?_
  refine xA (ok_get hC (show decode prog_14_method_26_code 359 = .ok (.getfield 233, 3) by decide +kernel) (by decide) (r0 := ("StyleCourtModel", xF13, 85)) rfl (by decide) rfl w_1177) ?_
  refine xA (ok_iast hC (show decode prog_14_method_26_code 362 = .ok (.iastore, 1) by decide +kernel) (by decide) rfl) ?_
  refine xA (ok_aload_n hC (show decode prog_14_method_26_code 363 = .ok (.aload_n 0, 1) by decide +kernel) rfl) ?_
  refine xA (ok_get hC (show decode prog_14_method_26_code 364 = .ok (.getfield 51, 3) by decide +kernel) (by decide) (r0 := ("StyleCourtModel", xF13, 85)) rfl (by decide) rfl w_1166) ?_
  refine xA (ok_iload_n hC (show decode prog_14_method_26_code 367 = .ok (.iload_n 2, 1) by decide +kernel) rfl) ?_
  refine xA (ok_aload_n hC (show decode prog_14_method_26_code 368 = .ok (.aload_n 0, 1) by decide +kernel) rfl) ?_
  refine xA (ok_get hC (show decode prog_14_method_26_code 369 = .ok (.getfield 227, 3) by decide +kernel) (by decide) (r0 := ("StyleCourtModel", xF13, 85)) rfl (by decide) rfl w_1183) ?_
  refine xA (ok_iast hC (show decode prog_14_method_26_code 372 = .ok (.iastore, 1) by decide +kernel) (by decide) rfl) ?_
  refine xA (ok_iload_n hC (show decode prog_14_method_26_code 373 = .ok (.iload_n 1, 1) by decide +kernel) rfl) ?_
  refine xA (ok_iret hC hr (show decode prog_14_method_26_code 374 = .ok (.ireturn, 1) by decide +kernel)) ?_
  refine xA (ok_aload_n hC (show decode prog_14_method_26_code 375 = .ok (.aload_n 0, 1) by decide +kernel) rfl) ?_
  refine xA (ok_get hC (show decode prog_14_method_26_code 376 = .ok (.getfield 227, 3) by decide +kernel) (by decide) (r0 := ("StyleCourtModel", xF13, 85)) rfl (by decide) rfl w_1183) ?_
  refine xA (ok_iload hC (show decode prog_14_method_26_code 379 = .ok (.iload 6, 2) by decide +kernel)) ?_
  refine xA (ok_icne hC (show decode prog_14_method_26_code 381 = .ok (.if_icmp .ne 13, 3) by decide +kernel) (by decide)) ?_
  refine xA (ok_aload_n hC (show decode prog_14_method_26_code 384 = .ok (.aload_n 0, 1) by decide +kernel) rfl) ?_
  refine xA (ok_aload_n hC (show decode prog_14_method_26_code 385 = .ok (.aload_n 0, 1) by decide +kernel) rfl) ?_
  refine xA (ok_get hC (show decode prog_14_method_26_code 386 = .ok (.getfield 227, 3) by decide +kernel) (by decide) (r0 := ("StyleCourtModel", xF13, 85)) rfl (by decide) rfl w_1183) ?_
  refine xA (ok_callV hC hnh (show decode prog_14_method_26_code 389 = .ok (.invokevirtual 221, 3) by decide +kernel) (by decide) (by decide) (by decide) (r0 := ("StyleCourtModel", xF13, 85)) rfl ⟨by decide, by decide, by decide +kernel⟩ w_1448 w_83 w_1445 w_1447 w_31) ?_
  refine xA (ok_iload_n hC (show decode prog_14_method_26_code 392 = .ok (.iload_n 2, 1) by decide +kernel) rfl) ?_
  refine xA (ok_iret hC hr (show decode prog_14_method_26_code 393 = .ok (.ireturn, 1) by decide +kernel)) ?_
  refine xA (ok_aload_n hC (show decode prog_14_method_26_code 394 = .ok (.aload_n 0, 1) by decide +kernel) rfl) ?_
  refine xA (ok_iload_n hC (show decode prog_14_method_26_code 395 = .ok (.iload_n 2, 1) by decide +kernel) rfl) ?_
  refine xA (ok_callV hC hnh (show decode prog_14_method_26_code 396 = .ok (.invokevirtual 284, 3) by decide +kernel) (by decide) (by decide) (by decide) (r0 := ("StyleCourtModel", xF13, 85)) rfl ⟨by decide, by decide, by decide +kernel⟩ w_1507 w_83 w_1504 w_1506 w_43) ?_
  refine xA (ok_goto hC (show decode prog_14_method_26_code 399 = .ok (.goto (-146), 3) by decide +kernel) (by decide)) ?_
  refine xA (ok_iload_n hC (show decode prog_14_method_26_code 402 = .ok (.iload_n 2, 1) by decide +kernel) rfl) ?_
  refine xA (ok_iret hC hr (show decode prog_14_method_26_code 403 = .ok (.ireturn, 1) by decide +kernel)) ?_
  exact trivial

def tb_Mo_field (X : xX) : List (Nat × xOp) := [(0, o_ald 0 1),
  (1, o_get 13 38 4),
  (4, o_ist 2 5),
  (5, o_ald 0 6),
  (6, o_ald 0 7),
  (7, o_ild 2 8),
  (8, o_callV X.l X.D X.P 13 1 2 y_Mo_nameFrom 11),
  (11, o_put 13 38 (.int) 14),
  (14, o_ald 0 15),
  (15, o_get 13 6 18),
  (18, o_iflt 22 21),
  (21, o_vret X.P),
  (22, o_ald 0 23),
  (23, o_get 13 19 26),
  (26, o_ild 1 27),
  (27, o_ld 0 28),
  (28, o_ic 6 30),
  (30, o_icne 37 33),
  (33, o_ic 1 34),
  (34, o_goto 38),
  (37, o_ic 0 38),
  (38, o_ist 3 39),
  (39, o_ic 0 40),
  (40, o_ist 4 42),
  (42, o_ild 4 44),
  (44, o_ald 0 45),
  (45, o_get 13 19 48),
  (48, o_ild 1 49),
  (49, o_ld 0 50),
  (50, o_icge 107 53),
  (53, o_ild 3 54),
  (54, o_ifne 95 57),
  (57, o_ald 0 58),
  (58, o_ald 0 59),
  (59, o_get 13 26 62),
  (62, o_ic 6 64),
  (64, o_ild 1 65),
  (65, o_imul 66),
  (66, o_ild 4 68),
  (68, o_iadd 69),
  (69, o_ld 0 70),
  (70, o_ald 0 71),
  (71, o_get 13 27 74),
  (74, o_ic 6 76),
  (76, o_ild 1 77),
  (77, o_imul 78),
  (78, o_ild 4 80),
  (80, o_iadd 81),
  (81, o_ld 0 82),
  (82, o_ild 2 83),
  (83, o_ald 0 84),
  (84, o_get 13 38 87),
  (87, o_ild 2 88),
  (88, o_isub 89),
  (89, o_callV X.l X.D X.P 13 0 5 y_Mo_same 92),
  (92, o_ifeq 99 95),
  (95, o_ic 1 96),
  (96, o_goto 100),
  (99, o_ic 0 100),
  (100, o_ist 3 101),
  (101, o_inc 4 1 104),
  (104, o_goto 42),
  (107, o_ild 3 108),
  (108, o_ifeq 117 111),
  (111, o_ald 0 112),
  (112, o_ild 2 113),
  (113, o_callV X.l X.D X.P 13 0 2 y_Mo_wrong 116),
  (116, o_vret X.P),
  (117, o_ic 6 119),
  (119, o_ild 1 120),
  (120, o_imul 121),
  (121, o_ald 0 122),
  (122, o_get 13 19 125),
  (125, o_ild 1 126),
  (126, o_ld 0 127),
  (127, o_iadd 128),
  (128, o_ist 4 130),
  (130, o_ald 0 131),
  (131, o_get 13 26 134),
  (134, o_ild 4 136),
  (136, o_ild 2 137),
  (137, o_iast 0 138),
  (138, o_ald 0 139),
  (139, o_get 13 27 142),
  (142, o_ild 4 144),
  (144, o_ald 0 145),
  (145, o_get 13 38 148),
  (148, o_ild 2 149),
  (149, o_isub 150),
  (150, o_iast 0 151),
  (151, o_ald 0 152),
  (152, o_callV X.l X.D X.P 13 1 1 y_Mo_blanks 155),
  (155, o_ald 0 156),
  (156, o_ald 0 157),
  (157, o_get 13 38 160),
  (160, o_callV X.l X.D X.P 13 0 2 y_Mo_byteAt 163),
  (163, o_ic 61 165),
  (165, o_iceq 177 168),
  (168, o_ald 0 169),
  (169, o_ald 0 170),
  (170, o_get 13 38 173),
  (173, o_callV X.l X.D X.P 13 0 2 y_Mo_wrong 176),
  (176, o_vret X.P),
  (177, o_ald 0 178),
  (178, o_dup 179),
  (179, o_get 13 38 182),
  (182, o_ic 1 183),
  (183, o_iadd 184),
  (184, o_put 13 38 (.int) 187),
  (187, o_ald 0 188),
  (188, o_callV X.l X.D X.P 13 1 1 y_Mo_blanks 191),
  (191, o_ald 0 192),
  (192, o_get 13 38 195),
  (195, o_ist 5 197),
  (197, o_ald 0 198),
  (198, o_ald 0 199),
  (199, o_ild 5 201),
  (201, o_callV X.l X.D X.P 13 1 2 y_Mo_stringFrom 204),
  (204, o_put 13 38 (.int) 207),
  (207, o_ald 0 208),
  (208, o_get 13 6 211),
  (211, o_iflt 215 214),
  (214, o_vret X.P),
  (215, o_ald 0 216),
  (216, o_get 13 28 219),
  (219, o_ild 4 221),
  (221, o_ild 5 223),
  (223, o_ic 1 224),
  (224, o_iadd 225),
  (225, o_iast 0 226),
  (226, o_ald 0 227),
  (227, o_get 13 29 230),
  (230, o_ild 4 232),
  (232, o_ald 0 233),
  (233, o_get 13 38 236),
  (236, o_ild 5 238),
  (238, o_isub 239),
  (239, o_ic 2 240),
  (240, o_isub 241),
  (241, o_iast 0 242),
  (242, o_ald 0 243),
  (243, o_get 13 19 246),
  (246, o_ild 1 247),
  (247, o_dup2 248),
  (248, o_ld 0 249),
  (249, o_ic 1 250),
  (250, o_iadd 251),
  (251, o_iast 0 252),
  (252, o_vret X.P)]
theorem tk_Mo_field {X : xX} (hC : xCx X prog_14_method_27_code "StyleCourtModel" 6 2) (hr : X.meth.sig.returnType = none) (hnh : X.c.exceptionTable.isEmpty = true) (hin : X.meth.name = "field") : xAll X (tb_Mo_field X) := by
  refine xA (ok_aload_n hC (show decode prog_14_method_27_code 0 = .ok (.aload_n 0, 1) by decide +kernel) rfl) ?_
  refine xA (ok_get hC (show decode prog_14_method_27_code 1 = .ok (.getfield 227, 3) by decide +kernel) (by decide) (r0 := ("StyleCourtModel", xF13, 85)) rfl (by decide) rfl w_1183) ?_
  refine xA (ok_istore_n hC (show decode prog_14_method_27_code 4 = .ok (.istore_n 2, 1) by decide +kernel) rfl (by decide)) ?_
  refine xA (ok_aload_n hC (show decode prog_14_method_27_code 5 = .ok (.aload_n 0, 1) by decide +kernel) rfl) ?_
  refine xA (ok_aload_n hC (show decode prog_14_method_27_code 6 = .ok (.aload_n 0, 1) by decide +kernel) rfl) ?_
  refine xA (ok_iload_n hC (show decode prog_14_method_27_code 7 = .ok (.iload_n 2, 1) by decide +kernel) rfl) ?_
  refine xA (ok_callV hC hnh (show decode prog_14_method_27_code 8 = .ok (.invokevirtual 251, 3) by decide +kernel) (by decide) (by decide) (by decide) (r0 := ("StyleCourtModel", xF13, 85)) rfl ⟨by decide, by decide, by decide +kernel⟩ w_1452 w_83 w_1449 w_1451 w_32) ?_
  refine xA (ok_put hC (show decode prog_14_method_27_code 11 = .ok (.putfield 227, 3) by decide +kernel) (by decide) (r0 := ("StyleCourtModel", xF13, 85)) rfl (by decide) rfl (by decide +kernel) w_1183) ?_
  refine xA (ok_aload_n hC (show decode prog_14_method_27_code 14 = .ok (.aload_n 0, 1) by decide +kernel) rfl) ?_
  refine xA (ok_get hC (show decode prog_14_method_27_code 15 = .ok (.getfield 211, 3) by decide +kernel) (by decide) (r0 := ("StyleCourtModel", xF13, 85)) rfl (by decide) rfl w_1151) ?_
  refine xA (ok_iflt hC (show decode prog_14_method_27_code 18 = .ok (.ifCond .lt 4, 3) by decide +kernel) (by decide)) ?_
  refine xA (ok_vret hC hr (show decode prog_14_method_27_code 21 = .ok (.return_, 1) by decide +kernel)) ?_
  refine xA (ok_aload_n hC (show decode prog_14_method_27_code 22 = .ok (.aload_n 0, 1) by decide +kernel) rfl) ?_
  refine xA (ok_get hC (show decode prog_14_method_27_code 23 = .ok (.getfield 45, 3) by decide +kernel) (by decide) (r0 := ("StyleCourtModel", xF13, 85)) rfl (by decide) rfl w_1164) ?_
  refine xA (ok_iload_n hC (show decode prog_14_method_27_code 26 = .ok (.iload_n 1, 1) by decide +kernel) rfl) ?_
  refine xA (ok_iald hC (show decode prog_14_method_27_code 27 = .ok (.iaload, 1) by decide +kernel) (by decide) rfl) ?_
  refine xA (ok_bipush hC (show decode prog_14_method_27_code 28 = .ok (.bipush 6, 2) by decide +kernel) (by decide)) ?_
  refine xA (ok_icne hC (show decode prog_14_method_27_code 30 = .ok (.if_icmp .ne 7, 3) by decide +kernel) (by decide)) ?_
  refine xA (ok_iconst hC (show decode prog_14_method_27_code 33 = .ok (.iconst 1, 1) by decide +kernel) (by decide)) ?_
  refine xA (ok_goto hC (show decode prog_14_method_27_code 34 = .ok (.goto 4, 3) by decide +kernel) (by decide)) ?_
  refine xA (ok_iconst hC (show decode prog_14_method_27_code 37 = .ok (.iconst 0, 1) by decide +kernel) (by decide)) ?_
  refine xA (ok_istore_n hC (show decode prog_14_method_27_code 38 = .ok (.istore_n 3, 1) by decide +kernel) rfl (by decide)) ?_
  refine xA (ok_iconst hC (show decode prog_14_method_27_code 39 = .ok (.iconst 0, 1) by decide +kernel) (by decide)) ?_
  refine xA (ok_istore hC (show decode prog_14_method_27_code 40 = .ok (.istore 4, 2) by decide +kernel) (by decide)) ?_
  refine xA (ok_iload hC (show decode prog_14_method_27_code 42 = .ok (.iload 4, 2) by decide +kernel)) ?_
  refine xA (ok_aload_n hC (show decode prog_14_method_27_code 44 = .ok (.aload_n 0, 1) by decide +kernel) rfl) ?_
  refine xA (ok_get hC (show decode prog_14_method_27_code 45 = .ok (.getfield 45, 3) by decide +kernel) (by decide) (r0 := ("StyleCourtModel", xF13, 85)) rfl (by decide) rfl w_1164) ?_
  refine xA (ok_iload_n hC (show decode prog_14_method_27_code 48 = .ok (.iload_n 1, 1) by decide +kernel) rfl) ?_
  refine xA (ok_iald hC (show decode prog_14_method_27_code 49 = .ok (.iaload, 1) by decide +kernel) (by decide) rfl) ?_
  refine xA (ok_icge hC (show decode prog_14_method_27_code 50 = .ok (.if_icmp .ge 57, 3) by decide +kernel) (by decide)) ?_
  refine xA (ok_iload_n hC (show decode prog_14_method_27_code 53 = .ok (.iload_n 3, 1) by decide +kernel) rfl) ?_
  refine xA (ok_ifne hC (show decode prog_14_method_27_code 54 = .ok (.ifCond .ne 41, 3) by decide +kernel) (by decide)) ?_
  refine xA (ok_aload_n hC (show decode prog_14_method_27_code 57 = .ok (.aload_n 0, 1) by decide +kernel) rfl) ?_
  refine xA (ok_aload_n hC (show decode prog_14_method_27_code 58 = .ok (.aload_n 0, 1) by decide +kernel) rfl) ?_
  refine xA (ok_get hC (show decode prog_14_method_27_code 59 = .ok (.getfield 67, 3) by decide +kernel) (by decide) (r0 := ("StyleCourtModel", xF13, 85)) rfl (by decide) rfl w_1171) ?_
  refine xA (ok_bipush hC (show decode prog_14_method_27_code 62 = .ok (.bipush 6, 2) by decide +kernel) (by decide)) ?_
  refine xA (ok_iload_n hC (show decode prog_14_method_27_code 64 = .ok (.iload_n 1, 1) by decide +kernel) rfl) ?_
  refine xA (ok_imul hC (show decode prog_14_method_27_code 65 = .ok (.imul, 1) by decide +kernel)) ?_
  refine xA (ok_iload hC (show decode prog_14_method_27_code 66 = .ok (.iload 4, 2) by decide +kernel)) ?_
  refine xA (ok_iadd hC (show decode prog_14_method_27_code 68 = .ok (.iadd, 1) by decide +kernel)) ?_
  refine xA (ok_iald hC (show decode prog_14_method_27_code 69 = .ok (.iaload, 1) by decide +kernel) (by decide) rfl) ?_
  refine xA (ok_aload_n hC (show decode prog_14_method_27_code 70 = .ok (.aload_n 0, 1) by decide +kernel) rfl) ?_
  refine xA (ok_get hC (show decode prog_14_method_27_code 71 = .ok (.getfield 70, 3) by decide +kernel) (by decide) (r0 := ("StyleCourtModel", xF13, 85)) rfl (by decide) rfl w_1172) ?_
  refine xA (ok_bipush hC (show decode prog_14_method_27_code 74 = .ok (.bipush 6, 2) by decide +kernel) (by decide)) ?_
  refine xA (ok_iload_n hC (show decode prog_14_method_27_code 76 = .ok (.iload_n 1, 1) by decide +kernel) rfl) ?_
  refine xA (ok_imul hC (show decode prog_14_method_27_code 77 = .ok (.imul, 1) by decide +kernel)) ?_
  refine xA (ok_iload hC (show decode prog_14_method_27_code 78 = .ok (.iload 4, 2) by decide +kernel)) ?_
  refine xA (ok_iadd hC (show decode prog_14_method_27_code 80 = .ok (.iadd, 1) by decide +kernel)) ?_
  refine xA (ok_iald hC (show decode prog_14_method_27_code 81 = .ok (.iaload, 1) by decide +kernel) (by decide) rfl) ?_
  refine xA (ok_iload_n hC (show decode prog_14_method_27_code 82 = .ok (.iload_n 2, 1) by decide +kernel) rfl) ?_
  refine xA (ok_aload_n hC (show decode prog_14_method_27_code 83 = .ok (.aload_n 0, 1) by decide +kernel) rfl) ?_
  refine xA (ok_get hC (show decode prog_14_method_27_code 84 = .ok (.getfield 227, 3) by decide +kernel) (by decide) (r0 := ("StyleCourtModel", xF13, 85)) rfl (by decide) rfl w_1183) ?_
  refine xA (ok_iload_n hC (show decode prog_14_method_27_code 87 = .ok (.iload_n 2, 1) by decide +kernel) rfl) ?_
  refine xA (ok_isub hC (show decode prog_14_method_27_code 88 = .ok (.isub, 1) by decide +kernel)) ?_
  refine xA (ok_callV hC hnh (show decode prog_14_method_27_code 89 = .ok (.invokevirtual 239, 3) by decide +kernel) (by decide) (by decide) (by decide) (r0 := ("StyleCourtModel", xF13, 85)) rfl ⟨by decide, by decide, by decide +kernel⟩ w_1462 w_83 w_1459 w_1461 w_33) ?_
  refine xA (ok_ifeq hC (show decode prog_14_method_27_code 92 = .ok (.ifCond .eq 7, 3) by decide +kernel) (by decide)) ?_
  refine xA (ok_iconst hC (show decode prog_14_method_27_code 95 = .ok (.iconst 1, 1) by decide +kernel) (by decide)) ?_
  refine xA (ok_goto hC (show decode prog_14_method_27_code 96 = .ok (.goto 4, 3) by decide +kernel) (by decide)) ?_
  refine xA (ok_iconst hC (show decode prog_14_method_27_code 99 = .ok (.iconst 0, 1) by decide +kernel) (by decide)) ?_
  refine xA (ok_istore_n hC (show decode prog_14_method_27_code 100 = .ok (.istore_n 3, 1) by decide +kernel) rfl (by decide)) ?_
  refine xA (ok_iinc hC (show decode prog_14_method_27_code 101 = .ok (.iinc 4 1, 3) by decide +kernel) (by decide) (by decide)) ?_
  refine xA (ok_goto hC (show decode prog_14_method_27_code 104 = .ok (.goto (-62), 3) by decide +kernel) (by decide)) ?_
  refine xA (ok_iload_n hC (show decode prog_14_method_27_code 107 = .ok (.iload_n 3, 1) by decide +kernel) rfl) ?_
  refine xA (ok_ifeq hC (show decode prog_14_method_27_code 108 = .ok (.ifCond .eq 9, 3) by decide +kernel) (by decide)) ?_
  refine xA (ok_aload_n hC (show decode prog_14_method_27_code 111 = .ok (.aload_n 0, 1) by decide +kernel) rfl) ?_
  refine xA (ok_iload_n hC (show decode prog_14_method_27_code 112 = .ok (.iload_n 2, 1) by decide +kernel) rfl) ?_
  refine xA (ok_callV hC hnh (show decode prog_14_method_27_code 113 = .ok (.invokevirtual 221, 3) by decide +kernel) (by decide) (by decide) (by decide) (r0 := ("StyleCourtModel", xF13, 85)) rfl ⟨by decide, by decide, by decide +kernel⟩ w_1448 w_83 w_1445 w_1447 w_31) ?_
  refine xA (ok_vret hC hr (show decode prog_14_method_27_code 116 = .ok (.return_, 1) by decide +kernel)) ?_
  refine xA (ok_bipush hC (show decode prog_14_method_27_code 117 = .ok (.bipush 6, 2) by decide +kernel) (by decide)) ?_
  refine xA (ok_iload_n hC (show decode prog_14_method_27_code 119 = .ok (.iload_n 1, 1) by decide +kernel) rfl) ?_
  refine xA (ok_imul hC (show decode prog_14_method_27_code 120 = .ok (.imul, 1) by decide +kernel)) ?_
  refine xA (ok_aload_n hC (show decode prog_14_method_27_code 121 = .ok (.aload_n 0, 1) by decide +kernel) rfl) ?_
  refine xA (ok_get hC (show decode prog_14_method_27_code 122 = .ok (.getfield 45, 3) by decide +kernel) (by decide) (r0 := ("StyleCourtModel", xF13, 85)) rfl (by decide) rfl w_1164) ?_
  refine xA (ok_iload_n hC (show decode prog_14_method_27_code 125 = .ok (.iload_n 1, 1) by decide +kernel) rfl) ?_
  refine xA (ok_iald hC (show decode prog_14_method_27_code 126 = .ok (.iaload, 1) by decide +kernel) (by decide) rfl) ?_
  refine xA (ok_iadd hC (show decode prog_14_method_27_code 127 = .ok (.iadd, 1) by decide +kernel)) ?_
  refine xA (ok_istore hC (show decode prog_14_method_27_code 128 = .ok (.istore 4, 2) by decide +kernel) (by decide)) ?_
  refine xA (ok_aload_n hC (show decode prog_14_method_27_code 130 = .ok (.aload_n 0, 1) by decide +kernel) rfl) ?_
  refine xA (ok_get hC (show decode prog_14_method_27_code 131 = .ok (.getfield 67, 3) by decide +kernel) (by decide) (r0 := ("StyleCourtModel", xF13, 85)) rfl (by decide) rfl w_1171) ?_
  refine xA (ok_iload hC (show decode prog_14_method_27_code 134 = .ok (.iload 4, 2) by decide +kernel)) ?_
  refine xA (ok_iload_n hC (show decode prog_14_method_27_code 136 = .ok (.iload_n 2, 1) by decide +kernel) rfl) ?_
  refine xA (ok_iast hC (show decode prog_14_method_27_code 137 = .ok (.iastore, 1) by decide +kernel) (by decide) rfl) ?_
  refine xA (ok_aload_n hC (show decode prog_14_method_27_code 138 = .ok (.aload_n 0, 1) by decide +kernel) rfl) ?_
  refine xA (ok_get hC (show decode prog_14_method_27_code 139 = .ok (.getfield 70, 3) by decide +kernel) (by decide) (r0 := ("StyleCourtModel", xF13, 85)) rfl (by decide) rfl w_1172) ?_
  refine xA (ok_iload hC (show decode prog_14_method_27_code 142 = .ok (.iload 4, 2) by decide +kernel)) ?_
  refine xA (ok_aload_n hC (show decode prog_14_method_27_code 144 = .ok (.aload_n 0, 1) by decide +kernel) rfl) ?_
  refine xA (ok_get hC (show decode prog_14_method_27_code 145 = .ok (.getfield 227, 3) by decide +kernel) (by decide) (r0 := ("StyleCourtModel", xF13, 85)) rfl (by decide) rfl w_1183) ?_
  refine xA (ok_iload_n hC (show decode prog_14_method_27_code 148 = .ok (.iload_n 2, 1) by decide +kernel) rfl) ?_
  refine xA (ok_isub hC (show decode prog_14_method_27_code 149 = .ok (.isub, 1) by decide +kernel)) ?_
  refine xA (ok_iast hC (show decode prog_14_method_27_code 150 = .ok (.iastore, 1) by decide +kernel) (by decide) rfl) ?_
  refine xA (ok_aload_n hC (show decode prog_14_method_27_code 151 = .ok (.aload_n 0, 1) by decide +kernel) rfl) ?_
  refine xA (ok_callV hC hnh (show decode prog_14_method_27_code 152 = .ok (.invokevirtual 266, 3) by decide +kernel) (by decide) (by decide) (by decide) (r0 := ("StyleCourtModel", xF13, 85)) rfl ⟨by decide, by decide, by decide +kernel⟩ w_1466 w_83 w_1463 w_1465 w_34) ?_
  refine xA (ok_aload_n hC (show decode prog_14_method_27_code 155 = .ok (.aload_n 0, 1) by decide +kernel) rfl) ?_
  refine xA (ok_aload_n hC (show decode prog_14_method_27_code 156 = .ok (.aload_n 0, 1) by decide +kernel) rfl) ?_
  refine xA (ok_get hC (show decode prog_14_method_27_code 157 = .ok (.getfield 227, 3) by decide +kernel) (by decide) (r0 := ("StyleCourtModel", xF13, 85)) rfl (by decide) rfl w_1183) ?_
  refine xA (ok_callV hC hnh (show decode prog_14_method_27_code 160 = .ok (.invokevirtual 214, 3) by decide +kernel) (by decide) (by decide) (by decide) (r0 := ("StyleCourtModel", xF13, 85)) rfl ⟨by decide, by decide, by decide +kernel⟩ w_1440 w_83 w_1437 w_1439 w_29) ?_
  refine xA (ok_bipush hC (show decode prog_14_method_27_code 163 = .ok (.bipush 61, 2) by decide +kernel) (by decide)) ?_
  refine xA (ok_iceq hC (show decode prog_14_method_27_code 165 = .ok (.if_icmp .eq 12, 3) by decide +kernel) (by decide)) ?_
  refine xA (ok_aload_n hC (show decode prog_14_method_27_code 168 = .ok (.aload_n 0, 1) by decide +kernel) rfl) ?_
  refine xA (ok_aload_n hC (show decode prog_14_method_27_code 169 = .ok (.aload_n 0, 1) by decide +kernel) rfl) ?_
  refine xA (ok_get hC (show decode prog_14_method_27_code 170 = .ok (.getfield 227, 3) by decide +kernel) (by decide) (r0 := ("StyleCourtModel", xF13, 85)) rfl (by decide) rfl w_1183) ?_
  refine xA (ok_callV hC hnh (show decode prog_14_method_27_code 173 = .ok (.invokevirtual 221, 3) by decide +kernel) (by decide) (by decide) (by decide) (r0 := ("StyleCourtModel", xF13, 85)) rfl ⟨by decide, by decide, by decide +kernel⟩ w_1448 w_83 w_1445 w_1447 w_31) ?_
  refine xA (ok_vret hC hr (show decode prog_14_method_27_code 176 = .ok (.return_, 1) by decide +kernel)) ?_
  refine xA (ok_aload_n hC (show decode prog_14_method_27_code 177 = .ok (.aload_n 0, 1) by decide +kernel) rfl) ?_
  refine xA (ok_dup hC (show decode prog_14_method_27_code 178 = .ok (.dup, 1) by decide +kernel)) ?_
  refine xA (ok_get hC (show decode prog_14_method_27_code 179 = .ok (.getfield 227, 3) by decide +kernel) (by decide) (r0 := ("StyleCourtModel", xF13, 85)) rfl (by decide) rfl w_1183) ?_
  refine xA (ok_iconst hC (show decode prog_14_method_27_code 182 = .ok (.iconst 1, 1) by decide +kernel) (by decide)) ?_
  refine xA (ok_iadd hC (show decode prog_14_method_27_code 183 = .ok (.iadd, 1) by decide +kernel)) ?_
  refine xA (ok_put hC (show decode prog_14_method_27_code 184 = .ok (.putfield 227, 3) by decide +kernel) (by decide) (r0 := ("StyleCourtModel", xF13, 85)) rfl (by decide) rfl (by decide +kernel) w_1183) ?_
  refine xA (ok_aload_n hC (show decode prog_14_method_27_code 187 = .ok (.aload_n 0, 1) by decide +kernel) rfl) ?_
  refine xA (ok_callV hC hnh (show decode prog_14_method_27_code 188 = .ok (.invokevirtual 266, 3) by decide +kernel) (by decide) (by decide) (by decide) (r0 := ("StyleCourtModel", xF13, 85)) rfl ⟨by decide, by decide, by decide +kernel⟩ w_1466 w_83 w_1463 w_1465 w_34) ?_
  refine xA (ok_aload_n hC (show decode prog_14_method_27_code 191 = .ok (.aload_n 0, 1) by decide +kernel) rfl) ?_
  refine xA (ok_get hC (show decode prog_14_method_27_code 192 = .ok (.getfield 227, 3) by decide +kernel) (by decide) (r0 := ("StyleCourtModel", xF13, 85)) rfl (by decide) rfl w_1183) ?_
  refine xA (ok_istore hC (show decode prog_14_method_27_code 195 = .ok (.istore 5, 2) by decide +kernel) (by decide)) ?_
  refine xA (ok_aload_n hC (show decode prog_14_method_27_code 197 = .ok (.aload_n 0, 1) by decide +kernel) rfl) ?_
  refine xA (ok_aload_n hC (show decode prog_14_method_27_code 198 = .ok (.aload_n 0, 1) by decide +kernel) rfl) ?_
  refine xA (ok_iload hC (show decode prog_14_method_27_code 199 = .ok (.iload 5, 2) by decide +kernel)) ?_
  refine xA (ok_callV hC hnh (show decode prog_14_method_27_code 201 = .ok (.invokevirtual 269, 3) by decide +kernel) (by decide) (by decide) (by decide) (r0 := ("StyleCourtModel", xF13, 85)) rfl ⟨by decide, by decide, by decide +kernel⟩ w_1495 w_83 w_1492 w_1494 w_40) ?_
  refine xA (ok_put hC (show decode prog_14_method_27_code 204 = .ok (.putfield 227, 3) by decide +kernel) (by decide) (r0 := ("StyleCourtModel", xF13, 85)) rfl (by decide) rfl (by decide +kernel) w_1183) ?_
  refine xA (ok_aload_n hC (show decode prog_14_method_27_code 207 = .ok (.aload_n 0, 1) by decide +kernel) rfl) ?_
  refine xA (ok_get hC (show decode prog_14_method_27_code 208 = .ok (.getfield 211, 3) by decide +kernel) (by decide) (r0 := ("StyleCourtModel", xF13, 85)) rfl (by decide) rfl w_1151) ?_
  refine xA (ok_iflt hC (show decode prog_14_method_27_code 211 = .ok (.ifCond .lt 4, 3) by decide +kernel) (by decide)) ?_
  refine xA (ok_vret hC hr (show decode prog_14_method_27_code 214 = .ok (.return_, 1) by decide +kernel)) ?_
  refine xA (ok_aload_n hC (show decode prog_14_method_27_code 215 = .ok (.aload_n 0, 1) by decide +kernel) rfl) ?_
  refine xA (ok_get hC (show decode prog_14_method_27_code 216 = .ok (.getfield 73, 3) by decide +kernel) (by decide) (r0 := ("StyleCourtModel", xF13, 85)) rfl (by decide) rfl w_1173) ?_
  refine xA (ok_iload hC (show decode prog_14_method_27_code 219 = .ok (.iload 4, 2) by decide +kernel)) ?_
  refine xA (ok_iload hC (show decode prog_14_method_27_code 221 = .ok (.iload 5, 2) by decide +kernel)) ?_
  refine xA (ok_iconst hC (show decode prog_14_method_27_code 223 = .ok (.iconst 1, 1) by decide +kernel) (by decide)) ?_
  refine xA (ok_iadd hC (show decode prog_14_method_27_code 224 = .ok (.iadd, 1) by decide +kernel)) ?_
  refine xA (ok_iast hC (show decode prog_14_method_27_code 225 = .ok (.iastore, 1) by decide +kernel) (by decide) rfl) ?_
  refine xA (ok_aload_n hC (show decode prog_14_method_27_code 226 = .ok (.aload_n 0, 1) by decide +kernel) rfl) ?_
  refine xA (ok_get hC (show decode prog_14_method_27_code 227 = .ok (.getfield 76, 3) by decide +kernel) (by decide) (r0 := ("StyleCourtModel", xF13, 85)) rfl (by decide) rfl w_1174) ?_
  refine xA (ok_iload hC (show decode prog_14_method_27_code 230 = .ok (.iload 4, 2) by decide +kernel)) ?_
  refine xA (ok_aload_n hC (show decode prog_14_method_27_code 232 = .ok (.aload_n 0, 1) by decide +kernel) rfl) ?_
  refine xA (ok_get hC (show decode prog_14_method_27_code 233 = .ok (.getfield 227, 3) by decide +kernel) (by decide) (r0 := ("StyleCourtModel", xF13, 85)) rfl (by decide) rfl w_1183) ?_
  refine xA (ok_iload hC (show decode prog_14_method_27_code 236 = .ok (.iload 5, 2) by decide +kernel)) ?_
  refine xA (ok_isub hC (show decode prog_14_method_27_code 238 = .ok (.isub, 1) by decide +kernel)) ?_
  refine xA (ok_iconst hC (show decode prog_14_method_27_code 239 = .ok (.iconst 2, 1) by decide +kernel) (by decide)) ?_
  refine xA (ok_isub hC (show decode prog_14_method_27_code 240 = .ok (.isub, 1) by decide +kernel)) ?_
  refine xA (ok_iast hC (show decode prog_14_method_27_code 241 = .ok (.iastore, 1) by decide +kernel) (by decide) rfl) ?_
  refine xA (ok_aload_n hC (show decode prog_14_method_27_code 242 = .ok (.aload_n 0, 1) by decide +kernel) rfl) ?_
  refine xA (ok_get hC (show decode prog_14_method_27_code 243 = .ok (.getfield 45, 3) by decide +kernel) (by decide) (r0 := ("StyleCourtModel", xF13, 85)) rfl (by decide) rfl w_1164) ?_
  refine xA (ok_iload_n hC (show decode prog_14_method_27_code 246 = .ok (.iload_n 1, 1) by decide +kernel) rfl) ?_
  refine xA (ok_dup2 hC (show decode prog_14_method_27_code 247 = .ok (.dup2, 1) by decide +kernel)) ?_
  refine xA (ok_iald hC (show decode prog_14_method_27_code 248 = .ok (.iaload, 1) by decide +kernel) (by decide) rfl) ?_
  refine xA (ok_iconst hC (show decode prog_14_method_27_code 249 = .ok (.iconst 1, 1) by decide +kernel) (by decide)) ?_
  refine xA (ok_iadd hC (show decode prog_14_method_27_code 250 = .ok (.iadd, 1) by decide +kernel)) ?_
  refine xA (ok_iast hC (show decode prog_14_method_27_code 251 = .ok (.iastore, 1) by decide +kernel) (by decide) rfl) ?_
  refine xA (ok_vret hC hr (show decode prog_14_method_27_code 252 = .ok (.return_, 1) by decide +kernel)) ?_
  exact trivial

def tb_Mo_reference (X : xX) : List (Nat × xOp) := [(0, o_ald 0 1),
  (1, o_get 13 38 4),
  (4, o_ic 1 5),
  (5, o_iadd 6),
  (6, o_ist 2 7),
  (7, o_ald 0 8),
  (8, o_ild 2 9),
  (9, o_callV X.l X.D X.P 13 1 2 y_Mo_nameFrom 12),
  (12, o_ist 3 13),
  (13, o_ald 0 14),
  (14, o_get 13 6 17),
  (17, o_iflt 21 20),
  (20, o_vret X.P),
  (21, o_ild 3 22),
  (22, o_ild 2 23),
  (23, o_isub 24),
  (24, o_ist 4 26),
  (26, o_ald 0 27),
  (27, o_ild 2 28),
  (28, o_ild 4 30),
  (30, o_callV X.l X.D X.P 13 1 3 y_Mo_entity 33),
  (33, o_ist 5 35),
  (35, o_ald 0 36),
  (36, o_ild 2 37),
  (37, o_ild 4 39),
  (39, o_callV X.l X.D X.P 13 1 3 y_Mo_isFixed 42),
  (42, o_ist 6 44),
  (44, o_ild 5 46),
  (46, o_ifge 60 49),
  (49, o_ild 6 51),
  (51, o_ifne 60 54),
  (54, o_ald 0 55),
  (55, o_ild 2 56),
  (56, o_callV X.l X.D X.P 13 0 2 y_Mo_wrong 59),
  (59, o_vret X.P),
  (60, o_ald 0 61),
  (61, o_ild 3 62),
  (62, o_callV X.l X.D X.P 13 0 2 y_Mo_byteAt 65),
  (65, o_ic 59 67),
  (67, o_iceq 76 70),
  (70, o_ald 0 71),
  (71, o_ild 3 72),
  (72, o_callV X.l X.D X.P 13 0 2 y_Mo_wrong 75),
  (75, o_vret X.P),
  (76, o_ild 5 78),
  (78, o_iflt 103 81),
  (81, o_ald 0 82),
  (82, o_ald 0 83),
  (83, o_get 13 35 86),
  (86, o_ild 5 88),
  (88, o_ld 0 89),
  (89, o_ald 0 90),
  (90, o_get 13 36 93),
  (93, o_ild 5 95),
  (95, o_ld 0 96),
  (96, o_ild 1 97),
  (97, o_callV X.l X.D X.P 13 0 4 y_Mo_piece 100),
  (100, o_goto 124),
  (103, o_ald 0 104),
  (104, o_ild 4 106),
  (106, o_ic 2 107),
  (107, o_icne 116 110),
  (110, o_ic 8192 113),
  (113, o_goto 119),
  (116, o_ic 8193 119),
  (119, o_ic 1 120),
  (120, o_ild 1 121),
  (121, o_callV X.l X.D X.P 13 0 4 y_Mo_piece 124),
  (124, o_ald 0 125),
  (125, o_ild 3 126),
  (126, o_ic 1 127),
  (127, o_iadd 128),
  (128, o_put 13 38 (.int) 131),
  (131, o_vret X.P)]
theorem tk_Mo_reference {X : xX} (hC : xCx X prog_14_method_22_code "StyleCourtModel" 7 2) (hr : X.meth.sig.returnType = none) (hnh : X.c.exceptionTable.isEmpty = true) (hin : X.meth.name = "reference") : xAll X (tb_Mo_reference X) := by
  refine xA (ok_aload_n hC (show decode prog_14_method_22_code 0 = .ok (.aload_n 0, 1) by decide +kernel) rfl) ?_
  refine xA (ok_get hC (show decode prog_14_method_22_code 1 = .ok (.getfield 227, 3) by decide +kernel) (by decide) (r0 := ("StyleCourtModel", xF13, 85)) rfl (by decide) rfl w_1183) ?_
  refine xA (ok_iconst hC (show decode prog_14_method_22_code 4 = .ok (.iconst 1, 1) by decide +kernel) (by decide)) ?_
  refine xA (ok_iadd hC (show decode prog_14_method_22_code 5 = .ok (.iadd, 1) by decide +kernel)) ?_
  refine xA (ok_istore_n hC (show decode prog_14_method_22_code 6 = .ok (.istore_n 2, 1) by decide +kernel) rfl (by decide)) ?_
  refine xA (ok_aload_n hC (show decode prog_14_method_22_code 7 = .ok (.aload_n 0, 1) by decide +kernel) rfl) ?_
  refine xA (ok_iload_n hC (show decode prog_14_method_22_code 8 = .ok (.iload_n 2, 1) by decide +kernel) rfl) ?_
  refine xA (ok_callV hC hnh (show decode prog_14_method_22_code 9 = .ok (.invokevirtual 251, 3) by decide +kernel) (by decide) (by decide) (by decide) (r0 := ("StyleCourtModel", xF13, 85)) rfl ⟨by decide, by decide, by decide +kernel⟩ w_1452 w_83 w_1449 w_1451 w_32) ?_
  refine xA (ok_istore_n hC (show decode prog_14_method_22_code 12 = .ok (.istore_n 3, 1) by decide +kernel) rfl (by decide)) ?_
  refine xA (ok_aload_n hC (show decode prog_14_method_22_code 13 = .ok (.aload_n 0, 1) by decide +kernel) rfl) ?_
  refine xA (ok_get hC (show decode prog_14_method_22_code 14 = .ok (.getfield 211, 3) by decide +kernel) (by decide) (r0 := ("StyleCourtModel", xF13, 85)) rfl (by decide) rfl w_1151) ?_
  refine xA (ok_iflt hC (show decode prog_14_method_22_code 17 = .ok (.ifCond .lt 4, 3) by decide +kernel) (by decide)) ?_
  refine xA (ok_vret hC hr (show decode prog_14_method_22_code 20 = .ok (.return_, 1) by decide +kernel)) ?_
  refine xA (ok_iload_n hC (show decode prog_14_method_22_code 21 = .ok (.iload_n 3, 1) by decide +kernel) rfl) ?_
  refine xA (ok_iload_n hC (show decode prog_14_method_22_code 22 = .ok (.iload_n 2, 1) by decide +kernel) rfl) ?_
  refine xA (ok_isub hC (show decode prog_14_method_22_code 23 = .ok (.isub, 1) by decide +kernel)) ?_
  refine xA (ok_istore hC (show decode prog_14_method_22_code 24 = .ok (.istore 4, 2) by decide +kernel) (by decide)) ?_
  refine xA (ok_aload_n hC (show decode prog_14_method_22_code 26 = .ok (.aload_n 0, 1) by decide +kernel) rfl) ?_
  refine xA (ok_iload_n hC (show decode prog_14_method_22_code 27 = .ok (.iload_n 2, 1) by decide +kernel) rfl) ?_
  refine xA (ok_iload hC (show decode prog_14_method_22_code 28 = .ok (.iload 4, 2) by decide +kernel)) ?_
  refine xA (ok_callV hC hnh (show decode prog_14_method_22_code 30 = .ok (.invokevirtual 254, 3) by decide +kernel) (by decide) (by decide) (by decide) (r0 := ("StyleCourtModel", xF13, 85)) rfl ⟨by decide, by decide, by decide +kernel⟩ w_1491 w_83 w_1488 w_1490 w_39) ?_
  refine xA (ok_istore hC (show decode prog_14_method_22_code 33 = .ok (.istore 5, 2) by decide +kernel) (by decide)) ?_
  refine xA (ok_aload_n hC (show decode prog_14_method_22_code 35 = .ok (.aload_n 0, 1) by decide +kernel) rfl) ?_
  refine xA (ok_iload_n hC (show decode prog_14_method_22_code 36 = .ok (.iload_n 2, 1) by decide +kernel) rfl) ?_
  refine xA (ok_iload hC (show decode prog_14_method_22_code 37 = .ok (.iload 4, 2) by decide +kernel)) ?_
  refine xA (ok_callV hC hnh (show decode prog_14_method_22_code 39 = .ok (.invokevirtual 258, 3) by decide +kernel) (by decide) (by decide) (by decide) (r0 := ("StyleCourtModel", xF13, 85)) rfl ⟨by decide, by decide, by decide +kernel⟩ w_1481 w_83 w_1478 w_1480 w_37) ?_
  refine xA (ok_istore hC (show decode prog_14_method_22_code 42 = .ok (.istore 6, 2) by decide +kernel) (by decide)) ?_
  refine xA (ok_iload hC (show decode prog_14_method_22_code 44 = .ok (.iload 5, 2) by decide +kernel)) ?_
  refine xA (ok_ifge hC (show decode prog_14_method_22_code 46 = .ok (.ifCond .ge 14, 3) by decide +kernel) (by decide)) ?_
  refine xA (ok_iload hC (show decode prog_14_method_22_code 49 = .ok (.iload 6, 2) by decide +kernel)) ?_
  refine xA (ok_ifne hC (show decode prog_14_method_22_code 51 = .ok (.ifCond .ne 9, 3) by decide +kernel) (by decide)) ?_
  refine xA (ok_aload_n hC (show decode prog_14_method_22_code 54 = .ok (.aload_n 0, 1) by decide +kernel) rfl) ?_
  refine xA (ok_iload_n hC (show decode prog_14_method_22_code 55 = .ok (.iload_n 2, 1) by decide +kernel) rfl) ?_
  refine xA (ok_callV hC hnh (show decode prog_14_method_22_code 56 = .ok (.invokevirtual 221, 3) by decide +kernel) (by decide) (by decide) (by decide) (r0 := ("StyleCourtModel", xF13, 85)) rfl ⟨by decide, by decide, by decide +kernel⟩ w_1448 w_83 w_1445 w_1447 w_31) ?_
  refine xA (ok_vret hC hr (show decode prog_14_method_22_code 59 = .ok (.return_, 1) by decide +kernel)) ?_
  refine xA (ok_aload_n hC (show decode prog_14_method_22_code 60 = .ok (.aload_n 0, 1) by decide +kernel) rfl) ?_
  refine xA (ok_iload_n hC (show decode prog_14_method_22_code 61 = .ok (.iload_n 3, 1) by decide +kernel) rfl) ?_
  refine xA (ok_callV hC hnh (show decode prog_14_method_22_code 62 = .ok (.invokevirtual 214, 3) by decide +kernel) (by decide) (by decide) (by decide) (r0 := ("StyleCourtModel", xF13, 85)) rfl ⟨by decide, by decide, by decide +kernel⟩ w_1440 w_83 w_1437 w_1439 w_29) ?_
  refine xA (ok_bipush hC (show decode prog_14_method_22_code 65 = .ok (.bipush 59, 2) by decide +kernel) (by decide)) ?_
  refine xA (ok_iceq hC (show decode prog_14_method_22_code 67 = .ok (.if_icmp .eq 9, 3) by decide +kernel) (by decide)) ?_
  refine xA (ok_aload_n hC (show decode prog_14_method_22_code 70 = .ok (.aload_n 0, 1) by decide +kernel) rfl) ?_
  refine xA (ok_iload_n hC (show decode prog_14_method_22_code 71 = .ok (.iload_n 3, 1) by decide +kernel) rfl) ?_
  refine xA (ok_callV hC hnh (show decode prog_14_method_22_code 72 = .ok (.invokevirtual 221, 3) by decide +kernel) (by decide) (by decide) (by decide) (r0 := ("StyleCourtModel", xF13, 85)) rfl ⟨by decide, by decide, by decide +kernel⟩ w_1448 w_83 w_1445 w_1447 w_31) ?_
  refine xA (ok_vret hC hr (show decode prog_14_method_22_code 75 = .ok (.return_, 1) by decide +kernel)) ?_
  refine xA (ok_iload hC (show decode prog_14_method_22_code 76 = .ok (.iload 5, 2) by decide +kernel)) ?_
  refine xA (ok_iflt hC (show decode prog_14_method_22_code 78 = .ok (.ifCond .lt 25, 3) by decide +kernel) (by decide)) ?_
  refine xA (ok_aload_n hC (show decode prog_14_method_22_code 81 = .ok (.aload_n 0, 1) by decide +kernel) rfl) ?_
  refine xA (ok_aload_n hC (show decode prog_14_method_22_code 82 = .ok (.aload_n 0, 1) by decide +kernel) rfl) ?_
  refine xA (ok_get hC (show decode prog_14_method_22_code 83 = .ok (.getfield 91, 3) by decide +kernel) (by decide) (r0 := ("StyleCourtModel", xF13, 85)) rfl (by decide) rfl w_1180) ?_
  refine xA (ok_iload hC (show decode prog_14_method_22_code 86 = .ok (.iload 5, 2) by decide +kernel)) ?_
  refine xA (ok_iald hC (show decode prog_14_method_22_code 88 = .ok (.iaload, 1) by decide +kernel) (by decide) rfl) ?_
  refine xA (ok_aload_n hC (show decode prog_14_method_22_code 89 = .ok (.aload_n 0, 1) by decide +kernel) rfl) ?_
  refine xA (ok_get hC (show decode prog_14_method_22_code 90 = .ok (.getfield 94, 3) by decide +kernel) (by decide) (r0 := ("StyleCourtModel", xF13, 85)) rfl (by decide) rfl w_1181) ?_
  refine xA (ok_iload hC (show decode prog_14_method_22_code 93 = .ok (.iload 5, 2) by decide +kernel)) ?_
  refine xA (ok_iald hC (show decode prog_14_method_22_code 95 = .ok (.iaload, 1) by decide +kernel) (by decide) rfl) ?_
  refine xA (ok_iload_n hC (show decode prog_14_method_22_code 96 = .ok (.iload_n 1, 1) by decide +kernel) rfl) ?_
  refine xA (ok_callV hC hnh (show decode prog_14_method_22_code 97 = .ok (.invokevirtual 262, 3) by decide +kernel) (by decide) (by decide) (by decide) (r0 := ("StyleCourtModel", xF13, 85)) rfl ⟨by decide, by decide, by decide +kernel⟩ w_1515 w_83 w_1512 w_1514 w_45) ?_
  refine xA (ok_goto hC (show decode prog_14_method_22_code 100 = .ok (.goto 24, 3) by decide +kernel) (by decide)) ?_
  refine xA (ok_aload_n hC (show decode prog_14_method_22_code 103 = .ok (.aload_n 0, 1) by decide +kernel) rfl) ?_
  refine xA (ok_iload hC (show decode prog_14_method_22_code 104 = .ok (.iload 4, 2) by decide +kernel)) ?_
  refine xA (ok_iconst hC (show decode prog_14_method_22_code 106 = .ok (.iconst 2, 1) by decide +kernel) (by decide)) ?_
  refine xA (ok_icne hC (show decode prog_14_method_22_code 107 = .ok (.if_icmp .ne 9, 3) by decide +kernel) (by decide)) ?_
  refine xA (ok_sipush hC (show decode prog_14_method_22_code 110 = .ok (.sipush 8192, 3) by decide +kernel) (by decide)) ?_
  refine xA (ok_goto hC (show decode prog_14_method_22_code 113 = .ok (.goto 6, 3) by decide +kernel) (by decide)) ?_
  refine xA (ok_sipush hC (show decode prog_14_method_22_code 116 = .ok (.sipush 8193, 3) by decide +kernel) (by decide)) ?_
  refine xA (ok_iconst hC (show decode prog_14_method_22_code 119 = .ok (.iconst 1, 1) by decide +kernel) (by decide)) ?_
  refine xA (ok_iload_n hC (show decode prog_14_method_22_code 120 = .ok (.iload_n 1, 1) by decide +kernel) rfl) ?_
  refine xA (ok_callV hC hnh (show decode prog_14_method_22_code 121 = .ok (.invokevirtual 262, 3) by decide +kernel) (by decide) (by decide) (by decide) (r0 := ("StyleCourtModel", xF13, 85)) rfl ⟨by decide, by decide, by decide +kernel⟩ w_1515 w_83 w_1512 w_1514 w_45) ?_
  refine xA (ok_aload_n hC (show decode prog_14_method_22_code 124 = .ok (.aload_n 0, 1) by decide +kernel) rfl) ?_
  refine xA (ok_iload_n hC (show decode prog_14_method_22_code 125 = .ok (.iload_n 3, 1) by decide +kernel) rfl) ?_
  refine xA (ok_iconst hC (show decode prog_14_method_22_code 126 = .ok (.iconst 1, 1) by decide +kernel) (by decide)) ?_
  refine xA (ok_iadd hC (show decode prog_14_method_22_code 127 = .ok (.iadd, 1) by decide +kernel)) ?_
  refine xA (ok_put hC (show decode prog_14_method_22_code 128 = .ok (.putfield 227, 3) by decide +kernel) (by decide) (r0 := ("StyleCourtModel", xF13, 85)) rfl (by decide) rfl (by decide +kernel) w_1183) ?_
  refine xA (ok_vret hC hr (show decode prog_14_method_22_code 131 = .ok (.return_, 1) by decide +kernel)) ?_
  exact trivial

def tb_Mo_piece (X : xX) : List (Nat × xOp) := [(0, o_ild 2 1),
  (1, o_ifne 5 4),
  (4, o_vret X.P),
  (5, o_ald 0 6),
  (6, o_get 13 30 9),
  (9, o_ald 0 10),
  (10, o_get 13 32 13),
  (13, o_ild 1 14),
  (14, o_iast 0 15),
  (15, o_ald 0 16),
  (16, o_get 13 31 19),
  (19, o_ald 0 20),
  (20, o_get 13 32 23),
  (23, o_ild 2 24),
  (24, o_iast 0 25),
  (25, o_ald 0 26),
  (26, o_dup 27),
  (27, o_get 13 32 30),
  (30, o_ic 1 31),
  (31, o_iadd 32),
  (32, o_put 13 32 (.int) 35),
  (35, o_ild 3 36),
  (36, o_iflt 46 39),
  (39, o_ald 0 40),
  (40, o_get 13 25 43),
  (43, o_ild 3 44),
  (44, o_ic 0 45),
  (45, o_zast 3 46),
  (46, o_vret X.P)]
theorem tk_Mo_piece {X : xX} (hC : xCx X prog_14_method_19_code "StyleCourtModel" 4 0) (hr : X.meth.sig.returnType = none) (hnh : X.c.exceptionTable.isEmpty = true) (hin : X.meth.name = "piece") : xAll X (tb_Mo_piece X) := by
  refine xA (ok_iload_n hC (show decode prog_14_method_19_code 0 = .ok (.iload_n 2, 1) by decide +kernel) rfl) ?_
  refine xA (ok_ifne hC (show decode prog_14_method_19_code 1 = .ok (.ifCond .ne 4, 3) by decide +kernel) (by decide)) ?_
  refine xA (ok_vret hC hr (show decode prog_14_method_19_code 4 = .ok (.return_, 1) by decide +kernel)) ?_
  refine xA (ok_aload_n hC (show decode prog_14_method_19_code 5 = .ok (.aload_n 0, 1) by decide +kernel) rfl) ?_
  refine xA (ok_get hC (show decode prog_14_method_19_code 6 = .ok (.getfield 79, 3) by decide +kernel) (by decide) (r0 := ("StyleCourtModel", xF13, 85)) rfl (by decide) rfl w_1175) ?_
  refine xA (ok_aload_n hC (show decode prog_14_method_19_code 9 = .ok (.aload_n 0, 1) by decide +kernel) rfl) ?_
  refine xA (ok_get hC (show decode prog_14_method_19_code 10 = .ok (.getfield 233, 3) by decide +kernel) (by decide) (r0 := ("StyleCourtModel", xF13, 85)) rfl (by decide) rfl w_1177) ?_
  refine xA (ok_iload_n hC (show decode prog_14_method_19_code 13 = .ok (.iload_n 1, 1) by decide +kernel) rfl) ?_
  refine xA (ok_iast hC (show decode prog_14_method_19_code 14 = .ok (.iastore, 1) by decide +kernel) (by decide) rfl) ?_
  refine xA (ok_aload_n hC (show decode prog_14_method_19_code 15 = .ok (.aload_n 0, 1) by decide +kernel) rfl) ?_
  refine xA (ok_get hC (show decode prog_14_method_19_code 16 = .ok (.getfield 82, 3) by decide +kernel) (by decide) (r0 := ("StyleCourtModel", xF13, 85)) rfl (by decide) rfl w_1176) ?_
  refine xA (ok_aload_n hC (show decode prog_14_method_19_code 19 = .ok (.aload_n 0, 1) by decide +kernel) rfl) ?_
  refine xA (ok_get hC (show decode prog_14_method_19_code 20 = .ok (.getfield 233, 3) by decide +kernel) (by decide) (r0 := ("StyleCourtModel", xF13, 85)) rfl (by decide) rfl w_1177) ?_
  refine xA (ok_iload_n hC (show decode prog_14_method_19_code 23 = .ok (.iload_n 2, 1) by decide +kernel) rfl) ?_
  refine xA (ok_iast hC (show decode prog_14_method_19_code 24 = .ok (.iastore, 1) by decide +kernel) (by decide) rfl) ?_
  refine xA (ok_aload_n hC (show decode prog_14_method_19_code 25 = .ok (.aload_n 0, 1) by decide +kernel) rfl) ?_
  refine xA (ok_dup hC (show decode prog_14_method_19_code 26 = .ok (.dup, 1) by decide +kernel)) ?_
  refine xA (ok_get hC (show decode prog_14_method_19_code 27 = .ok (.getfield 233, 3) by decide +kernel) (by decide) (r0 := ("StyleCourtModel", xF13, 85)) rfl (by decide) rfl w_1177) ?_
  refine xA (ok_iconst hC (show decode prog_14_method_19_code 30 = .ok (.iconst 1, 1) by decide +kernel) (by decide)) ?_
  refine xA (ok_iadd hC (show decode prog_14_method_19_code 31 = .ok (.iadd, 1) by decide +kernel)) ?_
  refine xA (ok_put hC (show decode prog_14_method_19_code 32 = .ok (.putfield 233, 3) by decide +kernel) (by decide) (r0 := ("StyleCourtModel", xF13, 85)) rfl (by decide) rfl (by decide +kernel) w_1177) ?_
  refine xA (ok_iload_n hC (show decode prog_14_method_19_code 35 = .ok (.iload_n 3, 1) by decide +kernel) rfl) ?_
  refine xA (ok_iflt hC (show decode prog_14_method_19_code 36 = .ok (.ifCond .lt 10, 3) by decide +kernel) (by decide)) ?_
  refine xA (ok_aload_n hC (show decode prog_14_method_19_code 39 = .ok (.aload_n 0, 1) by decide +kernel) rfl) ?_
  refine xA (ok_get hC (show decode prog_14_method_19_code 40 = .ok (.getfield 63, 3) by decide +kernel) (by decide) (r0 := ("StyleCourtModel", xF13, 85)) rfl (by decide) rfl w_1170) ?_
  refine xA (ok_iload_n hC (show decode prog_14_method_19_code 43 = .ok (.iload_n 3, 1) by decide +kernel) rfl) ?_
  refine xA (ok_iconst hC (show decode prog_14_method_19_code 44 = .ok (.iconst 0, 1) by decide +kernel) (by decide)) ?_
  refine xA (ok_zast hC (show decode prog_14_method_19_code 45 = .ok (.bastore, 1) by decide +kernel) (by decide) rfl) ?_
  refine xA (ok_vret hC hr (show decode prog_14_method_19_code 46 = .ok (.return_, 1) by decide +kernel)) ?_
  exact trivial

def tb_Mo_style (X : xX) : List (Nat × xOp) := [(0, o_ald 0 1),
  (1, o_get 13 79 4),
  (4, o_ist 1 5),
  (5, o_ic 0 6),
  (6, o_ist 2 7),
  (7, o_ild 2 8),
  (8, o_ild 1 9),
  (9, o_icge 34 12),
  (12, o_ald 0 13),
  (13, o_get 13 41 16),
  (16, o_ild 2 17),
  (17, o_ald 0 18),
  (18, o_get 13 7 21),
  (21, o_ic 20000 24),
  (24, o_ild 2 25),
  (25, o_iadd 26),
  (26, o_ld 0 27),
  (27, o_iast 0 28),
  (28, o_inc 2 1 31),
  (31, o_goto 7),
  (34, o_ald 0 35),
  (35, o_ic 20000 38),
  (38, o_callV X.l X.D X.P 13 0 2 y_Mo_take 41),
  (41, o_ald 0 42),
  (42, o_callV X.l X.D X.P 13 6 1 y_Mo_readStyle 45),
  (45, o_ald 0 46),
  (46, o_ald 0 47),
  (47, o_get 13 6 50),
  (50, o_put 13 5 (.int) 53),
  (53, o_ald 0 54),
  (54, o_get 13 6 57),
  (57, o_iflt 109 60),
  (60, o_ic 0 61),
  (61, o_ist 2 62),
  (62, o_ild 2 63),
  (63, o_ild 1 64),
  (64, o_icge 89 67),
  (67, o_ald 0 68),
  (68, o_get 13 7 71),
  (71, o_ic 20000 74),
  (74, o_ild 2 75),
  (75, o_iadd 76),
  (76, o_ald 0 77),
  (77, o_get 13 41 80),
  (80, o_ild 2 81),
  (81, o_ld 0 82),
  (82, o_iast 0 83),
  (83, o_inc 2 1 86),
  (86, o_goto 62),
  (89, o_ald 0 90),
  (90, o_ild 1 91),
  (91, o_put 13 9 (.int) 94),
  (94, o_ald 0 95),
  (95, o_ic (-1) 96),
  (96, o_put 13 6 (.int) 99),
  (99, o_ald 0 100),
  (100, o_callV X.l X.D X.P 13 6 1 y_Mo_readStyle 103),
  (103, o_ald 0 104),
  (104, o_ic 1 105),
  (105, o_callV X.l X.D X.P 13 0 2 y_Mo_refuse 108),
  (108, o_iret X.P),
  (109, o_ald 0 110),
  (110, o_ic 0 111),
  (111, o_put 13 0 (.int) 114),
  (114, o_ald 0 115),
  (115, o_ald 0 116),
  (116, o_get 13 9 119),
  (119, o_put 13 79 (.int) 122),
  (122, o_ald 0 123),
  (123, o_get 13 50 126),
  (126, o_iret X.P)]
theorem tk_Mo_style {X : xX} (hC : xCx X prog_14_method_43_code "StyleCourtModel" 3 7) (hr : X.meth.sig.returnType = (some .int)) (hnh : X.c.exceptionTable.isEmpty = true) (hin : X.meth.name = "style") : xAll X (tb_Mo_style X) := by
  refine xA (ok_aload_n hC (show decode prog_14_method_43_code 0 = .ok (.aload_n 0, 1) by decide +kernel) rfl) ?_
  refine xA (ok_get hC (show decode prog_14_method_43_code 1 = .ok (.getfield 391, 3) by decide +kernel) (by decide) (r0 := ("StyleCourtModel", xF13, 85)) rfl (by decide) rfl w_1224) ?_
  refine xA (ok_istore_n hC (show decode prog_14_method_43_code 4 = .ok (.istore_n 1, 1) by decide +kernel) rfl (by decide)) ?_
  refine xA (ok_iconst hC (show decode prog_14_method_43_code 5 = .ok (.iconst 0, 1) by decide +kernel) (by decide)) ?_
  refine xA (ok_istore_n hC (show decode prog_14_method_43_code 6 = .ok (.istore_n 2, 1) by decide +kernel) rfl (by decide)) ?_
  refine xA (ok_iload_n hC (show decode prog_14_method_43_code 7 = .ok (.iload_n 2, 1) by decide +kernel) rfl) ?_
  refine xA (ok_iload_n hC (show decode prog_14_method_43_code 8 = .ok (.iload_n 1, 1) by decide +kernel) rfl) ?_
  refine xA (ok_icge hC (show decode prog_14_method_43_code 9 = .ok (.if_icmp .ge 25, 3) by decide +kernel) (by decide)) ?_
  refine xA (ok_aload_n hC (show decode prog_14_method_43_code 12 = .ok (.aload_n 0, 1) by decide +kernel) rfl) ?_
  refine xA (ok_get hC (show decode prog_14_method_43_code 13 = .ok (.getfield 97, 3) by decide +kernel) (by decide) (r0 := ("StyleCourtModel", xF13, 85)) rfl (by decide) rfl w_1186) ?_
  refine xA (ok_iload_n hC (show decode prog_14_method_43_code 16 = .ok (.iload_n 2, 1) by decide +kernel) rfl) ?_
  refine xA (ok_aload_n hC (show decode prog_14_method_43_code 17 = .ok (.aload_n 0, 1) by decide +kernel) rfl) ?_
  refine xA (ok_get hC (show decode prog_14_method_43_code 18 = .ok (.getfield 21, 3) by decide +kernel) (by decide) (r0 := ("StyleCourtModel", xF13, 85)) rfl (by decide) rfl w_1152) ?_
  refine xA (ok_sipush hC (show decode prog_14_method_43_code 21 = .ok (.sipush 20000, 3) by decide +kernel) (by decide)) ?_
  refine xA (ok_iload_n hC (show decode prog_14_method_43_code 24 = .ok (.iload_n 2, 1) by decide +kernel) rfl) ?_
  refine xA (ok_iadd hC (show decode prog_14_method_43_code 25 = .ok (.iadd, 1) by decide +kernel)) ?_
  refine xA (ok_iald hC (show decode prog_14_method_43_code 26 = .ok (.iaload, 1) by decide +kernel) (by decide) rfl) ?_
  refine xA (ok_iast hC (show decode prog_14_method_43_code 27 = .ok (.iastore, 1) by decide +kernel) (by decide) rfl) ?_
  refine xA (ok_iinc hC (show decode prog_14_method_43_code 28 = .ok (.iinc 2 1, 3) by decide +kernel) (by decide) (by decide)) ?_
  refine xA (ok_goto hC (show decode prog_14_method_43_code 31 = .ok (.goto (-24), 3) by decide +kernel) (by decide)) ?_
  refine xA (ok_aload_n hC (show decode prog_14_method_43_code 34 = .ok (.aload_n 0, 1) by decide +kernel) rfl) ?_
  refine xA (ok_sipush hC (show decode prog_14_method_43_code 35 = .ok (.sipush 20000, 3) by decide +kernel) (by decide)) ?_
  refine xA (ok_callV hC hnh (show decode prog_14_method_43_code 38 = .ok (.invokevirtual 305, 3) by decide +kernel) (by decide) (by decide) (by decide) (r0 := ("StyleCourtModel", xF13, 85)) rfl ⟨by decide, by decide, by decide +kernel⟩ w_1432 w_83 w_1429 w_1431 w_27) ?_
  refine xA (ok_aload_n hC (show decode prog_14_method_43_code 41 = .ok (.aload_n 0, 1) by decide +kernel) rfl) ?_
  refine xA (ok_callV hC hnh (show decode prog_14_method_43_code 42 = .ok (.invokevirtual 394, 3) by decide +kernel) (by decide) (by decide) (by decide) (r0 := ("StyleCourtModel", xF13, 85)) rfl ⟨by decide, by decide, by decide +kernel⟩ w_1523 w_83 w_1520 w_1522 w_46) ?_
  refine xA (ok_aload_n hC (show decode prog_14_method_43_code 45 = .ok (.aload_n 0, 1) by decide +kernel) rfl) ?_
  refine xA (ok_aload_n hC (show decode prog_14_method_43_code 46 = .ok (.aload_n 0, 1) by decide +kernel) rfl) ?_
  refine xA (ok_get hC (show decode prog_14_method_43_code 47 = .ok (.getfield 211, 3) by decide +kernel) (by decide) (r0 := ("StyleCourtModel", xF13, 85)) rfl (by decide) rfl w_1151) ?_
  refine xA (ok_put hC (show decode prog_14_method_43_code 50 = .ok (.putfield 16, 3) by decide +kernel) (by decide) (r0 := ("StyleCourtModel", xF13, 85)) rfl (by decide) rfl (by decide +kernel) w_1150) ?_
  refine xA (ok_aload_n hC (show decode prog_14_method_43_code 53 = .ok (.aload_n 0, 1) by decide +kernel) rfl) ?_
  refine xA (ok_get hC (show decode prog_14_method_43_code 54 = .ok (.getfield 211, 3) by decide +kernel) (by decide) (r0 := ("StyleCourtModel", xF13, 85)) rfl (by decide) rfl w_1151) ?_
  refine xA (ok_iflt hC (show decode prog_14_method_43_code 57 = .ok (.ifCond .lt 52, 3) by decide +kernel) (by decide)) ?_
  refine xA (ok_iconst hC (show decode prog_14_method_43_code 60 = .ok (.iconst 0, 1) by decide +kernel) (by decide)) ?_
  refine xA (ok_istore_n hC (show decode prog_14_method_43_code 61 = .ok (.istore_n 2, 1) by decide +kernel) rfl (by decide)) ?_
  refine xA (ok_iload_n hC (show decode prog_14_method_43_code 62 = .ok (.iload_n 2, 1) by decide +kernel) rfl) ?_
  refine xA (ok_iload_n hC (show decode prog_14_method_43_code 63 = .ok (.iload_n 1, 1) by decide +kernel) rfl) ?_
  refine xA (ok_icge hC (show decode prog_14_method_43_code 64 = .ok (.if_icmp .ge 25, 3) by decide +kernel) (by decide)) ?_
  refine xA (ok_aload_n hC (show decode prog_14_method_43_code 67 = .ok (.aload_n 0, 1) by decide +kernel) rfl) ?_
  refine xA (ok_get hC (show decode prog_14_method_43_code 68 = .ok (.getfield 21, 3) by decide +kernel) (by decide) (r0 := ("StyleCourtModel", xF13, 85)) rfl (by decide) rfl w_1152) ?_
  refine xA (ok_sipush hC (show decode prog_14_method_43_code 71 = .ok (.sipush 20000, 3) by decide +kernel) (by decide)) ?_
  refine xA (ok_iload_n hC (show decode prog_14_method_43_code 74 = .ok (.iload_n 2, 1) by decide +kernel) rfl) ?_
  refine xA (ok_iadd hC (show decode prog_14_method_43_code 75 = .ok (.iadd, 1) by decide +kernel)) ?_
  refine xA (ok_aload_n hC (show decode prog_14_method_43_code 76 = .ok (.aload_n 0, 1) by decide +kernel) rfl) ?_
  refine xA (ok_get hC (show decode prog_14_method_43_code 77 = .ok (.getfield 97, 3) by decide +kernel) (by decide) (r0 := ("StyleCourtModel", xF13, 85)) rfl (by decide) rfl w_1186) ?_
  refine xA (ok_iload_n hC (show decode prog_14_method_43_code 80 = .ok (.iload_n 2, 1) by decide +kernel) rfl) ?_
  refine xA (ok_iald hC (show decode prog_14_method_43_code 81 = .ok (.iaload, 1) by decide +kernel) (by decide) rfl) ?_
  refine xA (ok_iast hC (show decode prog_14_method_43_code 82 = .ok (.iastore, 1) by decide +kernel) (by decide) rfl) ?_
  refine xA (ok_iinc hC (show decode prog_14_method_43_code 83 = .ok (.iinc 2 1, 3) by decide +kernel) (by decide) (by decide)) ?_
  refine xA (ok_goto hC (show decode prog_14_method_43_code 86 = .ok (.goto (-24), 3) by decide +kernel) (by decide)) ?_
  refine xA (ok_aload_n hC (show decode prog_14_method_43_code 89 = .ok (.aload_n 0, 1) by decide +kernel) rfl) ?_
  refine xA (ok_iload_n hC (show decode prog_14_method_43_code 90 = .ok (.iload_n 1, 1) by decide +kernel) rfl) ?_
  refine xA (ok_put hC (show decode prog_14_method_43_code 91 = .ok (.putfield 208, 3) by decide +kernel) (by decide) (r0 := ("StyleCourtModel", xF13, 85)) rfl (by decide) rfl (by decide +kernel) w_1154) ?_
  refine xA (ok_aload_n hC (show decode prog_14_method_43_code 94 = .ok (.aload_n 0, 1) by decide +kernel) rfl) ?_
  refine xA (ok_iconst hC (show decode prog_14_method_43_code 95 = .ok (.iconst (-1), 1) by decide +kernel) (by decide)) ?_
  refine xA (ok_put hC (show decode prog_14_method_43_code 96 = .ok (.putfield 211, 3) by decide +kernel) (by decide) (r0 := ("StyleCourtModel", xF13, 85)) rfl (by decide) rfl (by decide +kernel) w_1151) ?_
  refine xA (ok_aload_n hC (show decode prog_14_method_43_code 99 = .ok (.aload_n 0, 1) by decide +kernel) rfl) ?_
  refine xA (ok_callV hC hnh (show decode prog_14_method_43_code 100 = .ok (.invokevirtual 394, 3) by decide +kernel) (by decide) (by decide) (by decide) (r0 := ("StyleCourtModel", xF13, 85)) rfl ⟨by decide, by decide, by decide +kernel⟩ w_1523 w_83 w_1520 w_1522 w_46) ?_
  refine xA (ok_aload_n hC (show decode prog_14_method_43_code 103 = .ok (.aload_n 0, 1) by decide +kernel) rfl) ?_
  refine xA (ok_iconst hC (show decode prog_14_method_43_code 104 = .ok (.iconst 1, 1) by decide +kernel) (by decide)) ?_
  refine xA (ok_callV hC hnh (show decode prog_14_method_43_code 105 = .ok (.invokevirtual 193, 3) by decide +kernel) (by decide) (by decide) (by decide) (r0 := ("StyleCourtModel", xF13, 85)) rfl ⟨by decide, by decide, by decide +kernel⟩ w_1413 w_83 w_1410 w_1412 w_25) ?_
  refine xA (ok_iret hC hr (show decode prog_14_method_43_code 108 = .ok (.ireturn, 1) by decide +kernel)) ?_
  refine xA (ok_aload_n hC (show decode prog_14_method_43_code 109 = .ok (.aload_n 0, 1) by decide +kernel) rfl) ?_
  refine xA (ok_iconst hC (show decode prog_14_method_43_code 110 = .ok (.iconst 0, 1) by decide +kernel) (by decide)) ?_
  refine xA (ok_put hC (show decode prog_14_method_43_code 111 = .ok (.putfield 187, 3) by decide +kernel) (by decide) (r0 := ("StyleCourtModel", xF13, 85)) rfl (by decide) rfl (by decide +kernel) w_1145) ?_
  refine xA (ok_aload_n hC (show decode prog_14_method_43_code 114 = .ok (.aload_n 0, 1) by decide +kernel) rfl) ?_
  refine xA (ok_aload_n hC (show decode prog_14_method_43_code 115 = .ok (.aload_n 0, 1) by decide +kernel) rfl) ?_
  refine xA (ok_get hC (show decode prog_14_method_43_code 116 = .ok (.getfield 208, 3) by decide +kernel) (by decide) (r0 := ("StyleCourtModel", xF13, 85)) rfl (by decide) rfl w_1154) ?_
  refine xA (ok_put hC (show decode prog_14_method_43_code 119 = .ok (.putfield 391, 3) by decide +kernel) (by decide) (r0 := ("StyleCourtModel", xF13, 85)) rfl (by decide) rfl (by decide +kernel) w_1224) ?_
  refine xA (ok_aload_n hC (show decode prog_14_method_43_code 122 = .ok (.aload_n 0, 1) by decide +kernel) rfl) ?_
  refine xA (ok_get hC (show decode prog_14_method_43_code 123 = .ok (.getfield 382, 3) by decide +kernel) (by decide) (r0 := ("StyleCourtModel", xF13, 85)) rfl (by decide) rfl w_1195) ?_
  refine xA (ok_iret hC hr (show decode prog_14_method_43_code 126 = .ok (.ireturn, 1) by decide +kernel)) ?_
  exact trivial

def tb_Mo_readStyle (X : xX) : List (Nat × xOp) := [(0, o_ald 0 1),
  (1, o_ic 0 2),
  (2, o_put 13 50 (.int) 5),
  (5, o_ald 0 6),
  (6, o_ic 0 7),
  (7, o_put 13 51 (.int) 10),
  (10, o_ald 0 11),
  (11, o_ic 0 12),
  (12, o_put 13 52 (.int) 15),
  (15, o_ald 0 16),
  (16, o_ic 0 17),
  (17, o_put 13 68 (.int) 20),
  (20, o_ald 0 21),
  (21, o_ic 0 22),
  (22, o_put 13 69 (.int) 25),
  (25, o_ald 0 26),
  (26, o_ic 0 27),
  (27, o_put 13 47 (.int) 30),
  (30, o_ic 0 31),
  (31, o_ist 1 32),
  (32, o_ald 0 33),
  (33, o_callV X.l X.D X.P 13 1 1 y_Mo_next 36),
  (36, o_ald 0 37),
  (37, o_get 13 6 40),
  (40, o_ifge 152 43),
  (43, o_ald 0 44),
  (44, o_get 13 45 47),
  (47, o_ic 5 48),
  (48, o_iceq 152 51),
  (51, o_ald 0 52),
  (52, o_get 13 50 55),
  (55, o_ist 2 56),
  (56, o_ic 1 57),
  (57, o_ist 3 58),
  (58, o_ild 3 59),
  (59, o_ifeq 133 62),
  (62, o_ald 0 63),
  (63, o_get 13 6 66),
  (66, o_ifge 133 69),
  (69, o_ald 0 70),
  (70, o_get 13 50 73),
  (73, o_ic 120 75),
  (75, o_icne 87 78),
  (78, o_ald 0 79),
  (79, o_ald 0 80),
  (80, o_get 13 46 83),
  (83, o_callV X.l X.D X.P 13 0 2 y_Mo_wrong 86),
  (86, o_vret X.P),
  (87, o_ald 0 88),
  (88, o_ald 0 89),
  (89, o_get 13 50 92),
  (92, o_callV X.l X.D X.P 13 5 2 y_Mo_selector 95),
  (95, o_ald 0 96),
  (96, o_get 13 55 99),
  (99, o_ald 0 100),
  (100, o_get 13 50 103),
  (103, o_ild 1 104),
  (104, o_iast 0 105),
  (105, o_ald 0 106),
  (106, o_dup 107),
  (107, o_get 13 50 110),
  (110, o_ic 1 111),
  (111, o_iadd 112),
  (112, o_put 13 50 (.int) 115),
  (115, o_ald 0 116),
  (116, o_ic 44 118),
  (118, o_callV X.l X.D X.P 13 0 2 y_Mo_isSign 121),
  (121, o_ist 3 122),
  (122, o_ild 3 123),
  (123, o_ifeq 58 126),
  (126, o_ald 0 127),
  (127, o_callV X.l X.D X.P 13 1 1 y_Mo_next 130),
  (130, o_goto 58),
  (133, o_ild 2 134),
  (134, o_ald 0 135),
  (135, o_get 13 50 138),
  (138, o_icge 146 141),
  (141, o_ald 0 142),
  (142, o_ild 1 143),
  (143, o_callV X.l X.D X.P 13 3 2 y_Mo_body 146),
  (146, o_inc 1 1 149),
  (149, o_goto 36),
  (152, o_vret X.P)]
theorem tk_Mo_readStyle {X : xX} (hC : xCx X prog_14_method_42_code "StyleCourtModel" 4 6) (hr : X.meth.sig.returnType = none) (hnh : X.c.exceptionTable.isEmpty = true) (hin : X.meth.name = "readStyle") : xAll X (tb_Mo_readStyle X) := by
  refine xA (ok_aload_n hC (show decode prog_14_method_42_code 0 = .ok (.aload_n 0, 1) by decide +kernel) rfl) ?_
  refine xA (ok_iconst hC (show decode prog_14_method_42_code 1 = .ok (.iconst 0, 1) by decide +kernel) (by decide)) ?_
  refine xA (ok_put hC (show decode prog_14_method_42_code 2 = .ok (.putfield 382, 3) by decide +kernel) (by decide) (r0 := ("StyleCourtModel", xF13, 85)) rfl (by decide) rfl (by decide +kernel) w_1195) ?_
  refine xA (ok_aload_n hC (show decode prog_14_method_42_code 5 = .ok (.aload_n 0, 1) by decide +kernel) rfl) ?_
  refine xA (ok_iconst hC (show decode prog_14_method_42_code 6 = .ok (.iconst 0, 1) by decide +kernel) (by decide)) ?_
  refine xA (ok_put hC (show decode prog_14_method_42_code 7 = .ok (.putfield 357, 3) by decide +kernel) (by decide) (r0 := ("StyleCourtModel", xF13, 85)) rfl (by decide) rfl (by decide +kernel) w_1196) ?_
  refine xA (ok_aload_n hC (show decode prog_14_method_42_code 10 = .ok (.aload_n 0, 1) by decide +kernel) rfl) ?_
  refine xA (ok_iconst hC (show decode prog_14_method_42_code 11 = .ok (.iconst 0, 1) by decide +kernel) (by decide)) ?_
  refine xA (ok_put hC (show decode prog_14_method_42_code 12 = .ok (.putfield 341, 3) by decide +kernel) (by decide) (r0 := ("StyleCourtModel", xF13, 85)) rfl (by decide) rfl (by decide +kernel) w_1197) ?_
  refine xA (ok_aload_n hC (show decode prog_14_method_42_code 15 = .ok (.aload_n 0, 1) by decide +kernel) rfl) ?_
  refine xA (ok_iconst hC (show decode prog_14_method_42_code 16 = .ok (.iconst 0, 1) by decide +kernel) (by decide)) ?_
  refine xA (ok_put hC (show decode prog_14_method_42_code 17 = .ok (.putfield 373, 3) by decide +kernel) (by decide) (r0 := ("StyleCourtModel", xF13, 85)) rfl (by decide) rfl (by decide +kernel) w_1213) ?_
  refine xA (ok_aload_n hC (show decode prog_14_method_42_code 20 = .ok (.aload_n 0, 1) by decide +kernel) rfl) ?_
  refine xA (ok_iconst hC (show decode prog_14_method_42_code 21 = .ok (.iconst 0, 1) by decide +kernel) (by decide)) ?_
  refine xA (ok_put hC (show decode prog_14_method_42_code 22 = .ok (.putfield 370, 3) by decide +kernel) (by decide) (r0 := ("StyleCourtModel", xF13, 85)) rfl (by decide) rfl (by decide +kernel) w_1214) ?_
  refine xA (ok_aload_n hC (show decode prog_14_method_42_code 25 = .ok (.aload_n 0, 1) by decide +kernel) rfl) ?_
  refine xA (ok_iconst hC (show decode prog_14_method_42_code 26 = .ok (.iconst 0, 1) by decide +kernel) (by decide)) ?_
  refine xA (ok_put hC (show decode prog_14_method_42_code 27 = .ok (.putfield 317, 3) by decide +kernel) (by decide) (r0 := ("StyleCourtModel", xF13, 85)) rfl (by decide) rfl (by decide +kernel) w_1192) ?_
  refine xA (ok_iconst hC (show decode prog_14_method_42_code 30 = .ok (.iconst 0, 1) by decide +kernel) (by decide)) ?_
  refine xA (ok_istore_n hC (show decode prog_14_method_42_code 31 = .ok (.istore_n 1, 1) by decide +kernel) rfl (by decide)) ?_
  refine xA (ok_aload_n hC (show decode prog_14_method_42_code 32 = .ok (.aload_n 0, 1) by decide +kernel) rfl) ?_
  refine xA (ok_callV hC hnh (show decode prog_14_method_42_code 33 = .ok (.invokevirtual 335, 3) by decide +kernel) (by decide) (by decide) (by decide) (r0 := ("StyleCourtModel", xF13, 85)) rfl ⟨by decide, by decide, by decide +kernel⟩ w_1527 w_83 w_1524 w_1526 w_47) ?_
  refine xA (ok_aload_n hC (show decode prog_14_method_42_code 36 = .ok (.aload_n 0, 1) by decide +kernel) rfl) ?_
  refine xA (ok_get hC (show decode prog_14_method_42_code 37 = .ok (.getfield 211, 3) by decide +kernel) (by decide) (r0 := ("StyleCourtModel", xF13, 85)) rfl (by decide) rfl w_1151) ?_
  refine xA (ok_ifge hC (show decode prog_14_method_42_code 40 = .ok (.ifCond .ge 112, 3) by decide +kernel) (by decide)) ?_
  refine xA (ok_aload_n hC (show decode prog_14_method_42_code 43 = .ok (.aload_n 0, 1) by decide +kernel) rfl) ?_
  refine xA (ok_get hC (show decode prog_14_method_42_code 44 = .ok (.getfield 326, 3) by decide +kernel) (by decide) (r0 := ("StyleCourtModel", xF13, 85)) rfl (by decide) rfl w_1190) ?_
  refine xA (ok_iconst hC (show decode prog_14_method_42_code 47 = .ok (.iconst 5, 1) by decide +kernel) (by decide)) ?_
  refine xA (ok_iceq hC (show decode prog_14_method_42_code 48 = .ok (.if_icmp .eq 104, 3) by decide +kernel) (by decide)) ?_
  refine xA (ok_aload_n hC (show decode prog_14_method_42_code 51 = .ok (.aload_n 0, 1) by decide +kernel) rfl) ?_
  refine xA (ok_get hC (show decode prog_14_method_42_code 52 = .ok (.getfield 382, 3) by decide +kernel) (by decide) (r0 := ("StyleCourtModel", xF13, 85)) rfl (by decide) rfl w_1195) ?_
  refine xA (ok_istore_n hC (show decode prog_14_method_42_code 55 = .ok (.istore_n 2, 1) by decide +kernel) rfl (by decide)) ?_
  refine xA (ok_iconst hC (show decode prog_14_method_42_code 56 = .ok (.iconst 1, 1) by decide +kernel) (by decide)) ?_
  refine xA (ok_istore_n hC (show decode prog_14_method_42_code 57 = .ok (.istore_n 3, 1) by decide +kernel) rfl (by decide)) ?_
  refine xA (ok_iload_n hC (show decode prog_14_method_42_code 58 = .ok (.iload_n 3, 1) by decide +kernel) rfl) ?_
  refine xA (ok_ifeq hC (show decode prog_14_method_42_code 59 = .ok (.ifCond .eq 74, 3) by decide +kernel) (by decide)) ?_
  refine xA (ok_aload_n hC (show decode prog_14_method_42_code 62 = .ok (.aload_n 0, 1) by decide +kernel) rfl) ?_
  refine xA (ok_get hC (show decode prog_14_method_42_code 63 = .ok (.getfield 211, 3) by decide +kernel) (by decide) (r0 := ("StyleCourtModel", xF13, 85)) rfl (by decide) rfl w_1151) ?_
  refine xA (ok_ifge hC (show decode prog_14_method_42_code 66 = .ok (.ifCond .ge 67, 3) by decide +kernel) (by decide)) ?_
  refine xA (ok_aload_n hC (show decode prog_14_method_42_code 69 = .ok (.aload_n 0, 1) by decide +kernel) rfl) ?_
  refine xA (ok_get hC (show decode prog_14_method_42_code 70 = .ok (.getfield 382, 3) by decide +kernel) (by decide) (r0 := ("StyleCourtModel", xF13, 85)) rfl (by decide) rfl w_1195) ?_
  refine xA (ok_bipush hC (show decode prog_14_method_42_code 73 = .ok (.bipush 120, 2) by decide +kernel) (by decide)) ?_
  refine xA (ok_icne hC (show decode prog_14_method_42_code 75 = .ok (.if_icmp .ne 12, 3) by decide +kernel) (by decide)) ?_
  refine xA (ok_aload_n hC (show decode prog_14_method_42_code 78 = .ok (.aload_n 0, 1) by decide +kernel) rfl) ?_
  refine xA (ok_aload_n hC (show decode prog_14_method_42_code 79 = .ok (.aload_n 0, 1) by decide +kernel) rfl) ?_
  refine xA (ok_get hC (show decode prog_14_method_42_code 80 = .ok (.getfield 320, 3) by decide +kernel) (by decide) (r0 := ("StyleCourtModel", xF13, 85)) rfl (by decide) rfl w_1191) ?_
  refine xA (ok_callV hC hnh (show decode prog_14_method_42_code 83 = .ok (.invokevirtual 221, 3) by decide +kernel) (by decide) (by decide) (by decide) (r0 := ("StyleCourtModel", xF13, 85)) rfl ⟨by decide, by decide, by decide +kernel⟩ w_1448 w_83 w_1445 w_1447 w_31) ?_
  refine xA (ok_vret hC hr (show decode prog_14_method_42_code 86 = .ok (.return_, 1) by decide +kernel)) ?_
  refine xA (ok_aload_n hC (show decode prog_14_method_42_code 87 = .ok (.aload_n 0, 1) by decide +kernel) rfl) ?_
  refine xA (ok_aload_n hC (show decode prog_14_method_42_code 88 = .ok (.aload_n 0, 1) by decide +kernel) rfl) ?_
  refine xA (ok_get hC (show decode prog_14_method_42_code 89 = .ok (.getfield 382, 3) by decide +kernel) (by decide) (r0 := ("StyleCourtModel", xF13, 85)) rfl (by decide) rfl w_1195) ?_
  refine xA (ok_callV hC hnh (show decode prog_14_method_42_code 92 = .ok (.invokevirtual 385, 3) by decide +kernel) (by decide) (by decide) (by decide) (r0 := ("StyleCourtModel", xF13, 85)) rfl ⟨by decide, by decide, by decide +kernel⟩ w_1531 w_83 w_1528 w_1530 w_48) ?_
  refine xA (ok_aload_n hC (show decode prog_14_method_42_code 95 = .ok (.aload_n 0, 1) by decide +kernel) rfl) ?_
  refine xA (ok_get hC (show decode prog_14_method_42_code 96 = .ok (.getfield 109, 3) by decide +kernel) (by decide) (r0 := ("StyleCourtModel", xF13, 85)) rfl (by decide) rfl w_1200) ?_
  refine xA (ok_aload_n hC (show decode prog_14_method_42_code 99 = .ok (.aload_n 0, 1) by decide +kernel) rfl) ?_
  refine xA (ok_get hC (show decode prog_14_method_42_code 100 = .ok (.getfield 382, 3) by decide +kernel) (by decide) (r0 := ("StyleCourtModel", xF13, 85)) rfl (by decide) rfl w_1195) ?_
  refine xA (ok_iload_n hC (show decode prog_14_method_42_code 103 = .ok (.iload_n 1, 1) by decide +kernel) rfl) ?_
  refine xA (ok_iast hC (show decode prog_14_method_42_code 104 = .ok (.iastore, 1) by decide +kernel) (by decide) rfl) ?_
  refine xA (ok_aload_n hC (show decode prog_14_method_42_code 105 = .ok (.aload_n 0, 1) by decide +kernel) rfl) ?_
  refine xA (ok_dup hC (show decode prog_14_method_42_code 106 = .ok (.dup, 1) by decide +kernel)) ?_
  refine xA (ok_get hC (show decode prog_14_method_42_code 107 = .ok (.getfield 382, 3) by decide +kernel) (by decide) (r0 := ("StyleCourtModel", xF13, 85)) rfl (by decide) rfl w_1195) ?_
  refine xA (ok_iconst hC (show decode prog_14_method_42_code 110 = .ok (.iconst 1, 1) by decide +kernel) (by decide)) ?_
  refine xA (ok_iadd hC (show decode prog_14_method_42_code 111 = .ok (.iadd, 1) by decide +kernel)) ?_
  refine xA (ok_put hC (show decode prog_14_method_42_code 112 = .ok (.putfield 382, 3) by decide +kernel) (by decide) (r0 := ("StyleCourtModel", xF13, 85)) rfl (by decide) rfl (by decide +kernel) w_1195) ?_
  refine xA (ok_aload_n hC (show decode prog_14_method_42_code 115 = .ok (.aload_n 0, 1) by decide +kernel) rfl) ?_
  refine xA (ok_bipush hC (show decode prog_14_method_42_code 116 = .ok (.bipush 44, 2) by decide +kernel) (by decide)) ?_
  refine xA (ok_callV hC hnh (show decode prog_14_method_42_code 118 = .ok (.invokevirtual 332, 3) by decide +kernel) (by decide) (by decide) (by decide) (r0 := ("StyleCourtModel", xF13, 85)) rfl ⟨by decide, by decide, by decide +kernel⟩ w_1539 w_83 w_1536 w_1538 w_50) ?_
  refine xA (ok_istore_n hC (show decode prog_14_method_42_code 121 = .ok (.istore_n 3, 1) by decide +kernel) rfl (by decide)) ?_
  refine xA (ok_iload_n hC (show decode prog_14_method_42_code 122 = .ok (.iload_n 3, 1) by decide +kernel) rfl) ?_
  refine xA (ok_ifeq hC (show decode prog_14_method_42_code 123 = .ok (.ifCond .eq (-65), 3) by decide +kernel) (by decide)) ?_
  refine xA (ok_aload_n hC (show decode prog_14_method_42_code 126 = .ok (.aload_n 0, 1) by decide +kernel) rfl) ?_
  refine xA (ok_callV hC hnh (show decode prog_14_method_42_code 127 = .ok (.invokevirtual 335, 3) by decide +kernel) (by decide) (by decide) (by decide) (r0 := ("StyleCourtModel", xF13, 85)) rfl ⟨by decide, by decide, by decide +kernel⟩ w_1527 w_83 w_1524 w_1526 w_47) ?_
  refine xA (ok_goto hC (show decode prog_14_method_42_code 130 = .ok (.goto (-72), 3) by decide +kernel) (by decide)) ?_
  refine xA (ok_iload_n hC (show decode prog_14_method_42_code 133 = .ok (.iload_n 2, 1) by decide +kernel) rfl) ?_
  refine xA (ok_aload_n hC (show decode prog_14_method_42_code 134 = .ok (.aload_n 0, 1) by decide +kernel) rfl) ?_
  refine xA (ok_get hC (show decode prog_14_method_42_code 135 = .ok (.getfield 382, 3) by decide +kernel) (by decide) (r0 := ("StyleCourtModel", xF13, 85)) rfl (by decide) rfl w_1195) ?_
  refine xA (ok_icge hC (show decode prog_14_method_42_code 138 = .ok (.if_icmp .ge 8, 3) by decide +kernel) (by decide)) ?_
  refine xA (ok_aload_n hC (show decode prog_14_method_42_code 141 = .ok (.aload_n 0, 1) by decide +kernel) rfl) ?_
  refine xA (ok_iload_n hC (show decode prog_14_method_42_code 142 = .ok (.iload_n 1, 1) by decide +kernel) rfl) ?_
  refine xA (ok_callV hC hnh (show decode prog_14_method_42_code 143 = .ok (.invokevirtual 388, 3) by decide +kernel) (by decide) (by decide) (by decide) (r0 := ("StyleCourtModel", xF13, 85)) rfl ⟨by decide, by decide, by decide +kernel⟩ w_1564 w_83 w_1561 w_1563 w_55) ?_
  refine xA (ok_iinc hC (show decode prog_14_method_42_code 146 = .ok (.iinc 1 1, 3) by decide +kernel) (by decide) (by decide)) ?_
  refine xA (ok_goto hC (show decode prog_14_method_42_code 149 = .ok (.goto (-113), 3) by decide +kernel) (by decide)) ?_
  refine xA (ok_vret hC hr (show decode prog_14_method_42_code 152 = .ok (.return_, 1) by decide +kernel)) ?_
  exact trivial

def tb_Mo_next (X : xX) : List (Nat × xOp) := [(0, o_ald 0 1),
  (1, o_ald 0 2),
  (2, o_get 13 47 5),
  (5, o_put 13 46 (.int) 8),
  (8, o_ald 0 9),
  (9, o_ald 0 10),
  (10, o_get 13 46 13),
  (13, o_callV X.l X.D X.P 13 0 2 y_Mo_byteAt 16),
  (16, o_callS X.l X.D X.P 0 1 y_Mo_isBlank 19),
  (19, o_ifeq 35 22),
  (22, o_ald 0 23),
  (23, o_dup 24),
  (24, o_get 13 46 27),
  (27, o_ic 1 28),
  (28, o_iadd 29),
  (29, o_put 13 46 (.int) 32),
  (32, o_goto 8),
  (35, o_ald 0 36),
  (36, o_ald 0 37),
  (37, o_get 13 46 40),
  (40, o_put 13 47 (.int) 43),
  (43, o_ald 0 44),
  (44, o_ic (-1) 45),
  (45, o_put 13 49 (.int) 48),
  (48, o_ald 0 49),
  (49, o_ald 0 50),
  (50, o_get 13 46 53),
  (53, o_callV X.l X.D X.P 13 0 2 y_Mo_byteAt 56),
  (56, o_ist 1 57),
  (57, o_ild 1 58),
  (58, o_ifge 69 61),
  (61, o_ald 0 62),
  (62, o_ic 5 63),
  (63, o_put 13 45 (.int) 66),
  (66, o_goto 368),
  (69, o_ild 1 70),
  (70, o_callS X.l X.D X.P 0 1 y_Mo_isSmall 73),
  (73, o_ifeq 143 76),
  (76, o_ald 0 77),
  (77, o_ald 0 78),
  (78, o_get 13 47 81),
  (81, o_callV X.l X.D X.P 13 0 2 y_Mo_byteAt 84),
  (84, o_callS X.l X.D X.P 0 1 y_Mo_isSmall 87),
  (87, o_ifne 104 90),
  (90, o_ald 0 91),
  (91, o_ald 0 92),
  (92, o_get 13 47 95),
  (95, o_callV X.l X.D X.P 13 0 2 y_Mo_byteAt 98),
  (98, o_callS X.l X.D X.P 0 1 y_Mo_isDigit 101),
  (101, o_ifeq 117 104),
  (104, o_ald 0 105),
  (105, o_dup 106),
  (106, o_get 13 47 109),
  (109, o_ic 1 110),
  (110, o_iadd 111),
  (111, o_put 13 47 (.int) 114),
  (114, o_goto 76),
  (117, o_ald 0 118),
  (118, o_ald 0 119),
  (119, o_get 13 47 122),
  (122, o_ald 0 123),
  (123, o_get 13 46 126),
  (126, o_isub 127),
  (127, o_ic 12 129),
  (129, o_icle 136 132),
  (132, o_ic 4 133),
  (133, o_goto 137),
  (136, o_ic 1 137),
  (137, o_put 13 45 (.int) 140),
  (140, o_goto 368),
  (143, o_ild 1 144),
  (144, o_callS X.l X.D X.P 0 1 y_Mo_isDigit 147),
  (147, o_ifeq 245 150),
  (150, o_ald 0 151),
  (151, o_ic 0 152),
  (152, o_put 13 48 (.int) 155),
  (155, o_ald 0 156),
  (156, o_ald 0 157),
  (157, o_get 13 47 160),
  (160, o_callV X.l X.D X.P 13 0 2 y_Mo_byteAt 163),
  (163, o_callS X.l X.D X.P 0 1 y_Mo_isDigit 166),
  (166, o_ifeq 219 169),
  (169, o_ald 0 170),
  (170, o_get 13 47 173),
  (173, o_ald 0 174),
  (174, o_get 13 46 177),
  (177, o_isub 178),
  (178, o_ic 7 180),
  (180, o_icge 206 183),
  (183, o_ald 0 184),
  (184, o_ic 10 186),
  (186, o_ald 0 187),
  (187, o_get 13 48 190),
  (190, o_imul 191),
  (191, o_ald 0 192),
  (192, o_ald 0 193),
  (193, o_get 13 47 196),
  (196, o_callV X.l X.D X.P 13 0 2 y_Mo_byteAt 199),
  (199, o_iadd 200),
  (200, o_ic 48 202),
  (202, o_isub 203),
  (203, o_put 13 48 (.int) 206),
  (206, o_ald 0 207),
  (207, o_dup 208),
  (208, o_get 13 47 211),
  (211, o_ic 1 212),
  (212, o_iadd 213),
  (213, o_put 13 47 (.int) 216),
  (216, o_goto 155),
  (219, o_ald 0 220),
  (220, o_ald 0 221),
  (221, o_get 13 47 224),
  (224, o_ald 0 225),
  (225, o_get 13 46 228),
  (228, o_isub 229),
  (229, o_ic 7 231),
  (231, o_icle 238 234),
  (234, o_ic 4 235),
  (235, o_goto 239),
  (238, o_ic 2 239),
  (239, o_put 13 45 (.int) 242),
  (242, o_goto 368),
  (245, o_ild 1 246),
  (246, o_ic 34 248),
  (248, o_icne 348 251),
  (251, o_ald 0 252),
  (252, o_dup 253),
  (253, o_get 13 47 256),
  (256, o_ic 1 257),
  (257, o_iadd 258),
  (258, o_put 13 47 (.int) 261),
  (261, o_ald 0 262),
  (262, o_ald 0 263),
  (263, o_get 13 47 266),
  (266, o_callV X.l X.D X.P 13 0 2 y_Mo_byteAt 269),
  (269, o_ic 32 271),
  (271, o_iclt 313 274),
  (274, o_ald 0 275),
  (275, o_ald 0 276),
  (276, o_get 13 47 279),
  (279, o_callV X.l X.D X.P 13 0 2 y_Mo_byteAt 282),
  (282, o_ic 126 284),
  (284, o_icgt 313 287),
  (287, o_ald 0 288),
  (288, o_ald 0 289),
  (289, o_get 13 47 292),
  (292, o_callV X.l X.D X.P 13 0 2 y_Mo_byteAt 295),
  (295, o_ic 34 297),
  (297, o_iceq 313 300),
  (300, o_ald 0 301),
  (301, o_dup 302),
  (302, o_get 13 47 305),
  (305, o_ic 1 306),
  (306, o_iadd 307),
  (307, o_put 13 47 (.int) 310),
  (310, o_goto 261),
  (313, o_ald 0 314),
  (314, o_ald 0 315),
  (315, o_ald 0 316),
  (316, o_get 13 47 319),
  (319, o_callV X.l X.D X.P 13 0 2 y_Mo_byteAt 322),
  (322, o_ic 34 324),
  (324, o_icne 331 327),
  (327, o_ic 3 328),
  (328, o_goto 332),
  (331, o_ic 4 332),
  (332, o_put 13 45 (.int) 335),
  (335, o_ald 0 336),
  (336, o_dup 337),
  (337, o_get 13 47 340),
  (340, o_ic 1 341),
  (341, o_iadd 342),
  (342, o_put 13 47 (.int) 345),
  (345, o_goto 368),
  (348, o_ald 0 349),
  (349, o_ic 4 350),
  (350, o_put 13 45 (.int) 353),
  (353, o_ald 0 354),
  (354, o_ild 1 355),
  (355, o_put 13 49 (.int) 358),
  (358, o_ald 0 359),
  (359, o_dup 360),
  (360, o_get 13 47 363),
  (363, o_ic 1 364),
  (364, o_iadd 365),
  (365, o_put 13 47 (.int) 368),
  (368, o_vret X.P)]
theorem tk_Mo_next {X : xX} (hC : xCx X prog_14_method_31_code "StyleCourtModel" 2 1) (hr : X.meth.sig.returnType = none) (hnh : X.c.exceptionTable.isEmpty = true) (hin : X.meth.name = "next") : xAll X (tb_Mo_next X) := by
  refine xA (ok_aload_n hC (show decode prog_14_method_31_code 0 = .ok (.aload_n 0, 1) by decide +kernel) rfl) ?_
  refine xA (ok_aload_n hC (show decode prog_14_method_31_code 1 = .ok (.aload_n 0, 1) by decide +kernel) rfl) ?_
  refine xA (ok_get hC (show decode prog_14_method_31_code 2 = .ok (.getfield 317, 3) by decide +kernel) (by decide) (r0 := ("StyleCourtModel", xF13, 85)) rfl (by decide) rfl w_1192) ?_
  refine xA (ok_put hC (show decode prog_14_method_31_code 5 = .ok (.putfield 320, 3) by decide +kernel) (by decide) (r0 := ("StyleCourtModel", xF13, 85)) rfl (by decide) rfl (by decide +kernel) w_1191) ?_
  refine xA (ok_aload_n hC (show decode prog_14_method_31_code 8 = .ok (.aload_n 0, 1) by decide +kernel) rfl) ?_
  refine xA (ok_aload_n hC (show decode prog_14_method_31_code 9 = .ok (.aload_n 0, 1) by decide +kernel) rfl) ?_
  refine xA (ok_get hC (show decode prog_14_method_31_code 10 = .ok (.getfield 320, 3) by decide +kernel) (by decide) (r0 := ("StyleCourtModel", xF13, 85)) rfl (by decide) rfl w_1191) ?_
  refine xA (ok_callV hC hnh (show decode prog_14_method_31_code 13 = .ok (.invokevirtual 214, 3) by decide +kernel) (by decide) (by decide) (by decide) (r0 := ("StyleCourtModel", xF13, 85)) rfl ⟨by decide, by decide, by decide +kernel⟩ w_1440 w_83 w_1437 w_1439 w_29) ?_
  refine xA (ok_callS (hh := []) hC hnh (show decode prog_14_method_31_code 16 = .ok (.invokestatic 230, 3) by decide +kernel) (by decide) (by decide) ⟨by decide, by decide, by decide +kernel⟩ (Or.inl w_1469) w_83 w_1467 w_1468) ?_
  refine xA (ok_ifeq hC (show decode prog_14_method_31_code 19 = .ok (.ifCond .eq 16, 3) by decide +kernel) (by decide)) ?_
  refine xA (ok_aload_n hC (show decode prog_14_method_31_code 22 = .ok (.aload_n 0, 1) by decide +kernel) rfl) ?_
  refine xA (ok_dup hC (show decode prog_14_method_31_code 23 = .ok (.dup, 1) by decide +kernel)) ?_
  refine xA (ok_get hC (show decode prog_14_method_31_code 24 = .ok (.getfield 320, 3) by decide +kernel) (by decide) (r0 := ("StyleCourtModel", xF13, 85)) rfl (by decide) rfl w_1191) ?_
  refine xA (ok_iconst hC (show decode prog_14_method_31_code 27 = .ok (.iconst 1, 1) by decide +kernel) (by decide)) ?_
  refine xA (ok_iadd hC (show decode prog_14_method_31_code 28 = .ok (.iadd, 1) by decide +kernel)) ?_
  refine xA (ok_put hC (show decode prog_14_method_31_code 29 = .ok (.putfield 320, 3) by decide +kernel) (by decide) (r0 := ("StyleCourtModel", xF13, 85)) rfl (by decide) rfl (by decide +kernel) w_1191) ?_
  refine xA (ok_goto hC (show decode prog_14_method_31_code 32 = .ok (.goto (-24), 3) by decide +kernel) (by decide)) ?_
  refine xA (ok_aload_n hC (show decode prog_14_method_31_code 35 = .ok (.aload_n 0, 1) by decide +kernel) rfl) ?_
  refine xA (ok_aload_n hC (show decode prog_14_method_31_code 36 = .ok (.aload_n 0, 1) by decide +kernel) rfl) ?_
  refine xA (ok_get hC (show decode prog_14_method_31_code 37 = .ok (.getfield 320, 3) by decide +kernel) (by decide) (r0 := ("StyleCourtModel", xF13, 85)) rfl (by decide) rfl w_1191) ?_
  refine xA (ok_put hC (show decode prog_14_method_31_code 40 = .ok (.putfield 317, 3) by decide +kernel) (by decide) (r0 := ("StyleCourtModel", xF13, 85)) rfl (by decide) rfl (by decide +kernel) w_1192) ?_
  refine xA (ok_aload_n hC (show decode prog_14_method_31_code 43 = .ok (.aload_n 0, 1) by decide +kernel) rfl) ?_
  refine xA (ok_iconst hC (show decode prog_14_method_31_code 44 = .ok (.iconst (-1), 1) by decide +kernel) (by decide)) ?_
  refine xA (ok_put hC (show decode prog_14_method_31_code 45 = .ok (.putfield 323, 3) by decide +kernel) (by decide) (r0 := ("StyleCourtModel", xF13, 85)) rfl (by decide) rfl (by decide +kernel) w_1194) ?_
  refine xA (ok_aload_n hC (show decode prog_14_method_31_code 48 = .ok (.aload_n 0, 1) by decide +kernel) rfl) ?_
  refine xA (ok_aload_n hC (show decode prog_14_method_31_code 49 = .ok (.aload_n 0, 1) by decide +kernel) rfl) ?_
  refine xA (ok_get hC (show decode prog_14_method_31_code 50 = .ok (.getfield 320, 3) by decide +kernel) (by decide) (r0 := ("StyleCourtModel", xF13, 85)) rfl (by decide) rfl w_1191) ?_
  refine xA (ok_callV hC hnh (show decode prog_14_method_31_code 53 = .ok (.invokevirtual 214, 3) by decide +kernel) (by decide) (by decide) (by decide) (r0 := ("StyleCourtModel", xF13, 85)) rfl ⟨by decide, by decide, by decide +kernel⟩ w_1440 w_83 w_1437 w_1439 w_29) ?_
  refine xA (ok_istore_n hC (show decode prog_14_method_31_code 56 = .ok (.istore_n 1, 1) by decide +kernel) rfl (by decide)) ?_
  refine xA (ok_iload_n hC (show decode prog_14_method_31_code 57 = .ok (.iload_n 1, 1) by decide +kernel) rfl) ?_
  refine xA (ok_ifge hC (show decode prog_14_method_31_code 58 = .ok (.ifCond .ge 11, 3) by decide +kernel) (by decide)) ?_
  refine xA (ok_aload_n hC (show decode prog_14_method_31_code 61 = .ok (.aload_n 0, 1) by decide +kernel) rfl) ?_
  refine xA (ok_iconst hC (show decode prog_14_method_31_code 62 = .ok (.iconst 5, 1) by decide +kernel) (by decide)) ?_
  refine xA (ok_put hC (show decode prog_14_method_31_code 63 = .ok (.putfield 326, 3) by decide +kernel) (by decide) (r0 := ("StyleCourtModel", xF13, 85)) rfl (by decide) rfl (by decide +kernel) w_1190) ?_
  refine xA (ok_goto hC (show decode prog_14_method_31_code 66 = .ok (.goto 302, 3) by decide +kernel) (by decide)) ?_
  refine xA (ok_iload_n hC (show decode prog_14_method_31_code 69 = .ok (.iload_n 1, 1) by decide +kernel) rfl) ?_
  refine xA (ok_callS (hh := []) hC hnh (show decode prog_14_method_31_code 70 = .ok (.invokestatic 217, 3) by decide +kernel) (by decide) (by decide) ⟨by decide, by decide, by decide +kernel⟩ (Or.inl w_1455) w_83 w_1453 w_1454) ?_
  refine xA (ok_ifeq hC (show decode prog_14_method_31_code 73 = .ok (.ifCond .eq 70, 3) by decide +kernel) (by decide)) ?_
  refine xA (ok_aload_n hC (show decode prog_14_method_31_code 76 = .ok (.aload_n 0, 1) by decide +kernel) rfl) ?_
  refine xA (ok_aload_n hC (show decode prog_14_method_31_code 77 = .ok (.aload_n 0, 1) by decide +kernel) rfl) ?_
  refine xA (ok_get hC (show decode prog_14_method_31_code 78 = .ok (.getfield 317, 3) by decide +kernel) (by decide) (r0 := ("StyleCourtModel", xF13, 85)) rfl (by decide) rfl w_1192) ?_
  refine xA (ok_callV hC hnh (show decode prog_14_method_31_code 81 = .ok (.invokevirtual 214, 3) by decide +kernel) (by decide) (by decide) (by decide) (r0 := ("StyleCourtModel", xF13, 85)) rfl ⟨by decide, by decide, by decide +kernel⟩ w_1440 w_83 w_1437 w_1439 w_29) ?_
  refine xA (ok_callS (hh := []) hC hnh (show decode prog_14_method_31_code 84 = .ok (.invokestatic 217, 3) by decide +kernel) (by decide) (by decide) ⟨by decide, by decide, by decide +kernel⟩ (Or.inl w_1455) w_83 w_1453 w_1454) ?_
  refine xA (ok_ifne hC (show decode prog_14_method_31_code 87 = .ok (.ifCond .ne 17, 3) by decide +kernel) (by decide)) ?_
  refine xA (ok_aload_n hC (show decode prog_14_method_31_code 90 = .ok (.aload_n 0, 1) by decide +kernel) rfl) ?_
  refine xA (ok_aload_n hC (show decode prog_14_method_31_code 91 = .ok (.aload_n 0, 1) by decide +kernel) rfl) ?_
  refine xA (ok_get hC (show decode prog_14_method_31_code 92 = .ok (.getfield 317, 3) by decide +kernel) (by decide) (r0 := ("StyleCourtModel", xF13, 85)) rfl (by decide) rfl w_1192) ?_
  refine xA (ok_callV hC hnh (show decode prog_14_method_31_code 95 = .ok (.invokevirtual 214, 3) by decide +kernel) (by decide) (by decide) (by decide) (r0 := ("StyleCourtModel", xF13, 85)) rfl ⟨by decide, by decide, by decide +kernel⟩ w_1440 w_83 w_1437 w_1439 w_29) ?_
  refine xA (ok_callS (hh := []) hC hnh (show decode prog_14_method_31_code 98 = .ok (.invokestatic 224, 3) by decide +kernel) (by decide) (by decide) ⟨by decide, by decide, by decide +kernel⟩ (Or.inl w_1458) w_83 w_1456 w_1457) ?_
  refine xA (ok_ifeq hC (show decode prog_14_method_31_code 101 = .ok (.ifCond .eq 16, 3) by decide +kernel) (by decide)) ?_
  refine xA (ok_aload_n hC (show decode prog_14_method_31_code 104 = .ok (.aload_n 0, 1) by decide +kernel) rfl) ?_
  refine xA (ok_dup hC (show decode prog_14_method_31_code 105 = .ok (.dup, 1) by decide +kernel)) ?_
  refine xA (ok_get hC (show decode prog_14_method_31_code 106 = .ok (.getfield 317, 3) by decide +kernel) (by decide) (r0 := ("StyleCourtModel", xF13, 85)) rfl (by decide) rfl w_1192) ?_
  refine xA (ok_iconst hC (show decode prog_14_method_31_code 109 = .ok (.iconst 1, 1) by decide +kernel) (by decide)) ?_
  refine xA (ok_iadd hC (show decode prog_14_method_31_code 110 = .ok (.iadd, 1) by decide +kernel)) ?_
  refine xA (ok_put hC (show decode prog_14_method_31_code 111 = .ok (.putfield 317, 3) by decide +kernel) (by decide) (r0 := ("StyleCourtModel", xF13, 85)) rfl (by decide) rfl (by decide +kernel) w_1192) ?_
  refine xA (ok_goto hC (show decode prog_14_method_31_code 114 = .ok (.goto (-38), 3) by decide +kernel) (by decide)) ?_
  refine xA (ok_aload_n hC (show decode prog_14_method_31_code 117 = .ok (.aload_n 0, 1) by decide +kernel) rfl) ?_
  refine xA (ok_aload_n hC (show decode prog_14_method_31_code 118 = .ok (.aload_n 0, 1) by decide +kernel) rfl) ?_
  refine xA (ok_get hC (show decode prog_14_method_31_code 119 = .ok (.getfield 317, 3) by decide +kernel) (by decide) (r0 := ("StyleCourtModel", xF13, 85)) rfl (by decide) rfl w_1192) ?_
  refine xA (ok_aload_n hC (show decode prog_14_method_31_code 122 = .ok (.aload_n 0, 1) by decide +kernel) rfl) ?_
  refine xA (ok_get hC (show decode prog_14_method_31_code 123 = .ok (.getfield 320, 3) by decide +kernel) (by decide) (r0 := ("StyleCourtModel", xF13, 85)) rfl (by decide) rfl w_1191) ?_
  refine xA (ok_isub hC (show decode prog_14_method_31_code 126 = .ok (.isub, 1) by decide +kernel)) ?_
  refine xA (ok_bipush hC (show decode prog_14_method_31_code 127 = .ok (.bipush 12, 2) by decide +kernel) (by decide)) ?_
  refine xA (ok_icle hC (show decode prog_14_method_31_code 129 = .ok (.if_icmp .le 7, 3) by decide +kernel) (by decide)) ?_
  refine xA (ok_iconst hC (show decode prog_14_method_31_code 132 = .ok (.iconst 4, 1) by decide +kernel) (by decide)) ?_
  refine xA (ok_goto hC (show decode prog_14_method_31_code 133 = .ok (.goto 4, 3) by decide +kernel) (by decide)) ?_
  refine xA (ok_iconst hC (show decode prog_14_method_31_code 136 = .ok (.iconst 1, 1) by decide +kernel) (by decide)) ?_
  refine xA (ok_put hC (show decode prog_14_method_31_code 137 = .ok (.putfield 326, 3) by decide +kernel) (by decide) (r0 := ("StyleCourtModel", xF13, 85)) rfl (by decide) rfl (by decide +kernel) w_1190) ?_
  refine xA (ok_goto hC (show decode prog_14_method_31_code 140 = .ok (.goto 228, 3) by decide +kernel) (by decide)) ?_
  refine xA (ok_iload_n hC (show decode prog_14_method_31_code 143 = .ok (.iload_n 1, 1) by decide +kernel) rfl) ?_
  refine xA (ok_callS (hh := []) hC hnh (show decode prog_14_method_31_code 144 = .ok (.invokestatic 224, 3) by decide +kernel) (by decide) (by decide) ⟨by decide, by decide, by decide +kernel⟩ (Or.inl w_1458) w_83 w_1456 w_1457) ?_
  refine xA (ok_ifeq hC (show decode prog_14_method_31_code 147 = .ok (.ifCond .eq 98, 3) by decide +kernel) (by decide)) ?_
  refine xA (ok_aload_n hC (show decode prog_14_method_31_code 150 = .ok (.aload_n 0, 1) by decide +kernel) rfl) ?_
  refine xA (ok_iconst hC (show decode prog_14_method_31_code 151 = .ok (.iconst 0, 1) by decide +kernel) (by decide)) ?_
  refine xA (ok_put hC (show decode prog_14_method_31_code 152 = .ok (.putfield 329, 3) by decide +kernel) (by decide) (r0 := ("StyleCourtModel", xF13, 85)) rfl (by decide) rfl (by decide +kernel) w_1193) ?_
  refine xA (ok_aload_n hC (show decode prog_14_method_31_code 155 = .ok (.aload_n 0, 1) by decide +kernel) rfl) ?_
  refine xA (ok_aload_n hC (show decode prog_14_method_31_code 156 = .ok (.aload_n 0, 1) by decide +kernel) rfl) ?_
  refine xA (ok_get hC (show decode prog_14_method_31_code 157 = .ok (.getfield 317, 3) by decide +kernel) (by decide) (r0 := ("StyleCourtModel", xF13, 85)) rfl (by decide) rfl w_1192) ?_
  refine xA (ok_callV hC hnh (show decode prog_14_method_31_code 160 = .ok (.invokevirtual 214, 3) by decide +kernel) (by decide) (by decide) (by decide) (r0 := ("StyleCourtModel", xF13, 85)) rfl ⟨by decide, by decide, by decide +kernel⟩ w_1440 w_83 w_1437 w_1439 w_29) ?_
  refine xA (ok_callS (hh := []) hC hnh (show decode prog_14_method_31_code 163 = .ok (.invokestatic 224, 3) by decide +kernel) (by decide) (by decide) ⟨by decide, by decide, by decide +kernel⟩ (Or.inl w_1458) w_83 w_1456 w_1457) ?_
  refine xA (ok_ifeq hC (show decode prog_14_method_31_code 166 = .ok (.ifCond .eq 53, 3) by decide +kernel) (by decide)) ?_
  refine xA (ok_aload_n hC (show decode prog_14_method_31_code 169 = .ok (.aload_n 0, 1) by decide +kernel) rfl) ?_
  refine xA (ok_get hC (show decode prog_14_method_31_code 170 = .ok (.getfield 317, 3) by decide +kernel) (by decide) (r0 := ("StyleCourtModel", xF13, 85)) rfl (by decide) rfl w_1192) ?_
  refine xA (ok_aload_n hC (show decode prog_14_method_31_code 173 = .ok (.aload_n 0, 1) by decide +kernel) rfl) ?_
  refine xA (ok_get hC (show decode prog_14_method_31_code 174 = .ok (.getfield 320, 3) by decide +kernel) (by decide) (r0 := ("StyleCourtModel", xF13, 85)) rfl (by decide) rfl w_1191) ?_
  refine xA (ok_isub hC (show decode prog_14_method_31_code 177 = .ok (.isub, 1) by decide +kernel)) ?_
  refine xA (ok_bipush hC (show decode prog_14_method_31_code 178 = .ok (.bipush 7, 2) by decide +kernel) (by decide)) ?_
  refine xA (ok_icge hC (show decode prog_14_method_31_code 180 = .ok (.if_icmp .ge 26, 3) by decide +kernel) (by decide)) ?_
  refine xA (ok_aload_n hC (show decode prog_14_method_31_code 183 = .ok (.aload_n 0, 1) by decide +kernel) rfl) ?_
  refine xA (ok_bipush hC (show decode prog_14_method_31_code 184 = .ok (.bipush 10, 2) by decide +kernel) (by decide)) ?_
  refine xA (ok_aload_n hC (show decode prog_14_method_31_code 186 = .ok (.aload_n 0, 1) by decide +kernel) rfl) ?_
  refine xA (ok_get hC (show decode prog_14_method_31_code 187 = .ok (.getfield 329, 3) by decide +kernel) (by decide) (r0 := ("StyleCourtModel", xF13, 85)) rfl (by decide) rfl w_1193) ?_
  refine xA (ok_imul hC (show decode prog_14_method_31_code 190 = .ok (.imul, 1) by decide +kernel)) ?_
  refine xA (ok_aload_n hC (show decode prog_14_method_31_code 191 = .ok (.aload_n 0, 1) by decide +kernel) rfl) ?_
  refine xA (ok_aload_n hC (show decode prog_14_method_31_code 192 = .ok (.aload_n 0, 1) by decide +kernel) rfl) ?_
  refine xA (ok_get hC (show decode prog_14_method_31_code 193 = .ok (.getfield 317, 3) by decide +kernel) (by decide) (r0 := ("StyleCourtModel", xF13, 85)) rfl (by decide) rfl w_1192) ?_
  refine xA (ok_callV hC hnh (show decode prog_14_method_31_code 196 = .ok (.invokevirtual 214, 3) by decide +kernel) (by decide) (by decide) (by decide) (r0 := ("StyleCourtModel", xF13, 85)) rfl ⟨by decide, by decide, by decide +kernel⟩ w_1440 w_83 w_1437 w_1439 w_29) ?_
  refine xA (ok_iadd hC (show decode prog_14_method_31_code 199 = .ok (.iadd, 1) by decide +kernel)) ?_
  refine xA (ok_bipush hC (show decode prog_14_method_31_code 200 = .ok (.bipush 48, 2) by decide +kernel) (by decide)) ?_
  refine xA (ok_isub hC (show decode prog_14_method_31_code 202 = .ok (.isub, 1) by decide +kernel)) ?_
  refine xA (ok_put hC (show decode prog_14_method_31_code 203 = .ok (.putfield 329, 3) by decide +kernel) (by decide) (r0 := ("StyleCourtModel", xF13, 85)) rfl (by decide) rfl (by decide +kernel) w_1193) ?_
  refine xA (ok_aload_n hC (show decode prog_14_method_31_code 206 = .ok (.aload_n 0, 1) by decide +kernel) rfl) ?_
  refine xA (ok_dup hC (show decode prog_14_method_31_code 207 = .ok (.dup, 1) by decide +kernel)) ?_
  refine xA (ok_get hC (show decode prog_14_method_31_code 208 = .ok (.getfield 317, 3) by decide +kernel) (by decide) (r0 := ("StyleCourtModel", xF13, 85)) rfl (by decide) rfl w_1192) ?_
  refine xA (ok_iconst hC (show decode prog_14_method_31_code 211 = .ok (.iconst 1, 1) by decide +kernel) (by decide)) ?_
  refine xA (ok_iadd hC (show decode prog_14_method_31_code 212 = .ok (.iadd, 1) by decide +kernel)) ?_
  refine xA (ok_put hC (show decode prog_14_method_31_code 213 = .ok (.putfield 317, 3) by decide +kernel) (by decide) (r0 := ("StyleCourtModel", xF13, 85)) rfl (by decide) rfl (by decide +kernel) w_1192) ?_
  refine xA (ok_goto hC (show decode prog_14_method_31_code 216 = .ok (.goto (-61), 3) by decide +kernel) (by decide)) ?_
  refine xA (ok_aload_n hC (show decode prog_14_method_31_code 219 = .ok (.aload_n 0, 1) by decide +kernel) rfl) ?_
  refine xA (ok_aload_n hC (show decode prog_14_method_31_code 220 = .ok (.aload_n 0, 1) by decide +kernel) rfl) ?_
  refine xA (ok_get hC (show decode prog_14_method_31_code 221 = .ok (.getfield 317, 3) by decide +kernel) (by decide) (r0 := ("StyleCourtModel", xF13, 85)) rfl (by decide) rfl w_1192) ?_
  refine xA (ok_aload_n hC (show decode prog_14_method_31_code 224 = .ok (.aload_n 0, 1) by decide +kernel) rfl) ?_
  refine xA (ok_get hC (show decode prog_14_method_31_code 225 = .ok (.getfield 320, 3) by decide +kernel) (by decide) (r0 := ("StyleCourtModel", xF13, 85)) rfl (by decide) rfl w_1191) ?_
  refine xA (ok_isub hC (show decode prog_14_method_31_code 228 = .ok (.isub, 1) by decide +kernel)) ?_
  refine xA (ok_bipush hC (show decode prog_14_method_31_code 229 = .ok (.bipush 7, 2) by decide +kernel) (by decide)) ?_
  refine xA (ok_icle hC (show decode prog_14_method_31_code 231 = .ok (.if_icmp .le 7, 3) by decide +kernel) (by decide)) ?_
  refine xA (ok_iconst hC (show decode prog_14_method_31_code 234 = .ok (.iconst 4, 1) by decide +kernel) (by decide)) ?_
  refine xA (ok_goto hC (show decode prog_14_method_31_code 235 = .ok (.goto 4, 3) by decide +kernel) (by decide)) ?_
  refine xA (ok_iconst hC (show decode prog_14_method_31_code 238 = .ok (.iconst 2, 1) by decide +kernel) (by decide)) ?_
  refine xA (ok_put hC (show decode prog_14_method_31_code 239 = .ok (.putfield 326, 3) by decide +kernel) (by decide) (r0 := ("StyleCourtModel", xF13, 85)) rfl (by decide) rfl (by decide +kernel) w_1190) ?_
  refine xA (ok_goto hC (show decode prog_14_method_31_code 242 = .ok (.goto 126, 3) by decide +kernel) (by decide)) ?_
  refine xA (ok_iload_n hC (show decode prog_14_method_31_code 245 = .ok (.iload_n 1, 1) by decide +kernel) rfl) ?_
  refine xA (ok_bipush hC (show decode prog_14_method_31_code 246 = .ok (.bipush 34, 2) by decide +kernel) (by decide)) ?_
  refine xA (ok_icne hC (show decode prog_14_method_31_code 248 = .ok (.if_icmp .ne 100, 3) by decide +kernel) (by decide)) ?_
  refine xA (ok_aload_n hC (show decode prog_14_method_31_code 251 = .ok (.aload_n 0, 1) by decide +kernel) rfl) ?_
  refine xA (ok_dup hC (show decode prog_14_method_31_code 252 = .ok (.dup, 1) by decide +kernel)) ?_
  refine xA (ok_get hC (show decode prog_14_method_31_code 253 = .ok (.getfield 317, 3) by decide +kernel) (by decide) (r0 := ("StyleCourtModel", xF13, 85)) rfl (by decide) rfl w_1192) ?_
  refine xA (ok_iconst hC (show decode prog_14_method_31_code 256 = .ok (.iconst 1, 1) by decide +kernel) (by decide)) ?_
  refine xA (ok_iadd hC (show decode prog_14_method_31_code 257 = .ok (.iadd, 1) by decide +kernel)) ?_
  refine xA (ok_put hC (show decode prog_14_method_31_code 258 = .ok (.putfield 317, 3) by decide +kernel) (by decide) (r0 := ("StyleCourtModel", xF13, 85)) rfl (by decide) rfl (by decide +kernel) w_1192) ?_
  refine xA (ok_aload_n hC (show decode prog_14_method_31_code 261 = .ok (.aload_n 0, 1) by decide +kernel) rfl) ?_
  refine xA (ok_aload_n hC (show decode prog_14_method_31_code 262 = .ok (.aload_n 0, 1) by decide +kernel) rfl) ?_
  refine xA (ok_get hC (show decode prog_14_method_31_code 263 = .ok (.getfield 317, 3) by decide +kernel) (by decide) (r0 := ("StyleCourtModel", xF13, 85)) rfl (by decide) rfl w_1192) ?_
  refine xA (ok_callV hC hnh (show decode prog_14_method_31_code 266 = .ok (.invokevirtual 214, 3) by decide +kernel) (by decide) (by decide) (by decide) (r0 := ("StyleCourtModel", xF13, 85)) rfl ⟨by decide, by decide, by decide +kernel⟩ w_1440 w_83 w_1437 w_1439 w_29) ?_
  refine xA (ok_bipush hC (show decode prog_14_method_31_code 269 = .ok (.bipush 32, 2) by decide +kernel) (by decide)) ?_
  refine xA (ok_iclt hC (show decode prog_14_method_31_code 271 = .ok (.if_icmp .lt 42, 3) by decide +kernel) (by decide)) ?_
  refine xA (ok_aload_n hC (show decode prog_14_method_31_code 274 = .ok (.aload_n 0, 1) by decide +kernel) rfl) ?_
  refine xA (ok_aload_n hC (show decode prog_14_method_31_code 275 = .ok (.aload_n 0, 1) by decide +kernel) rfl) ?_
  refine xA (ok_get hC (show decode prog_14_method_31_code 276 = .ok (.getfield 317, 3) by decide +kernel) (by decide) (r0 := ("StyleCourtModel", xF13, 85)) rfl (by decide) rfl w_1192) ?_
  refine xA (ok_callV hC hnh (show decode prog_14_method_31_code 279 = .ok (.invokevirtual 214, 3) by decide +kernel) (by decide) (by decide) (by decide) (r0 := ("StyleCourtModel", xF13, 85)) rfl ⟨by decide, by decide, by decide +kernel⟩ w_1440 w_83 w_1437 w_1439 w_29) ?_
  refine xA (ok_bipush hC (show decode prog_14_method_31_code 282 = .ok (.bipush 126, 2) by decide +kernel) (by decide)) ?_
  refine xA (ok_icgt hC (show decode prog_14_method_31_code 284 = .ok (.if_icmp .gt 29, 3) by decide +kernel) (by decide)) ?_
  refine xA (ok_aload_n hC (show decode prog_14_method_31_code 287 = .ok (.aload_n 0, 1) by decide +kernel) rfl) ?_
  refine xA (ok_aload_n hC (show decode prog_14_method_31_code 288 = .ok (.aload_n 0, 1) by decide +kernel) rfl) ?_
  refine xA (ok_get hC (show decode prog_14_method_31_code 289 = .ok (.getfield 317, 3) by decide +kernel) (by decide) (r0 := ("StyleCourtModel", xF13, 85)) rfl (by decide) rfl w_1192) ?_
  refine xA (ok_callV hC hnh (show decode prog_14_method_31_code 292 = .ok (.invokevirtual 214, 3) by decide +kernel) (by decide) (by decide) (by decide) (r0 := ("StyleCourtModel", xF13, 85)) rfl ⟨by decide, by decide, by decide +kernel⟩ w_1440 w_83 w_1437 w_1439 w_29) ?_
  refine xA (ok_bipush hC (show decode prog_14_method_31_code 295 = .ok (.bipush 34, 2) by decide +kernel) (by decide)) ?_
  refine xA (ok_iceq hC (show decode prog_14_method_31_code 297 = .ok (.if_icmp .eq 16, 3) by decide +kernel) (by decide)) ?_
  refine xA (ok_aload_n hC (show decode prog_14_method_31_code 300 = .ok (.aload_n 0, 1) by decide +kernel) rfl) ?_
  refine xA (ok_dup hC (show decode prog_14_method_31_code 301 = .ok (.dup, 1) by decide +kernel)) ?_
  refine xA (ok_get hC (show decode prog_14_method_31_code 302 = .ok (.getfield 317, 3) by decide +kernel) (by decide) (r0 := ("StyleCourtModel", xF13, 85)) rfl (by decide) rfl w_1192) ?_
  refine xA (ok_iconst hC (show decode prog_14_method_31_code 305 = .ok (.iconst 1, 1) by decide +kernel) (by decide)) ?_
  refine xA (ok_iadd hC (show decode prog_14_method_31_code 306 = .ok (.iadd, 1) by decide +kernel)) ?_
  refine xA (ok_put hC (show decode prog_14_method_31_code 307 = .ok (.putfield 317, 3) by decide +kernel) (by decide) (r0 := ("StyleCourtModel", xF13, 85)) rfl (by decide) rfl (by decide +kernel) w_1192) ?_
  refine xA (ok_goto hC (show decode prog_14_method_31_code 310 = .ok (.goto (-49), 3) by decide +kernel) (by decide)) ?_
  refine xA (ok_aload_n hC (show decode prog_14_method_31_code 313 = .ok (.aload_n 0, 1) by decide +kernel) rfl) ?_
  refine xA (ok_aload_n hC (show decode prog_14_method_31_code 314 = .ok (.aload_n 0, 1) by decide +kernel) rfl) ?_
  refine xA (ok_aload_n hC (show decode prog_14_method_31_code 315 = .ok (.aload_n 0, 1) by decide +kernel) rfl) ?_
  refine xA (ok_get hC (show decode prog_14_method_31_code 316 = .ok (.getfield 317, 3) by decide +kernel) (by decide) (r0 := ("StyleCourtModel", xF13, 85)) rfl (by decide) rfl w_1192) ?_
  refine xA (ok_callV hC hnh (show decode prog_14_method_31_code 319 = .ok (.invokevirtual 214, 3) by decide +kernel) (by decide) (by decide) (by decide) (r0 := ("StyleCourtModel", xF13, 85)) rfl ⟨by decide, by decide, by decide +kernel⟩ w_1440 w_83 w_1437 w_1439 w_29) ?_
  refine xA (ok_bipush hC (show decode prog_14_method_31_code 322 = .ok (.bipush 34, 2) by decide +kernel) (by decide)) ?_
  refine xA (ok_icne hC (show decode prog_14_method_31_code 324 = .ok (.if_icmp .ne 7, 3) by decide +kernel) (by decide)) ?_
  refine xA (ok_iconst hC (show decode prog_14_method_31_code 327 = .ok (.iconst 3, 1) by decide +kernel) (by decide)) ?_
  refine xA (ok_goto hC (show decode prog_14_method_31_code 328 = .ok (.goto 4, 3) by decide +kernel) (by decide)) ?_
  refine xA (ok_iconst hC (show decode prog_14_method_31_code 331 = .ok (.iconst 4, 1) by decide +kernel) (by decide)) ?_
  refine xA (ok_put hC (show decode prog_14_method_31_code 332 = .ok (.putfield 326, 3) by decide +kernel) (by decide) (r0 := ("StyleCourtModel", xF13, 85)) rfl (by decide) rfl (by decide +kernel) w_1190) ?_
  refine xA (ok_aload_n hC (show decode prog_14_method_31_code 335 = .ok (.aload_n 0, 1) by decide +kernel) rfl) ?_
  refine xA (ok_dup hC (show decode prog_14_method_31_code 336 = .ok (.dup, 1) by decide +kernel)) ?_
  refine xA (ok_get hC (show decode prog_14_method_31_code 337 = .ok (.getfield 317, 3) by decide +kernel) (by decide) (r0 := ("StyleCourtModel", xF13, 85)) rfl (by decide) rfl w_1192) ?_
  refine xA (ok_iconst hC (show decode prog_14_method_31_code 340 = .ok (.iconst 1, 1) by decide +kernel) (by decide)) ?_
  refine xA (ok_iadd hC (show decode prog_14_method_31_code 341 = .ok (.iadd, 1) by decide +kernel)) ?_
  refine xA (ok_put hC (show decode prog_14_method_31_code 342 = .ok (.putfield 317, 3) by decide +kernel) (by decide) (r0 := ("StyleCourtModel", xF13, 85)) rfl (by decide) rfl (by decide +kernel) w_1192) ?_
  refine xA (ok_goto hC (show decode prog_14_method_31_code 345 = .ok (.goto 23, 3) by decide +kernel) (by decide)) ?_
  refine xA (ok_aload_n hC (show decode prog_14_method_31_code 348 = .ok (.aload_n 0, 1) by decide +kernel) rfl) ?_
  refine xA (ok_iconst hC (show decode prog_14_method_31_code 349 = .ok (.iconst 4, 1) by decide +kernel) (by decide)) ?_
  refine xA (ok_put hC (show decode prog_14_method_31_code 350 = .ok (.putfield 326, 3) by decide +kernel) (by decide) (r0 := ("StyleCourtModel", xF13, 85)) rfl (by decide) rfl (by decide +kernel) w_1190) ?_
  refine xA (ok_aload_n hC (show decode prog_14_method_31_code 353 = .ok (.aload_n 0, 1) by decide +kernel) rfl) ?_
  refine xA (ok_iload_n hC (show decode prog_14_method_31_code 354 = .ok (.iload_n 1, 1) by decide +kernel) rfl) ?_
  refine xA (ok_put hC (show decode prog_14_method_31_code 355 = .ok (.putfield 323, 3) by decide +kernel) (by decide) (r0 := ("StyleCourtModel", xF13, 85)) rfl (by decide) rfl (by decide +kernel) w_1194) ?_
  refine xA (ok_aload_n hC (show decode prog_14_method_31_code 358 = .ok (.aload_n 0, 1) by decide +kernel) rfl) ?_
  refine xA (ok_dup hC (show decode prog_14_method_31_code 359 = .ok (.dup, 1) by decide +kernel)) ?_
  refine xA (ok_get hC (show decode prog_14_method_31_code 360 = .ok (.getfield 317, 3) by decide +kernel) (by decide) (r0 := ("StyleCourtModel", xF13, 85)) rfl (by decide) rfl w_1192) ?_
  refine xA (ok_iconst hC (show decode prog_14_method_31_code 363 = .ok (.iconst 1, 1) by decide +kernel) (by decide)) ?_
  refine xA (ok_iadd hC (show decode prog_14_method_31_code 364 = .ok (.iadd, 1) by decide +kernel)) ?_
  refine xA (ok_put hC (show decode prog_14_method_31_code 365 = .ok (.putfield 317, 3) by decide +kernel) (by decide) (r0 := ("StyleCourtModel", xF13, 85)) rfl (by decide) rfl (by decide +kernel) w_1192) ?_
  refine xA (ok_vret hC hr (show decode prog_14_method_31_code 368 = .ok (.return_, 1) by decide +kernel)) ?_
  exact trivial
