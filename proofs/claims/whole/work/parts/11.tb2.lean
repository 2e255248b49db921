def tb_So_init (X : xX) : List (Nat × xOp) := [(0, o_ald 0 1),
  (1, o_obj 4),
  (4, o_ald 0 5),
  (5, o_new 12 3 [.int 0, .null, .int 0] 8),
  (8, o_dup 9),
  (9, o_callI X.l X.D X.P 3 1 y_AL_init 12),
  (12, o_put 5 0 (.object "java/util/ArrayList") 15),
  (15, o_ald 0 16),
  (16, o_new 12 3 [.int 0, .null, .int 0] 19),
  (19, o_dup 20),
  (20, o_callI X.l X.D X.P 3 1 y_AL_init 23),
  (23, o_put 5 1 (.object "java/util/ArrayList") 26),
  (26, o_ald 0 27),
  (27, o_new 12 3 [.int 0, .null, .int 0] 30),
  (30, o_dup 31),
  (31, o_callI X.l X.D X.P 3 1 y_AL_init 34),
  (34, o_put 5 2 (.object "java/util/ArrayList") 37),
  (37, o_ald 0 38),
  (38, o_new 4 15 [.null, .null, .null, .int 0, .int 0, .int 0, .int 0, .null, .null, .int 0, .int 0, .int 0, .int 0, .int 0, .int 0] 41),
  (41, o_dup 42),
  (42, o_new 2 3 [.null, .int 0, .int 0] 45),
  (45, o_dup 46),
  (46, o_gets X.D 0 49),
  (49, o_ic 0 50),
  (50, o_ic 0 51),
  (51, o_callI X.l X.D X.P 1 4 y_Sl_init 54),
  (54, o_null 55),
  (55, o_ic (-1) 56),
  (56, o_ic 0 57),
  (57, o_callI X.l X.D X.P 4 5 y_El_init 60),
  (60, o_put 5 3 (.object "StyleCourt$Element") 63),
  (63, o_ald 0 64),
  (64, o_ald 0 65),
  (65, o_get 5 3 68),
  (68, o_put 5 4 (.object "StyleCourt$Element") 71),
  (71, o_ald 0 72),
  (72, o_get 5 2 75),
  (75, o_new 3 2 [.null, .null] 78),
  (78, o_dup 79),
  (79, o_new 2 3 [.null, .int 0, .int 0] 82),
  (82, o_dup 83),
  (83, o_gets X.D 0 86),
  (86, o_ic 0 87),
  (87, o_ic 2 88),
  (88, o_callI X.l X.D X.P 1 4 y_Sl_init 91),
  (91, o_new 2 3 [.null, .int 0, .int 0] 94),
  (94, o_dup 95),
  (95, o_gets X.D 0 98),
  (98, o_ic 2 99),
  (99, o_ic 1 100),
  (100, o_callI X.l X.D X.P 1 4 y_Sl_init 103),
  (103, o_callI X.l X.D X.P 1 3 y_Nd_init 106),
  (106, o_callV X.l X.D X.P 12 6 2 y_AL_add 109),
  (109, o_pop 110),
  (110, o_ald 0 111),
  (111, o_get 5 2 114),
  (114, o_new 3 2 [.null, .null] 117),
  (117, o_dup 118),
  (118, o_new 2 3 [.null, .int 0, .int 0] 121),
  (121, o_dup 122),
  (122, o_gets X.D 0 125),
  (125, o_ic 3 126),
  (126, o_ic 3 127),
  (127, o_callI X.l X.D X.P 1 4 y_Sl_init 130),
  (130, o_new 2 3 [.null, .int 0, .int 0] 133),
  (133, o_dup 134),
  (134, o_gets X.D 0 137),
  (137, o_ic 6 139),
  (139, o_ic 1 140),
  (140, o_callI X.l X.D X.P 1 4 y_Sl_init 143),
  (143, o_callI X.l X.D X.P 1 3 y_Nd_init 146),
  (146, o_callV X.l X.D X.P 12 6 2 y_AL_add 149),
  (149, o_pop 150),
  (150, o_vret X.P)]
theorem tk_So_init {X : xX} (hC : xCx X prog_9_method_1_code "StyleCourt$Source" 1 7) (hr : X.meth.sig.returnType = none) (hnh : X.c.exceptionTable.isEmpty = true) (hin : X.meth.name = "<init>") : xAll X (tb_So_init X) := by
  refine xA (ok_aload_n hC (show decode prog_9_method_1_code 0 = .ok (.aload_n 0, 1) by decide +kernel) rfl) ?_
  refine xA (ok_obj hC (by decide) (show decode prog_9_method_1_code 1 = .ok (.invokespecial 3, 3) by decide +kernel) w_159 w_106 w_107) ?_
  refine xA (ok_aload_n hC (show decode prog_9_method_1_code 4 = .ok (.aload_n 0, 1) by decide +kernel) rfl) ?_
  refine xA (ok_new hC (show decode prog_9_method_1_code 5 = .ok (.new 9, 3) by decide +kernel) (by decide) (r0 := ("java/util/ArrayList", xF12, 3)) rfl (by decide) w_160 w_161 w_77) ?_
  refine xA (ok_dup hC (show decode prog_9_method_1_code 8 = .ok (.dup, 1) by decide +kernel)) ?_
  refine xA (ok_callI hC hnh (show decode prog_9_method_1_code 9 = .ok (.invokespecial 11, 3) by decide +kernel) (by decide) (by decide) ⟨by decide, by decide, by decide +kernel⟩ rfl w_164 w_77 w_162 w_163) ?_
  refine xA (ok_putF hC hin (show decode prog_9_method_1_code 12 = .ok (.putfield 12, 3) by decide +kernel) (by decide) (r0 := ("StyleCourt$Source", xF5, 5)) rfl (by decide) rfl (by decide +kernel) w_370) ?_
  refine xA (ok_aload_n hC (show decode prog_9_method_1_code 15 = .ok (.aload_n 0, 1) by decide +kernel) rfl) ?_
  refine xA (ok_new hC (show decode prog_9_method_1_code 16 = .ok (.new 9, 3) by decide +kernel) (by decide) (r0 := ("java/util/ArrayList", xF12, 3)) rfl (by decide) w_160 w_161 w_77) ?_
  refine xA (ok_dup hC (show decode prog_9_method_1_code 19 = .ok (.dup, 1) by decide +kernel)) ?_
  refine xA (ok_callI hC hnh (show decode prog_9_method_1_code 20 = .ok (.invokespecial 11, 3) by decide +kernel) (by decide) (by decide) ⟨by decide, by decide, by decide +kernel⟩ rfl w_164 w_77 w_162 w_163) ?_
  refine xA (ok_putF hC hin (show decode prog_9_method_1_code 23 = .ok (.putfield 18, 3) by decide +kernel) (by decide) (r0 := ("StyleCourt$Source", xF5, 5)) rfl (by decide) rfl (by decide +kernel) w_372) ?_
  refine xA (ok_aload_n hC (show decode prog_9_method_1_code 26 = .ok (.aload_n 0, 1) by decide +kernel) rfl) ?_
  refine xA (ok_new hC (show decode prog_9_method_1_code 27 = .ok (.new 9, 3) by decide +kernel) (by decide) (r0 := ("java/util/ArrayList", xF12, 3)) rfl (by decide) w_160 w_161 w_77) ?_
  refine xA (ok_dup hC (show decode prog_9_method_1_code 30 = .ok (.dup, 1) by decide +kernel)) ?_
  refine xA (ok_callI hC hnh (show decode prog_9_method_1_code 31 = .ok (.invokespecial 11, 3) by decide +kernel) (by decide) (by decide) ⟨by decide, by decide, by decide +kernel⟩ rfl w_164 w_77 w_162 w_163) ?_
  refine xA (ok_putF hC hin (show decode prog_9_method_1_code 34 = .ok (.putfield 21, 3) by decide +kernel) (by decide) (r0 := ("StyleCourt$Source", xF5, 5)) rfl (by decide) rfl (by decide +kernel) w_374) ?_
  refine xA (ok_aload_n hC (show decode prog_9_method_1_code 37 = .ok (.aload_n 0, 1) by decide +kernel) rfl) ?_
  refine xA (ok_new hC (show decode prog_9_method_1_code 38 = .ok (.new 24, 3) by decide +kernel) (by decide) (r0 := ("StyleCourt$Element", xF4, 15)) rfl (by decide) w_186 w_187 w_78) ?_
  refine xA (ok_dup hC (show decode prog_9_method_1_code 41 = .ok (.dup, 1) by decide +kernel)) ?_
  refine xA (ok_new hC (show decode prog_9_method_1_code 42 = .ok (.new 26, 3) by decide +kernel) (by decide) (r0 := ("StyleCourt$Slice", xF2, 3)) rfl (by decide) w_188 w_189 w_79) ?_
  refine xA (ok_dup hC (show decode prog_9_method_1_code 45 = .ok (.dup, 1) by decide +kernel)) ?_
  refine xA (ok_getsN hC (show decode prog_9_method_1_code 46 = .ok (.getstatic 28, 3) by decide +kernel) (i := 0) rfl w_190) ?_
  refine xA (ok_iconst hC (show decode prog_9_method_1_code 49 = .ok (.iconst 0, 1) by decide +kernel) (by decide)) ?_
  refine xA (ok_iconst hC (show decode prog_9_method_1_code 50 = .ok (.iconst 0, 1) by decide +kernel) (by decide)) ?_
  refine xA (ok_callI hC hnh (show decode prog_9_method_1_code 51 = .ok (.invokespecial 32, 3) by decide +kernel) (by decide) (by decide) ⟨by decide, by decide, by decide +kernel⟩ rfl w_193 w_79 w_191 w_192) ?_
  refine xA (ok_null hC (show decode prog_9_method_1_code 54 = .ok (.aconst_null, 1) by decide +kernel)) ?_
  refine xA (ok_iconst hC (show decode prog_9_method_1_code 55 = .ok (.iconst (-1), 1) by decide +kernel) (by decide)) ?_
  refine xA (ok_iconst hC (show decode prog_9_method_1_code 56 = .ok (.iconst 0, 1) by decide +kernel) (by decide)) ?_
  refine xA (ok_callI hC hnh (show decode prog_9_method_1_code 57 = .ok (.invokespecial 35, 3) by decide +kernel) (by decide) (by decide) ⟨by decide, by decide, by decide +kernel⟩ rfl w_212 w_78 w_210 w_211) ?_
  refine xA (ok_putF hC hin (show decode prog_9_method_1_code 60 = .ok (.putfield 38, 3) by decide +kernel) (by decide) (r0 := ("StyleCourt$Source", xF5, 5)) rfl (by decide) rfl (by decide +kernel) w_375) ?_
  refine xA (ok_aload_n hC (show decode prog_9_method_1_code 63 = .ok (.aload_n 0, 1) by decide +kernel) rfl) ?_
  refine xA (ok_aload_n hC (show decode prog_9_method_1_code 64 = .ok (.aload_n 0, 1) by decide +kernel) rfl) ?_
  refine xA (ok_get hC (show decode prog_9_method_1_code 65 = .ok (.getfield 38, 3) by decide +kernel) (by decide) (r0 := ("StyleCourt$Source", xF5, 5)) rfl (by decide) rfl w_375) ?_
  refine xA (ok_put hC (show decode prog_9_method_1_code 68 = .ok (.putfield 42, 3) by decide +kernel) (by decide) (r0 := ("StyleCourt$Source", xF5, 5)) rfl (by decide) rfl (by decide +kernel) w_377) ?_
  refine xA (ok_aload_n hC (show decode prog_9_method_1_code 71 = .ok (.aload_n 0, 1) by decide +kernel) rfl) ?_
  refine xA (ok_get hC (show decode prog_9_method_1_code 72 = .ok (.getfield 21, 3) by decide +kernel) (by decide) (r0 := ("StyleCourt$Source", xF5, 5)) rfl (by decide) rfl w_374) ?_
  refine xA (ok_new hC (show decode prog_9_method_1_code 75 = .ok (.new 45, 3) by decide +kernel) (by decide) (r0 := ("StyleCourt$Named", xF3, 2)) rfl (by decide) w_295 w_296 w_80) ?_
  refine xA (ok_dup hC (show decode prog_9_method_1_code 78 = .ok (.dup, 1) by decide +kernel)) ?_
  refine xA (ok_new hC (show decode prog_9_method_1_code 79 = .ok (.new 26, 3) by decide +kernel) (by decide) (r0 := ("StyleCourt$Slice", xF2, 3)) rfl (by decide) w_188 w_189 w_79) ?_
  refine xA (ok_dup hC (show decode prog_9_method_1_code 82 = .ok (.dup, 1) by decide +kernel)) ?_
  refine xA (ok_getsN hC (show decode prog_9_method_1_code 83 = .ok (.getstatic 28, 3) by decide +kernel) (i := 0) rfl w_190) ?_
  refine xA (ok_iconst hC (show decode prog_9_method_1_code 86 = .ok (.iconst 0, 1) by decide +kernel) (by decide)) ?_
  refine xA (ok_iconst hC (show decode prog_9_method_1_code 87 = .ok (.iconst 2, 1) by decide +kernel) (by decide)) ?_
  refine xA (ok_callI hC hnh (show decode prog_9_method_1_code 88 = .ok (.invokespecial 32, 3) by decide +kernel) (by decide) (by decide) ⟨by decide, by decide, by decide +kernel⟩ rfl w_193 w_79 w_191 w_192) ?_
  refine xA (ok_new hC (show decode prog_9_method_1_code 91 = .ok (.new 26, 3) by decide +kernel) (by decide) (r0 := ("StyleCourt$Slice", xF2, 3)) rfl (by decide) w_188 w_189 w_79) ?_
  refine xA (ok_dup hC (show decode prog_9_method_1_code 94 = .ok (.dup, 1) by decide +kernel)) ?_
  refine xA (ok_getsN hC (show decode prog_9_method_1_code 95 = .ok (.getstatic 28, 3) by decide +kernel) (i := 0) rfl w_190) ?_
  refine xA (ok_iconst hC (show decode prog_9_method_1_code 98 = .ok (.iconst 2, 1) by decide +kernel) (by decide)) ?_
  refine xA (ok_iconst hC (show decode prog_9_method_1_code 99 = .ok (.iconst 1, 1) by decide +kernel) (by decide)) ?_
  refine xA (ok_callI hC hnh (show decode prog_9_method_1_code 100 = .ok (.invokespecial 32, 3) by decide +kernel) (by decide) (by decide) ⟨by decide, by decide, by decide +kernel⟩ rfl w_193 w_79 w_191 w_192) ?_
  refine xA (ok_callI hC hnh (show decode prog_9_method_1_code 103 = .ok (.invokespecial 47, 3) by decide +kernel) (by decide) (by decide) ⟨by decide, by decide, by decide +kernel⟩ rfl w_299 w_80 w_297 w_298) ?_
  refine xA (ok_callV hC hnh (show decode prog_9_method_1_code 106 = .ok (.invokevirtual 50, 3) by decide +kernel) (by decide) (by decide) (by decide) (r0 := ("java/util/ArrayList", xF12, 3)) rfl ⟨by decide, by decide, by decide +kernel⟩ w_315 w_77 w_312 w_313 w_314) ?_
  refine xA (ok_pop hC (show decode prog_9_method_1_code 109 = .ok (.pop, 1) by decide +kernel)) ?_
  refine xA (ok_aload_n hC (show decode prog_9_method_1_code 110 = .ok (.aload_n 0, 1) by decide +kernel) rfl) ?_
  refine xA (ok_get hC (show decode prog_9_method_1_code 111 = .ok (.getfield 21, 3) by decide +kernel) (by decide) (r0 := ("StyleCourt$Source", xF5, 5)) rfl (by decide) rfl w_374) ?_
  refine xA (ok_new hC (show decode prog_9_method_1_code 114 = .ok (.new 45, 3) by decide +kernel) (by decide) (r0 := ("StyleCourt$Named", xF3, 2)) rfl (by decide) w_295 w_296 w_80) ?_
  refine xA (ok_dup hC (show decode prog_9_method_1_code 117 = .ok (.dup, 1) by decide +kernel)) ?_
  refine xA (ok_new hC (show decode prog_9_method_1_code 118 = .ok (.new 26, 3) by decide +kernel) (by decide) (r0 := ("StyleCourt$Slice", xF2, 3)) rfl (by decide) w_188 w_189 w_79) ?_
  refine xA (ok_dup hC (show decode prog_9_method_1_code 121 = .ok (.dup, 1) by decide +kernel)) ?_
  refine xA (ok_getsN hC (show decode prog_9_method_1_code 122 = .ok (.getstatic 28, 3) by decide +kernel) (i := 0) rfl w_190) ?_
  refine xA (ok_iconst hC (show decode prog_9_method_1_code 125 = .ok (.iconst 3, 1) by decide +kernel) (by decide)) ?_
  refine xA (ok_iconst hC (show decode prog_9_method_1_code 126 = .ok (.iconst 3, 1) by decide +kernel) (by decide)) ?_
  refine xA (ok_callI hC hnh (show decode prog_9_method_1_code 127 = .ok (.invokespecial 32, 3) by decide +kernel) (by decide) (by decide) ⟨by decide, by decide, by decide +kernel⟩ rfl w_193 w_79 w_191 w_192) ?_
  refine xA (ok_new hC (show decode prog_9_method_1_code 130 = .ok (.new 26, 3) by decide +kernel) (by decide) (r0 := ("StyleCourt$Slice", xF2, 3)) rfl (by decide) w_188 w_189 w_79) ?_
  refine xA (ok_dup hC (show decode prog_9_method_1_code 133 = .ok (.dup, 1) by decide +kernel)) ?_
  refine xA (ok_getsN hC (show decode prog_9_method_1_code 134 = .ok (.getstatic 28, 3) by decide +kernel) (i := 0) rfl w_190) ?_
  refine xA (ok_bipush hC (show decode prog_9_method_1_code 137 = .ok (.bipush 6, 2) by decide +kernel) (by decide)) ?_
  refine xA (ok_iconst hC (show decode prog_9_method_1_code 139 = .ok (.iconst 1, 1) by decide +kernel) (by decide)) ?_
  refine xA (ok_callI hC hnh (show decode prog_9_method_1_code 140 = .ok (.invokespecial 32, 3) by decide +kernel) (by decide) (by decide) ⟨by decide, by decide, by decide +kernel⟩ rfl w_193 w_79 w_191 w_192) ?_
  refine xA (ok_callI hC hnh (show decode prog_9_method_1_code 143 = .ok (.invokespecial 47, 3) by decide +kernel) (by decide) (by decide) ⟨by decide, by decide, by decide +kernel⟩ rfl w_299 w_80 w_297 w_298) ?_
  refine xA (ok_callV hC hnh (show decode prog_9_method_1_code 146 = .ok (.invokevirtual 50, 3) by decide +kernel) (by decide) (by decide) (by decide) (r0 := ("java/util/ArrayList", xF12, 3)) rfl ⟨by decide, by decide, by decide +kernel⟩ w_315 w_77 w_312 w_313 w_314) ?_
  refine xA (ok_pop hC (show decode prog_9_method_1_code 149 = .ok (.pop, 1) by decide +kernel)) ?_
  refine xA (ok_vret hC hr (show decode prog_9_method_1_code 150 = .ok (.return_, 1) by decide +kernel)) ?_
  exact trivial

def tb_So_readPiece (X : xX) : List (Nat × xOp) := [(0, o_ald 1 1),
  (1, o_get 1 1 4),
  (4, o_ist 2 5),
  (5, o_ald 1 6),
  (6, o_callV X.l X.D X.P 1 0 1 y_Rd_here 9),
  (9, o_ist 3 10),
  (10, o_ild 3 11),
  (11, o_ic 60 13),
  (13, o_icne 35 16),
  (16, o_ald 1 17),
  (17, o_dup 18),
  (18, o_get 1 1 21),
  (21, o_ic 1 22),
  (22, o_iadd 23),
  (23, o_put 1 1 (.int) 26),
  (26, o_ald 0 27),
  (27, o_ald 1 28),
  (28, o_ild 2 29),
  (29, o_callV X.l X.D X.P 5 10 3 y_So_readMarkup 32),
  (32, o_goto 64),
  (35, o_ild 3 36),
  (36, o_ic 38 38),
  (38, o_icne 59 41),
  (41, o_ald 1 42),
  (42, o_dup 43),
  (43, o_get 1 1 46),
  (46, o_ic 1 47),
  (47, o_iadd 48),
  (48, o_put 1 1 (.int) 51),
  (51, o_ald 0 52),
  (52, o_ald 1 53),
  (53, o_callV X.l X.D X.P 5 8 2 y_So_readReference 56),
  (56, o_goto 64),
  (59, o_ald 0 60),
  (60, o_ald 1 61),
  (61, o_callV X.l X.D X.P 5 8 2 y_So_readText 64),
  (64, o_vret X.P)]
theorem tk_So_readPiece {X : xX} (hC : xCx X prog_9_method_2_code "StyleCourt$Source" 4 11) (hr : X.meth.sig.returnType = none) (hnh : X.c.exceptionTable.isEmpty = true) (hin : X.meth.name = "readPiece") : xAll X (tb_So_readPiece X) := by
  refine xA (ok_aload_n hC (show decode prog_9_method_2_code 0 = .ok (.aload_n 1, 1) by decide +kernel) rfl) ?_
  refine xA (ok_get hC (show decode prog_9_method_2_code 1 = .ok (.getfield 54, 3) by decide +kernel) (by decide) (r0 := ("StyleCourt$Reader", xF1, 3)) rfl (by decide) rfl w_136) ?_
  refine xA (ok_istore_n hC (show decode prog_9_method_2_code 4 = .ok (.istore_n 2, 1) by decide +kernel) rfl (by decide)) ?_
  refine xA (ok_aload_n hC (show decode prog_9_method_2_code 5 = .ok (.aload_n 1, 1) by decide +kernel) rfl) ?_
  refine xA (ok_callV hC hnh (show decode prog_9_method_2_code 6 = .ok (.invokevirtual 60, 3) by decide +kernel) (by decide) (by decide) (by decide) (r0 := ("StyleCourt$Reader", xF1, 3)) rfl ⟨by decide, by decide, by decide +kernel⟩ w_574 w_70 w_579 w_572 w_573) ?_
  refine xA (ok_istore_n hC (show decode prog_9_method_2_code 9 = .ok (.istore_n 3, 1) by decide +kernel) rfl (by decide)) ?_
  refine xA (ok_iload_n hC (show decode prog_9_method_2_code 10 = .ok (.iload_n 3, 1) by decide +kernel) rfl) ?_
  refine xA (ok_bipush hC (show decode prog_9_method_2_code 11 = .ok (.bipush 60, 2) by decide +kernel) (by decide)) ?_
  refine xA (ok_icne hC (show decode prog_9_method_2_code 13 = .ok (.if_icmp .ne 22, 3) by decide +kernel) (by decide)) ?_
  refine xA (ok_aload_n hC (show decode prog_9_method_2_code 16 = .ok (.aload_n 1, 1) by decide +kernel) rfl) ?_
  refine xA (ok_dup hC (show decode prog_9_method_2_code 17 = .ok (.dup, 1) by decide +kernel)) ?_
  refine xA (ok_get hC (show decode prog_9_method_2_code 18 = .ok (.getfield 54, 3) by decide +kernel) (by decide) (r0 := ("StyleCourt$Reader", xF1, 3)) rfl (by decide) rfl w_136) ?_
  refine xA (ok_iconst hC (show decode prog_9_method_2_code 21 = .ok (.iconst 1, 1) by decide +kernel) (by decide)) ?_
  refine xA (ok_iadd hC (show decode prog_9_method_2_code 22 = .ok (.iadd, 1) by decide +kernel)) ?_
  refine xA (ok_put hC (show decode prog_9_method_2_code 23 = .ok (.putfield 54, 3) by decide +kernel) (by decide) (r0 := ("StyleCourt$Reader", xF1, 3)) rfl (by decide) rfl (by decide +kernel) w_136) ?_
  refine xA (ok_aload_n hC (show decode prog_9_method_2_code 26 = .ok (.aload_n 0, 1) by decide +kernel) rfl) ?_
  refine xA (ok_aload_n hC (show decode prog_9_method_2_code 27 = .ok (.aload_n 1, 1) by decide +kernel) rfl) ?_
  refine xA (ok_iload_n hC (show decode prog_9_method_2_code 28 = .ok (.iload_n 2, 1) by decide +kernel) rfl) ?_
  refine xA (ok_callV hC hnh (show decode prog_9_method_2_code 29 = .ok (.invokevirtual 64, 3) by decide +kernel) (by decide) (by decide) (by decide) (r0 := ("StyleCourt$Source", xF5, 5)) rfl ⟨by decide, by decide, by decide +kernel⟩ w_583 w_74 w_580 w_582 w_6) ?_
  refine xA (ok_goto hC (show decode prog_9_method_2_code 32 = .ok (.goto 32, 3) by decide +kernel) (by decide)) ?_
  refine xA (ok_iload_n hC (show decode prog_9_method_2_code 35 = .ok (.iload_n 3, 1) by decide +kernel) rfl) ?_
  refine xA (ok_bipush hC (show decode prog_9_method_2_code 36 = .ok (.bipush 38, 2) by decide +kernel) (by decide)) ?_
  refine xA (ok_icne hC (show decode prog_9_method_2_code 38 = .ok (.if_icmp .ne 21, 3) by decide +kernel) (by decide)) ?_
  refine xA (ok_aload_n hC (show decode prog_9_method_2_code 41 = .ok (.aload_n 1, 1) by decide +kernel) rfl) ?_
  refine xA (ok_dup hC (show decode prog_9_method_2_code 42 = .ok (.dup, 1) by decide +kernel)) ?_
  refine xA (ok_get hC (show decode prog_9_method_2_code 43 = .ok (.getfield 54, 3) by decide +kernel) (by decide) (r0 := ("StyleCourt$Reader", xF1, 3)) rfl (by decide) rfl w_136) ?_
  refine xA (ok_iconst hC (show decode prog_9_method_2_code 46 = .ok (.iconst 1, 1) by decide +kernel) (by decide)) ?_
  refine xA (ok_iadd hC (show decode prog_9_method_2_code 47 = .ok (.iadd, 1) by decide +kernel)) ?_
  refine xA (ok_put hC (show decode prog_9_method_2_code 48 = .ok (.putfield 54, 3) by decide +kernel) (by decide) (r0 := ("StyleCourt$Reader", xF1, 3)) rfl (by decide) rfl (by decide +kernel) w_136) ?_
  refine xA (ok_aload_n hC (show decode prog_9_method_2_code 51 = .ok (.aload_n 0, 1) by decide +kernel) rfl) ?_
  refine xA (ok_aload_n hC (show decode prog_9_method_2_code 52 = .ok (.aload_n 1, 1) by decide +kernel) rfl) ?_
  refine xA (ok_callV hC hnh (show decode prog_9_method_2_code 53 = .ok (.invokevirtual 68, 3) by decide +kernel) (by decide) (by decide) (by decide) (r0 := ("StyleCourt$Source", xF5, 5)) rfl ⟨by decide, by decide, by decide +kernel⟩ w_705 w_74 w_702 w_704 w_13) ?_
  refine xA (ok_goto hC (show decode prog_9_method_2_code 56 = .ok (.goto 8, 3) by decide +kernel) (by decide)) ?_
  refine xA (ok_aload_n hC (show decode prog_9_method_2_code 59 = .ok (.aload_n 0, 1) by decide +kernel) rfl) ?_
  refine xA (ok_aload_n hC (show decode prog_9_method_2_code 60 = .ok (.aload_n 1, 1) by decide +kernel) rfl) ?_
  refine xA (ok_callV hC hnh (show decode prog_9_method_2_code 61 = .ok (.invokevirtual 72, 3) by decide +kernel) (by decide) (by decide) (by decide) (r0 := ("StyleCourt$Source", xF5, 5)) rfl ⟨by decide, by decide, by decide +kernel⟩ w_713 w_74 w_710 w_712 w_15) ?_
  refine xA (ok_vret hC hr (show decode prog_9_method_2_code 64 = .ok (.return_, 1) by decide +kernel)) ?_
  exact trivial

def tb_So_readMarkup (X : xX) : List (Nat × xOp) := [(0, o_ald 1 1),
  (1, o_callV X.l X.D X.P 1 0 1 y_Rd_here 4),
  (4, o_ist 3 5),
  (5, o_ild 3 6),
  (6, o_ic 47 8),
  (8, o_icne 19 11),
  (11, o_ald 0 12),
  (12, o_ald 1 13),
  (13, o_callV X.l X.D X.P 5 8 2 y_So_readEndOfElement 16),
  (16, o_goto 81),
  (19, o_ild 3 20),
  (20, o_ic 33 22),
  (22, o_iceq 34 25),
  (25, o_ald 0 26),
  (26, o_ald 1 27),
  (27, o_ild 2 28),
  (28, o_callV X.l X.D X.P 5 9 3 y_So_readBeginOfElement 31),
  (31, o_goto 81),
  (34, o_ald 1 35),
  (35, o_dup 36),
  (36, o_get 1 1 39),
  (39, o_ic 1 40),
  (40, o_iadd 41),
  (41, o_put 1 1 (.int) 44),
  (44, o_ald 1 45),
  (45, o_callV X.l X.D X.P 1 0 1 y_Rd_here 48),
  (48, o_ic 45 50),
  (50, o_icne 76 53),
  (53, o_ald 1 54),
  (54, o_dup 55),
  (55, o_get 1 1 58),
  (58, o_ic 1 59),
  (59, o_iadd 60),
  (60, o_put 1 1 (.int) 63),
  (63, o_ald 1 64),
  (64, o_ic 45 66),
  (66, o_callV X.l X.D X.P 1 7 2 y_Rd_expect 69),
  (69, o_ald 1 70),
  (70, o_callV X.l X.D X.P 1 7 1 y_Rd_skipComment 73),
  (73, o_goto 81),
  (76, o_ald 0 77),
  (77, o_ald 1 78),
  (78, o_callV X.l X.D X.P 5 8 2 y_So_readEntity 81),
  (81, o_vret X.P)]
theorem tk_So_readMarkup {X : xX} (hC : xCx X prog_9_method_3_code "StyleCourt$Source" 4 10) (hr : X.meth.sig.returnType = none) (hnh : X.c.exceptionTable.isEmpty = true) (hin : X.meth.name = "readMarkup") : xAll X (tb_So_readMarkup X) := by
  refine xA (ok_aload_n hC (show decode prog_9_method_3_code 0 = .ok (.aload_n 1, 1) by decide +kernel) rfl) ?_
  refine xA (ok_callV hC hnh (show decode prog_9_method_3_code 1 = .ok (.invokevirtual 60, 3) by decide +kernel) (by decide) (by decide) (by decide) (r0 := ("StyleCourt$Reader", xF1, 3)) rfl ⟨by decide, by decide, by decide +kernel⟩ w_574 w_70 w_579 w_572 w_573) ?_
  refine xA (ok_istore_n hC (show decode prog_9_method_3_code 4 = .ok (.istore_n 3, 1) by decide +kernel) rfl (by decide)) ?_
  refine xA (ok_iload_n hC (show decode prog_9_method_3_code 5 = .ok (.iload_n 3, 1) by decide +kernel) rfl) ?_
  refine xA (ok_bipush hC (show decode prog_9_method_3_code 6 = .ok (.bipush 47, 2) by decide +kernel) (by decide)) ?_
  refine xA (ok_icne hC (show decode prog_9_method_3_code 8 = .ok (.if_icmp .ne 11, 3) by decide +kernel) (by decide)) ?_
  refine xA (ok_aload_n hC (show decode prog_9_method_3_code 11 = .ok (.aload_n 0, 1) by decide +kernel) rfl) ?_
  refine xA (ok_aload_n hC (show decode prog_9_method_3_code 12 = .ok (.aload_n 1, 1) by decide +kernel) rfl) ?_
  refine xA (ok_callV hC hnh (show decode prog_9_method_3_code 13 = .ok (.invokevirtual 75, 3) by decide +kernel) (by decide) (by decide) (by decide) (r0 := ("StyleCourt$Source", xF5, 5)) rfl ⟨by decide, by decide, by decide +kernel⟩ w_587 w_74 w_584 w_586 w_7) ?_
  refine xA (ok_goto hC (show decode prog_9_method_3_code 16 = .ok (.goto 65, 3) by decide +kernel) (by decide)) ?_
  refine xA (ok_iload_n hC (show decode prog_9_method_3_code 19 = .ok (.iload_n 3, 1) by decide +kernel) rfl) ?_
  refine xA (ok_bipush hC (show decode prog_9_method_3_code 20 = .ok (.bipush 33, 2) by decide +kernel) (by decide)) ?_
  refine xA (ok_iceq hC (show decode prog_9_method_3_code 22 = .ok (.if_icmp .eq 12, 3) by decide +kernel) (by decide)) ?_
  refine xA (ok_aload_n hC (show decode prog_9_method_3_code 25 = .ok (.aload_n 0, 1) by decide +kernel) rfl) ?_
  refine xA (ok_aload_n hC (show decode prog_9_method_3_code 26 = .ok (.aload_n 1, 1) by decide +kernel) rfl) ?_
  refine xA (ok_iload_n hC (show decode prog_9_method_3_code 27 = .ok (.iload_n 2, 1) by decide +kernel) rfl) ?_
  refine xA (ok_callV hC hnh (show decode prog_9_method_3_code 28 = .ok (.invokevirtual 78, 3) by decide +kernel) (by decide) (by decide) (by decide) (r0 := ("StyleCourt$Source", xF5, 5)) rfl ⟨by decide, by decide, by decide +kernel⟩ w_648 w_74 w_645 w_647 w_9) ?_
  refine xA (ok_goto hC (show decode prog_9_method_3_code 31 = .ok (.goto 50, 3) by decide +kernel) (by decide)) ?_
  refine xA (ok_aload_n hC (show decode prog_9_method_3_code 34 = .ok (.aload_n 1, 1) by decide +kernel) rfl) ?_
  refine xA (ok_dup hC (show decode prog_9_method_3_code 35 = .ok (.dup, 1) by decide +kernel)) ?_
  refine xA (ok_get hC (show decode prog_9_method_3_code 36 = .ok (.getfield 54, 3) by decide +kernel) (by decide) (r0 := ("StyleCourt$Reader", xF1, 3)) rfl (by decide) rfl w_136) ?_
  refine xA (ok_iconst hC (show decode prog_9_method_3_code 39 = .ok (.iconst 1, 1) by decide +kernel) (by decide)) ?_
  refine xA (ok_iadd hC (show decode prog_9_method_3_code 40 = .ok (.iadd, 1) by decide +kernel)) ?_
  refine xA (ok_put hC (show decode prog_9_method_3_code 41 = .ok (.putfield 54, 3) by decide +kernel) (by decide) (r0 := ("StyleCourt$Reader", xF1, 3)) rfl (by decide) rfl (by decide +kernel) w_136) ?_
  refine xA (ok_aload_n hC (show decode prog_9_method_3_code 44 = .ok (.aload_n 1, 1) by decide +kernel) rfl) ?_
  refine xA (ok_callV hC hnh (show decode prog_9_method_3_code 45 = .ok (.invokevirtual 60, 3) by decide +kernel) (by decide) (by decide) (by decide) (r0 := ("StyleCourt$Reader", xF1, 3)) rfl ⟨by decide, by decide, by decide +kernel⟩ w_574 w_70 w_579 w_572 w_573) ?_
  refine xA (ok_bipush hC (show decode prog_9_method_3_code 48 = .ok (.bipush 45, 2) by decide +kernel) (by decide)) ?_
  refine xA (ok_icne hC (show decode prog_9_method_3_code 50 = .ok (.if_icmp .ne 26, 3) by decide +kernel) (by decide)) ?_
  refine xA (ok_aload_n hC (show decode prog_9_method_3_code 53 = .ok (.aload_n 1, 1) by decide +kernel) rfl) ?_
  refine xA (ok_dup hC (show decode prog_9_method_3_code 54 = .ok (.dup, 1) by decide +kernel)) ?_
  refine xA (ok_get hC (show decode prog_9_method_3_code 55 = .ok (.getfield 54, 3) by decide +kernel) (by decide) (r0 := ("StyleCourt$Reader", xF1, 3)) rfl (by decide) rfl w_136) ?_
  refine xA (ok_iconst hC (show decode prog_9_method_3_code 58 = .ok (.iconst 1, 1) by decide +kernel) (by decide)) ?_
  refine xA (ok_iadd hC (show decode prog_9_method_3_code 59 = .ok (.iadd, 1) by decide +kernel)) ?_
  refine xA (ok_put hC (show decode prog_9_method_3_code 60 = .ok (.putfield 54, 3) by decide +kernel) (by decide) (r0 := ("StyleCourt$Reader", xF1, 3)) rfl (by decide) rfl (by decide +kernel) w_136) ?_
  refine xA (ok_aload_n hC (show decode prog_9_method_3_code 63 = .ok (.aload_n 1, 1) by decide +kernel) rfl) ?_
  refine xA (ok_bipush hC (show decode prog_9_method_3_code 64 = .ok (.bipush 45, 2) by decide +kernel) (by decide)) ?_
  refine xA (ok_callV hC hnh (show decode prog_9_method_3_code 66 = .ok (.invokevirtual 81, 3) by decide +kernel) (by decide) (by decide) (by decide) (r0 := ("StyleCourt$Reader", xF1, 3)) rfl ⟨by decide, by decide, by decide +kernel⟩ w_685 w_70 w_682 w_683 w_684) ?_
  refine xA (ok_aload_n hC (show decode prog_9_method_3_code 69 = .ok (.aload_n 1, 1) by decide +kernel) rfl) ?_
  refine xA (ok_callV hC hnh (show decode prog_9_method_3_code 70 = .ok (.invokevirtual 85, 3) by decide +kernel) (by decide) (by decide) (by decide) (r0 := ("StyleCourt$Reader", xF1, 3)) rfl ⟨by decide, by decide, by decide +kernel⟩ w_689 w_70 w_686 w_687 w_688) ?_
  refine xA (ok_goto hC (show decode prog_9_method_3_code 73 = .ok (.goto 8, 3) by decide +kernel) (by decide)) ?_
  refine xA (ok_aload_n hC (show decode prog_9_method_3_code 76 = .ok (.aload_n 0, 1) by decide +kernel) rfl) ?_
  refine xA (ok_aload_n hC (show decode prog_9_method_3_code 77 = .ok (.aload_n 1, 1) by decide +kernel) rfl) ?_
  refine xA (ok_callV hC hnh (show decode prog_9_method_3_code 78 = .ok (.invokevirtual 88, 3) by decide +kernel) (by decide) (by decide) (by decide) (r0 := ("StyleCourt$Source", xF5, 5)) rfl ⟨by decide, by decide, by decide +kernel⟩ w_697 w_74 w_694 w_696 w_12) ?_
  refine xA (ok_vret hC hr (show decode prog_9_method_3_code 81 = .ok (.return_, 1) by decide +kernel)) ?_
  exact trivial

def tb_So_readEndOfElement (X : xX) : List (Nat × xOp) := [(0, o_ald 0 1),
  (1, o_get 5 4 4),
  (4, o_ald 0 5),
  (5, o_get 5 3 8),
  (8, o_acm 11 19),
  (11, o_ald 1 12),
  (12, o_ald 1 13),
  (13, o_get 1 1 16),
  (16, o_callV X.l X.D X.P 1 6 2 y_Rd_failAt 19),
  (19, o_ald 1 20),
  (20, o_dup 21),
  (21, o_get 1 1 24),
  (24, o_ic 1 25),
  (25, o_iadd 26),
  (26, o_put 1 1 (.int) 29),
  (29, o_ald 1 30),
  (30, o_callV X.l X.D X.P 1 7 1 y_Rd_readName 33),
  (33, o_ast 2 34),
  (34, o_ald 2 35),
  (35, o_ald 0 36),
  (36, o_get 5 4 39),
  (39, o_get 4 0 42),
  (42, o_callV X.l X.D X.P 2 0 2 y_Sl_sameAs 45),
  (45, o_ifne 56 48),
  (48, o_ald 1 49),
  (49, o_ald 2 50),
  (50, o_get 2 1 53),
  (53, o_callV X.l X.D X.P 1 6 2 y_Rd_failAt 56),
  (56, o_ald 1 57),
  (57, o_ic 62 59),
  (59, o_callV X.l X.D X.P 1 7 2 y_Rd_expectSign 62),
  (62, o_ald 0 63),
  (63, o_ald 0 64),
  (64, o_get 5 4 67),
  (67, o_ald 1 68),
  (68, o_get 1 1 71),
  (71, o_callV X.l X.D X.P 5 1 3 y_So_finish 74),
  (74, o_ald 0 75),
  (75, o_ald 0 76),
  (76, o_get 5 4 79),
  (79, o_get 4 1 82),
  (82, o_nul 85 92),
  (85, o_ald 0 86),
  (86, o_get 5 3 89),
  (89, o_goto 99),
  (92, o_ald 0 93),
  (93, o_get 5 4 96),
  (96, o_get 4 1 99),
  (99, o_put 5 4 (.object "StyleCourt$Element") 102),
  (102, o_vret X.P)]
theorem tk_So_readEndOfElement {X : xX} (hC : xCx X prog_9_method_11_code "StyleCourt$Source" 3 8) (hr : X.meth.sig.returnType = none) (hnh : X.c.exceptionTable.isEmpty = true) (hin : X.meth.name = "readEndOfElement") : xAll X (tb_So_readEndOfElement X) := by
  refine xA (ok_aload_n hC (show decode prog_9_method_11_code 0 = .ok (.aload_n 0, 1) by decide +kernel) rfl) ?_
  refine xA (ok_get hC (show decode prog_9_method_11_code 1 = .ok (.getfield 42, 3) by decide +kernel) (by decide) (r0 := ("StyleCourt$Source", xF5, 5)) rfl (by decide) rfl w_377) ?_
  refine xA (ok_aload_n hC (show decode prog_9_method_11_code 4 = .ok (.aload_n 0, 1) by decide +kernel) rfl) ?_
  refine xA (ok_get hC (show decode prog_9_method_11_code 5 = .ok (.getfield 38, 3) by decide +kernel) (by decide) (r0 := ("StyleCourt$Source", xF5, 5)) rfl (by decide) rfl w_375) ?_
  refine xA (ok_acmpne hC (show decode prog_9_method_11_code 8 = .ok (.if_acmp .ne 11, 3) by decide +kernel) (by decide)) ?_
  refine xA (ok_aload_n hC (show decode prog_9_method_11_code 11 = .ok (.aload_n 1, 1) by decide +kernel) rfl) ?_
  refine xA (ok_aload_n hC (show decode prog_9_method_11_code 12 = .ok (.aload_n 1, 1) by decide +kernel) rfl) ?_
  refine xA (ok_get hC (show decode prog_9_method_11_code 13 = .ok (.getfield 54, 3) by decide +kernel) (by decide) (r0 := ("StyleCourt$Reader", xF1, 3)) rfl (by decide) rfl w_136) ?_
  refine xA (ok_callV hC hnh (show decode prog_9_method_11_code 16 = .ok (.invokevirtual 98, 3) by decide +kernel) (by decide) (by decide) (by decide) (r0 := ("StyleCourt$Reader", xF1, 3)) rfl ⟨by decide, by decide, by decide +kernel⟩ w_591 w_70 w_588 w_589 w_590) ?_
  refine xA (ok_aload_n hC (show decode prog_9_method_11_code 19 = .ok (.aload_n 1, 1) by decide +kernel) rfl) ?_
  refine xA (ok_dup hC (show decode prog_9_method_11_code 20 = .ok (.dup, 1) by decide +kernel)) ?_
  refine xA (ok_get hC (show decode prog_9_method_11_code 21 = .ok (.getfield 54, 3) by decide +kernel) (by decide) (r0 := ("StyleCourt$Reader", xF1, 3)) rfl (by decide) rfl w_136) ?_
  refine xA (ok_iconst hC (show decode prog_9_method_11_code 24 = .ok (.iconst 1, 1) by decide +kernel) (by decide)) ?_
  refine xA (ok_iadd hC (show decode prog_9_method_11_code 25 = .ok (.iadd, 1) by decide +kernel)) ?_
  refine xA (ok_put hC (show decode prog_9_method_11_code 26 = .ok (.putfield 54, 3) by decide +kernel) (by decide) (r0 := ("StyleCourt$Reader", xF1, 3)) rfl (by decide) rfl (by decide +kernel) w_136) ?_
  refine xA (ok_aload_n hC (show decode prog_9_method_11_code 29 = .ok (.aload_n 1, 1) by decide +kernel) rfl) ?_
  refine xA (ok_callV hC hnh (show decode prog_9_method_11_code 30 = .ok (.invokevirtual 109, 3) by decide +kernel) (by decide) (by decide) (by decide) (r0 := ("StyleCourt$Reader", xF1, 3)) rfl ⟨by decide, by decide, by decide +kernel⟩ w_611 w_70 w_608 w_609 w_610) ?_
  refine xA (ok_astore_n hC (show decode prog_9_method_11_code 33 = .ok (.astore_n 2, 1) by decide +kernel) rfl (by decide)) ?_
  refine xA (ok_aload_n hC (show decode prog_9_method_11_code 34 = .ok (.aload_n 2, 1) by decide +kernel) rfl) ?_
  refine xA (ok_aload_n hC (show decode prog_9_method_11_code 35 = .ok (.aload_n 0, 1) by decide +kernel) rfl) ?_
  refine xA (ok_get hC (show decode prog_9_method_11_code 36 = .ok (.getfield 42, 3) by decide +kernel) (by decide) (r0 := ("StyleCourt$Source", xF5, 5)) rfl (by decide) rfl w_377) ?_
  refine xA (ok_get hC (show decode prog_9_method_11_code 39 = .ok (.getfield 178, 3) by decide +kernel) (by decide) (r0 := ("StyleCourt$Element", xF4, 15)) rfl (by decide) rfl w_219) ?_
  refine xA (ok_callV hC hnh (show decode prog_9_method_11_code 42 = .ok (.invokevirtual 181, 3) by decide +kernel) (by decide) (by decide) (by decide) (r0 := ("StyleCourt$Slice", xF2, 3)) rfl ⟨by decide, by decide, by decide +kernel⟩ w_625 w_79 w_622 w_623 w_624) ?_
  refine xA (ok_ifne hC (show decode prog_9_method_11_code 45 = .ok (.ifCond .ne 11, 3) by decide +kernel) (by decide)) ?_
  refine xA (ok_aload_n hC (show decode prog_9_method_11_code 48 = .ok (.aload_n 1, 1) by decide +kernel) rfl) ?_
  refine xA (ok_aload_n hC (show decode prog_9_method_11_code 49 = .ok (.aload_n 2, 1) by decide +kernel) rfl) ?_
  refine xA (ok_get hC (show decode prog_9_method_11_code 50 = .ok (.getfield 117, 3) by decide +kernel) (by decide) (r0 := ("StyleCourt$Slice", xF2, 3)) rfl (by decide) rfl w_199) ?_
  refine xA (ok_callV hC hnh (show decode prog_9_method_11_code 53 = .ok (.invokevirtual 98, 3) by decide +kernel) (by decide) (by decide) (by decide) (r0 := ("StyleCourt$Reader", xF1, 3)) rfl ⟨by decide, by decide, by decide +kernel⟩ w_591 w_70 w_588 w_589 w_590) ?_
  refine xA (ok_aload_n hC (show decode prog_9_method_11_code 56 = .ok (.aload_n 1, 1) by decide +kernel) rfl) ?_
  refine xA (ok_bipush hC (show decode prog_9_method_11_code 57 = .ok (.bipush 62, 2) by decide +kernel) (by decide)) ?_
  refine xA (ok_callV hC hnh (show decode prog_9_method_11_code 59 = .ok (.invokevirtual 143, 3) by decide +kernel) (by decide) (by decide) (by decide) (r0 := ("StyleCourt$Reader", xF1, 3)) rfl ⟨by decide, by decide, by decide +kernel⟩ w_629 w_70 w_626 w_627 w_628) ?_
  refine xA (ok_aload_n hC (show decode prog_9_method_11_code 62 = .ok (.aload_n 0, 1) by decide +kernel) rfl) ?_
  refine xA (ok_aload_n hC (show decode prog_9_method_11_code 63 = .ok (.aload_n 0, 1) by decide +kernel) rfl) ?_
  refine xA (ok_get hC (show decode prog_9_method_11_code 64 = .ok (.getfield 42, 3) by decide +kernel) (by decide) (r0 := ("StyleCourt$Source", xF5, 5)) rfl (by decide) rfl w_377) ?_
  refine xA (ok_aload_n hC (show decode prog_9_method_11_code 67 = .ok (.aload_n 1, 1) by decide +kernel) rfl) ?_
  refine xA (ok_get hC (show decode prog_9_method_11_code 68 = .ok (.getfield 54, 3) by decide +kernel) (by decide) (r0 := ("StyleCourt$Reader", xF1, 3)) rfl (by decide) rfl w_136) ?_
  refine xA (ok_callV hC hnh (show decode prog_9_method_11_code 71 = .ok (.invokevirtual 168, 3) by decide +kernel) (by decide) (by decide) (by decide) (r0 := ("StyleCourt$Source", xF5, 5)) rfl ⟨by decide, by decide, by decide +kernel⟩ w_640 w_74 w_637 w_639 w_8) ?_
  refine xA (ok_aload_n hC (show decode prog_9_method_11_code 74 = .ok (.aload_n 0, 1) by decide +kernel) rfl) ?_
  refine xA (ok_aload_n hC (show decode prog_9_method_11_code 75 = .ok (.aload_n 0, 1) by decide +kernel) rfl) ?_
  refine xA (ok_get hC (show decode prog_9_method_11_code 76 = .ok (.getfield 42, 3) by decide +kernel) (by decide) (r0 := ("StyleCourt$Source", xF5, 5)) rfl (by decide) rfl w_377) ?_
  refine xA (ok_get hC (show decode prog_9_method_11_code 79 = .ok (.getfield 185, 3) by decide +kernel) (by decide) (r0 := ("StyleCourt$Element", xF4, 15)) rfl (by decide) rfl w_225) ?_
  refine xA (ok_ifnonnull hC (show decode prog_9_method_11_code 82 = .ok (.ifnonnull 10, 3) by decide +kernel) (by decide)) ?_
  refine xA (ok_aload_n hC (show decode prog_9_method_11_code 85 = .ok (.aload_n 0, 1) by decide +kernel) rfl) ?_
  refine xA (ok_get hC (show decode prog_9_method_11_code 86 = .ok (.getfield 38, 3) by decide +kernel) (by decide) (r0 := ("StyleCourt$Source", xF5, 5)) rfl (by decide) rfl w_375) ?_
  refine xA (ok_goto hC (show decode prog_9_method_11_code 89 = .ok (.goto 10, 3) by decide +kernel) (by decide)) ?_
  refine xA (ok_aload_n hC (show decode prog_9_method_11_code 92 = .ok (.aload_n 0, 1) by decide +kernel) rfl) ?_
  refine xA (ok_get hC (show decode prog_9_method_11_code 93 = .ok (.getfield 42, 3) by decide +kernel) (by decide) (r0 := ("StyleCourt$Source", xF5, 5)) rfl (by decide) rfl w_377) ?_
  refine xA (ok_get hC (show decode prog_9_method_11_code 96 = .ok (.getfield 185, 3) by decide +kernel) (by decide) (r0 := ("StyleCourt$Element", xF4, 15)) rfl (by decide) rfl w_225) ?_
  refine xA (ok_put hC (show decode prog_9_method_11_code 99 = .ok (.putfield 42, 3) by decide +kernel) (by decide) (r0 := ("StyleCourt$Source", xF5, 5)) rfl (by decide) rfl (by decide +kernel) w_377) ?_
  refine xA (ok_vret hC hr (show decode prog_9_method_11_code 102 = .ok (.return_, 1) by decide +kernel)) ?_
  exact trivial

def tb_So_finish (X : xX) : List (Nat × xOp) := [(0, o_ald 1 1),
  (1, o_ild 2 2),
  (2, o_put 4 12 (.int) 5),
  (5, o_ald 1 6),
  (6, o_ald 0 7),
  (7, o_get 5 1 10),
  (10, o_callV X.l X.D X.P 12 0 1 y_AL_size 13),
  (13, o_put 4 14 (.int) 16),
  (16, o_vret X.P)]
theorem tk_So_finish {X : xX} (hC : xCx X prog_9_method_12_code "StyleCourt$Source" 3 1) (hr : X.meth.sig.returnType = none) (hnh : X.c.exceptionTable.isEmpty = true) (hin : X.meth.name = "finish") : xAll X (tb_So_finish X) := by
  refine xA (ok_aload_n hC (show decode prog_9_method_12_code 0 = .ok (.aload_n 1, 1) by decide +kernel) rfl) ?_
  refine xA (ok_iload_n hC (show decode prog_9_method_12_code 1 = .ok (.iload_n 2, 1) by decide +kernel) rfl) ?_
  refine xA (ok_put hC (show decode prog_9_method_12_code 2 = .ok (.putfield 188, 3) by decide +kernel) (by decide) (r0 := ("StyleCourt$Element", xF4, 15)) rfl (by decide) rfl (by decide +kernel) w_256) ?_
  refine xA (ok_aload_n hC (show decode prog_9_method_12_code 5 = .ok (.aload_n 1, 1) by decide +kernel) rfl) ?_
  refine xA (ok_aload_n hC (show decode prog_9_method_12_code 6 = .ok (.aload_n 0, 1) by decide +kernel) rfl) ?_
  refine xA (ok_get hC (show decode prog_9_method_12_code 7 = .ok (.getfield 18, 3) by decide +kernel) (by decide) (r0 := ("StyleCourt$Source", xF5, 5)) rfl (by decide) rfl w_372) ?_
  refine xA (ok_callV hC hnh (show decode prog_9_method_12_code 10 = .ok (.invokevirtual 131, 3) by decide +kernel) (by decide) (by decide) (by decide) (r0 := ("java/util/ArrayList", xF12, 3)) rfl ⟨by decide, by decide, by decide +kernel⟩ w_644 w_77 w_641 w_642 w_643) ?_
  refine xA (ok_put hC (show decode prog_9_method_12_code 13 = .ok (.putfield 191, 3) by decide +kernel) (by decide) (r0 := ("StyleCourt$Element", xF4, 15)) rfl (by decide) rfl (by decide +kernel) w_262) ?_
  refine xA (ok_vret hC hr (show decode prog_9_method_12_code 16 = .ok (.return_, 1) by decide +kernel)) ?_
  exact trivial

def tb_So_readBeginOfElement (X : xX) : List (Nat × xOp) := [(0, o_ald 1 1),
  (1, o_callV X.l X.D X.P 1 7 1 y_Rd_readName 4),
  (4, o_ast 3 5),
  (5, o_new 4 15 [.null, .null, .null, .int 0, .int 0, .int 0, .int 0, .null, .null, .int 0, .int 0, .int 0, .int 0, .int 0, .int 0] 8),
  (8, o_dup 9),
  (9, o_ald 3 10),
  (10, o_ald 0 11),
  (11, o_get 5 4 14),
  (14, o_ald 0 15),
  (15, o_get 5 0 18),
  (18, o_callV X.l X.D X.P 12 0 1 y_AL_size 21),
  (21, o_ild 2 22),
  (22, o_callI X.l X.D X.P 4 5 y_El_init 25),
  (25, o_ast 4 27),
  (27, o_ald 0 28),
  (28, o_get 5 0 31),
  (31, o_callV X.l X.D X.P 12 0 1 y_AL_size 34),
  (34, o_ic 500 37),
  (37, o_icge 50 40),
  (40, o_ald 4 42),
  (42, o_get 4 5 45),
  (45, o_ic 20 47),
  (47, o_iclt 58 50),
  (50, o_ald 1 51),
  (51, o_ald 3 52),
  (52, o_get 2 1 55),
  (55, o_callV X.l X.D X.P 1 6 2 y_Rd_failAt 58),
  (58, o_ald 0 59),
  (59, o_ald 1 60),
  (60, o_ald 4 62),
  (62, o_callV X.l X.D X.P 5 8 3 y_So_readFields 65),
  (65, o_ald 0 66),
  (66, o_get 5 0 69),
  (69, o_ald 4 71),
  (71, o_callV X.l X.D X.P 12 6 2 y_AL_add 74),
  (74, o_pop 75),
  (75, o_ald 4 77),
  (77, o_ald 0 78),
  (78, o_get 5 1 81),
  (81, o_callV X.l X.D X.P 12 0 1 y_AL_size 84),
  (84, o_put 4 13 (.int) 87),
  (87, o_ald 0 88),
  (88, o_get 5 4 91),
  (91, o_ald 4 93),
  (93, o_put 4 8 (.object "StyleCourt$Element") 96),
  (96, o_ald 0 97),
  (97, o_get 5 4 100),
  (100, o_dup 101),
  (101, o_get 4 9 104),
  (104, o_ic 1 105),
  (105, o_iadd 106),
  (106, o_put 4 9 (.int) 109),
  (109, o_ald 4 111),
  (111, o_get 4 2 114),
  (114, o_nul 126 117),
  (117, o_ald 4 119),
  (119, o_get 4 2 122),
  (122, o_ic 1 123),
  (123, o_put 4 10 (.boolean) 126),
  (126, o_ald 1 127),
  (127, o_callV X.l X.D X.P 1 1 1 y_Rd_nextSign 130),
  (130, o_ic 47 132),
  (132, o_icne 164 135),
  (135, o_ald 1 136),
  (136, o_dup 137),
  (137, o_get 1 1 140),
  (140, o_ic 1 141),
  (141, o_iadd 142),
  (142, o_put 1 1 (.int) 145),
  (145, o_ald 1 146),
  (146, o_ic 62 148),
  (148, o_callV X.l X.D X.P 1 7 2 y_Rd_expectSign 151),
  (151, o_ald 0 152),
  (152, o_ald 4 154),
  (154, o_ald 1 155),
  (155, o_get 1 1 158),
  (158, o_callV X.l X.D X.P 5 1 3 y_So_finish 161),
  (161, o_goto 176),
  (164, o_ald 1 165),
  (165, o_ic 62 167),
  (167, o_callV X.l X.D X.P 1 7 2 y_Rd_expectSign 170),
  (170, o_ald 0 171),
  (171, o_ald 4 173),
  (173, o_put 5 4 (.object "StyleCourt$Element") 176),
  (176, o_vret X.P)]
theorem tk_So_readBeginOfElement {X : xX} (hC : xCx X prog_9_method_9_code "StyleCourt$Source" 5 9) (hr : X.meth.sig.returnType = none) (hnh : X.c.exceptionTable.isEmpty = true) (hin : X.meth.name = "readBeginOfElement") : xAll X (tb_So_readBeginOfElement X) := by
  refine xA (ok_aload_n hC (show decode prog_9_method_9_code 0 = .ok (.aload_n 1, 1) by decide +kernel) rfl) ?_
  refine xA (ok_callV hC hnh (show decode prog_9_method_9_code 1 = .ok (.invokevirtual 109, 3) by decide +kernel) (by decide) (by decide) (by decide) (r0 := ("StyleCourt$Reader", xF1, 3)) rfl ⟨by decide, by decide, by decide +kernel⟩ w_611 w_70 w_608 w_609 w_610) ?_
  refine xA (ok_astore_n hC (show decode prog_9_method_9_code 4 = .ok (.astore_n 3, 1) by decide +kernel) rfl (by decide)) ?_
  refine xA (ok_new hC (show decode prog_9_method_9_code 5 = .ok (.new 24, 3) by decide +kernel) (by decide) (r0 := ("StyleCourt$Element", xF4, 15)) rfl (by decide) w_186 w_187 w_78) ?_
  refine xA (ok_dup hC (show decode prog_9_method_9_code 8 = .ok (.dup, 1) by decide +kernel)) ?_
  refine xA (ok_aload_n hC (show decode prog_9_method_9_code 9 = .ok (.aload_n 3, 1) by decide +kernel) rfl) ?_
  refine xA (ok_aload_n hC (show decode prog_9_method_9_code 10 = .ok (.aload_n 0, 1) by decide +kernel) rfl) ?_
  refine xA (ok_get hC (show decode prog_9_method_9_code 11 = .ok (.getfield 42, 3) by decide +kernel) (by decide) (r0 := ("StyleCourt$Source", xF5, 5)) rfl (by decide) rfl w_377) ?_
  refine xA (ok_aload_n hC (show decode prog_9_method_9_code 14 = .ok (.aload_n 0, 1) by decide +kernel) rfl) ?_
  refine xA (ok_get hC (show decode prog_9_method_9_code 15 = .ok (.getfield 12, 3) by decide +kernel) (by decide) (r0 := ("StyleCourt$Source", xF5, 5)) rfl (by decide) rfl w_370) ?_
  refine xA (ok_callV hC hnh (show decode prog_9_method_9_code 18 = .ok (.invokevirtual 131, 3) by decide +kernel) (by decide) (by decide) (by decide) (r0 := ("java/util/ArrayList", xF12, 3)) rfl ⟨by decide, by decide, by decide +kernel⟩ w_644 w_77 w_641 w_642 w_643) ?_
  refine xA (ok_iload_n hC (show decode prog_9_method_9_code 21 = .ok (.iload_n 2, 1) by decide +kernel) rfl) ?_
  refine xA (ok_callI hC hnh (show decode prog_9_method_9_code 22 = .ok (.invokespecial 35, 3) by decide +kernel) (by decide) (by decide) ⟨by decide, by decide, by decide +kernel⟩ rfl w_212 w_78 w_210 w_211) ?_
  refine xA (ok_astore hC (show decode prog_9_method_9_code 25 = .ok (.astore 4, 2) by decide +kernel) (by decide)) ?_
  refine xA (ok_aload_n hC (show decode prog_9_method_9_code 27 = .ok (.aload_n 0, 1) by decide +kernel) rfl) ?_
  refine xA (ok_get hC (show decode prog_9_method_9_code 28 = .ok (.getfield 12, 3) by decide +kernel) (by decide) (r0 := ("StyleCourt$Source", xF5, 5)) rfl (by decide) rfl w_370) ?_
  refine xA (ok_callV hC hnh (show decode prog_9_method_9_code 31 = .ok (.invokevirtual 131, 3) by decide +kernel) (by decide) (by decide) (by decide) (r0 := ("java/util/ArrayList", xF12, 3)) rfl ⟨by decide, by decide, by decide +kernel⟩ w_644 w_77 w_641 w_642 w_643) ?_
  refine xA (ok_sipush hC (show decode prog_9_method_9_code 34 = .ok (.sipush 500, 3) by decide +kernel) (by decide)) ?_
  refine xA (ok_icge hC (show decode prog_9_method_9_code 37 = .ok (.if_icmp .ge 13, 3) by decide +kernel) (by decide)) ?_
  refine xA (ok_aload hC (show decode prog_9_method_9_code 40 = .ok (.aload 4, 2) by decide +kernel)) ?_
  refine xA (ok_get hC (show decode prog_9_method_9_code 42 = .ok (.getfield 146, 3) by decide +kernel) (by decide) (r0 := ("StyleCourt$Element", xF4, 15)) rfl (by decide) rfl w_237) ?_
  refine xA (ok_bipush hC (show decode prog_9_method_9_code 45 = .ok (.bipush 20, 2) by decide +kernel) (by decide)) ?_
  refine xA (ok_iclt hC (show decode prog_9_method_9_code 47 = .ok (.if_icmp .lt 11, 3) by decide +kernel) (by decide)) ?_
  refine xA (ok_aload_n hC (show decode prog_9_method_9_code 50 = .ok (.aload_n 1, 1) by decide +kernel) rfl) ?_
  refine xA (ok_aload_n hC (show decode prog_9_method_9_code 51 = .ok (.aload_n 3, 1) by decide +kernel) rfl) ?_
  refine xA (ok_get hC (show decode prog_9_method_9_code 52 = .ok (.getfield 117, 3) by decide +kernel) (by decide) (r0 := ("StyleCourt$Slice", xF2, 3)) rfl (by decide) rfl w_199) ?_
  refine xA (ok_callV hC hnh (show decode prog_9_method_9_code 55 = .ok (.invokevirtual 98, 3) by decide +kernel) (by decide) (by decide) (by decide) (r0 := ("StyleCourt$Reader", xF1, 3)) rfl ⟨by decide, by decide, by decide +kernel⟩ w_591 w_70 w_588 w_589 w_590) ?_
  refine xA (ok_aload_n hC (show decode prog_9_method_9_code 58 = .ok (.aload_n 0, 1) by decide +kernel) rfl) ?_
  refine xA (ok_aload_n hC (show decode prog_9_method_9_code 59 = .ok (.aload_n 1, 1) by decide +kernel) rfl) ?_
  refine xA (ok_aload hC (show decode prog_9_method_9_code 60 = .ok (.aload 4, 2) by decide +kernel)) ?_
  refine xA (ok_callV hC hnh (show decode prog_9_method_9_code 62 = .ok (.invokevirtual 149, 3) by decide +kernel) (by decide) (by decide) (by decide) (r0 := ("StyleCourt$Source", xF5, 5)) rfl ⟨by decide, by decide, by decide +kernel⟩ w_652 w_74 w_649 w_651 w_10) ?_
  refine xA (ok_aload_n hC (show decode prog_9_method_9_code 65 = .ok (.aload_n 0, 1) by decide +kernel) rfl) ?_
  refine xA (ok_get hC (show decode prog_9_method_9_code 66 = .ok (.getfield 12, 3) by decide +kernel) (by decide) (r0 := ("StyleCourt$Source", xF5, 5)) rfl (by decide) rfl w_370) ?_
  refine xA (ok_aload hC (show decode prog_9_method_9_code 69 = .ok (.aload 4, 2) by decide +kernel)) ?_
  refine xA (ok_callV hC hnh (show decode prog_9_method_9_code 71 = .ok (.invokevirtual 50, 3) by decide +kernel) (by decide) (by decide) (by decide) (r0 := ("java/util/ArrayList", xF12, 3)) rfl ⟨by decide, by decide, by decide +kernel⟩ w_315 w_77 w_312 w_313 w_314) ?_
  refine xA (ok_pop hC (show decode prog_9_method_9_code 74 = .ok (.pop, 1) by decide +kernel)) ?_
  refine xA (ok_aload hC (show decode prog_9_method_9_code 75 = .ok (.aload 4, 2) by decide +kernel)) ?_
  refine xA (ok_aload_n hC (show decode prog_9_method_9_code 77 = .ok (.aload_n 0, 1) by decide +kernel) rfl) ?_
  refine xA (ok_get hC (show decode prog_9_method_9_code 78 = .ok (.getfield 18, 3) by decide +kernel) (by decide) (r0 := ("StyleCourt$Source", xF5, 5)) rfl (by decide) rfl w_372) ?_
  refine xA (ok_callV hC hnh (show decode prog_9_method_9_code 81 = .ok (.invokevirtual 131, 3) by decide +kernel) (by decide) (by decide) (by decide) (r0 := ("java/util/ArrayList", xF12, 3)) rfl ⟨by decide, by decide, by decide +kernel⟩ w_644 w_77 w_641 w_642 w_643) ?_
  refine xA (ok_put hC (show decode prog_9_method_9_code 84 = .ok (.putfield 153, 3) by decide +kernel) (by decide) (r0 := ("StyleCourt$Element", xF4, 15)) rfl (by decide) rfl (by decide +kernel) w_259) ?_
  refine xA (ok_aload_n hC (show decode prog_9_method_9_code 87 = .ok (.aload_n 0, 1) by decide +kernel) rfl) ?_
  refine xA (ok_get hC (show decode prog_9_method_9_code 88 = .ok (.getfield 42, 3) by decide +kernel) (by decide) (r0 := ("StyleCourt$Source", xF5, 5)) rfl (by decide) rfl w_377) ?_
  refine xA (ok_aload hC (show decode prog_9_method_9_code 91 = .ok (.aload 4, 2) by decide +kernel)) ?_
  refine xA (ok_put hC (show decode prog_9_method_9_code 93 = .ok (.putfield 156, 3) by decide +kernel) (by decide) (r0 := ("StyleCourt$Element", xF4, 15)) rfl (by decide) rfl (by decide +kernel) w_246) ?_
  refine xA (ok_aload_n hC (show decode prog_9_method_9_code 96 = .ok (.aload_n 0, 1) by decide +kernel) rfl) ?_
  refine xA (ok_get hC (show decode prog_9_method_9_code 97 = .ok (.getfield 42, 3) by decide +kernel) (by decide) (r0 := ("StyleCourt$Source", xF5, 5)) rfl (by decide) rfl w_377) ?_
  refine xA (ok_dup hC (show decode prog_9_method_9_code 100 = .ok (.dup, 1) by decide +kernel)) ?_
  refine xA (ok_get hC (show decode prog_9_method_9_code 101 = .ok (.getfield 159, 3) by decide +kernel) (by decide) (r0 := ("StyleCourt$Element", xF4, 15)) rfl (by decide) rfl w_248) ?_
  refine xA (ok_iconst hC (show decode prog_9_method_9_code 104 = .ok (.iconst 1, 1) by decide +kernel) (by decide)) ?_
  refine xA (ok_iadd hC (show decode prog_9_method_9_code 105 = .ok (.iadd, 1) by decide +kernel)) ?_
  refine xA (ok_put hC (show decode prog_9_method_9_code 106 = .ok (.putfield 159, 3) by decide +kernel) (by decide) (r0 := ("StyleCourt$Element", xF4, 15)) rfl (by decide) rfl (by decide +kernel) w_248) ?_
  refine xA (ok_aload hC (show decode prog_9_method_9_code 109 = .ok (.aload 4, 2) by decide +kernel)) ?_
  refine xA (ok_get hC (show decode prog_9_method_9_code 111 = .ok (.getfield 162, 3) by decide +kernel) (by decide) (r0 := ("StyleCourt$Element", xF4, 15)) rfl (by decide) rfl w_228) ?_
  refine xA (ok_ifnull hC (show decode prog_9_method_9_code 114 = .ok (.ifnull 12, 3) by decide +kernel) (by decide)) ?_
  refine xA (ok_aload hC (show decode prog_9_method_9_code 117 = .ok (.aload 4, 2) by decide +kernel)) ?_
  refine xA (ok_get hC (show decode prog_9_method_9_code 119 = .ok (.getfield 162, 3) by decide +kernel) (by decide) (r0 := ("StyleCourt$Element", xF4, 15)) rfl (by decide) rfl w_228) ?_
  refine xA (ok_iconst hC (show decode prog_9_method_9_code 122 = .ok (.iconst 1, 1) by decide +kernel) (by decide)) ?_
  refine xA (ok_put hC (show decode prog_9_method_9_code 123 = .ok (.putfield 165, 3) by decide +kernel) (by decide) (r0 := ("StyleCourt$Element", xF4, 15)) rfl (by decide) rfl (by decide +kernel) w_252) ?_
  refine xA (ok_aload_n hC (show decode prog_9_method_9_code 126 = .ok (.aload_n 1, 1) by decide +kernel) rfl) ?_
  refine xA (ok_callV hC hnh (show decode prog_9_method_9_code 127 = .ok (.invokevirtual 134, 3) by decide +kernel) (by decide) (by decide) (by decide) (r0 := ("StyleCourt$Reader", xF1, 3)) rfl ⟨by decide, by decide, by decide +kernel⟩ w_633 w_70 w_653 w_631 w_632) ?_
  refine xA (ok_bipush hC (show decode prog_9_method_9_code 130 = .ok (.bipush 47, 2) by decide +kernel) (by decide)) ?_
  refine xA (ok_icne hC (show decode prog_9_method_9_code 132 = .ok (.if_icmp .ne 32, 3) by decide +kernel) (by decide)) ?_
  refine xA (ok_aload_n hC (show decode prog_9_method_9_code 135 = .ok (.aload_n 1, 1) by decide +kernel) rfl) ?_
  refine xA (ok_dup hC (show decode prog_9_method_9_code 136 = .ok (.dup, 1) by decide +kernel)) ?_
  refine xA (ok_get hC (show decode prog_9_method_9_code 137 = .ok (.getfield 54, 3) by decide +kernel) (by decide) (r0 := ("StyleCourt$Reader", xF1, 3)) rfl (by decide) rfl w_136) ?_
  refine xA (ok_iconst hC (show decode prog_9_method_9_code 140 = .ok (.iconst 1, 1) by decide +kernel) (by decide)) ?_
  refine xA (ok_iadd hC (show decode prog_9_method_9_code 141 = .ok (.iadd, 1) by decide +kernel)) ?_
  refine xA (ok_put hC (show decode prog_9_method_9_code 142 = .ok (.putfield 54, 3) by decide +kernel) (by decide) (r0 := ("StyleCourt$Reader", xF1, 3)) rfl (by decide) rfl (by decide +kernel) w_136) ?_
  refine xA (ok_aload_n hC (show decode prog_9_method_9_code 145 = .ok (.aload_n 1, 1) by decide +kernel) rfl) ?_
  refine xA (ok_bipush hC (show decode prog_9_method_9_code 146 = .ok (.bipush 62, 2) by decide +kernel) (by decide)) ?_
  refine xA (ok_callV hC hnh (show decode prog_9_method_9_code 148 = .ok (.invokevirtual 143, 3) by decide +kernel) (by decide) (by decide) (by decide) (r0 := ("StyleCourt$Reader", xF1, 3)) rfl ⟨by decide, by decide, by decide +kernel⟩ w_629 w_70 w_626 w_627 w_628) ?_
  refine xA (ok_aload_n hC (show decode prog_9_method_9_code 151 = .ok (.aload_n 0, 1) by decide +kernel) rfl) ?_
  refine xA (ok_aload hC (show decode prog_9_method_9_code 152 = .ok (.aload 4, 2) by decide +kernel)) ?_
  refine xA (ok_aload_n hC (show decode prog_9_method_9_code 154 = .ok (.aload_n 1, 1) by decide +kernel) rfl) ?_
  refine xA (ok_get hC (show decode prog_9_method_9_code 155 = .ok (.getfield 54, 3) by decide +kernel) (by decide) (r0 := ("StyleCourt$Reader", xF1, 3)) rfl (by decide) rfl w_136) ?_
  refine xA (ok_callV hC hnh (show decode prog_9_method_9_code 158 = .ok (.invokevirtual 168, 3) by decide +kernel) (by decide) (by decide) (by decide) (r0 := ("StyleCourt$Source", xF5, 5)) rfl ⟨by decide, by decide, by decide +kernel⟩ w_640 w_74 w_637 w_639 w_8) ?_
  refine xA (ok_goto hC (show decode prog_9_method_9_code 161 = .ok (.goto 15, 3) by decide +kernel) (by decide)) ?_
  refine xA (ok_aload_n hC (show decode prog_9_method_9_code 164 = .ok (.aload_n 1, 1) by decide +kernel) rfl) ?_
  refine xA (ok_bipush hC (show decode prog_9_method_9_code 165 = .ok (.bipush 62, 2) by decide +kernel) (by decide)) ?_
  refine xA (ok_callV hC hnh (show decode prog_9_method_9_code 167 = .ok (.invokevirtual 143, 3) by decide +kernel) (by decide) (by decide) (by decide) (r0 := ("StyleCourt$Reader", xF1, 3)) rfl ⟨by decide, by decide, by decide +kernel⟩ w_629 w_70 w_626 w_627 w_628) ?_
  refine xA (ok_aload_n hC (show decode prog_9_method_9_code 170 = .ok (.aload_n 0, 1) by decide +kernel) rfl) ?_
  refine xA (ok_aload hC (show decode prog_9_method_9_code 171 = .ok (.aload 4, 2) by decide +kernel)) ?_
  refine xA (ok_put hC (show decode prog_9_method_9_code 173 = .ok (.putfield 42, 3) by decide +kernel) (by decide) (r0 := ("StyleCourt$Source", xF5, 5)) rfl (by decide) rfl (by decide +kernel) w_377) ?_
  refine xA (ok_vret hC hr (show decode prog_9_method_9_code 176 = .ok (.return_, 1) by decide +kernel)) ?_
  exact trivial

def tb_So_readFields (X : xX) : List (Nat × xOp) := [(0, o_ic 0 1),
  (1, o_ist 3 2),
  (2, o_ild 3 3),
  (3, o_ic 6 5),
  (5, o_icgt 113 8),
  (8, o_ald 1 9),
  (9, o_get 1 1 12),
  (12, o_ist 4 14),
  (14, o_ald 1 15),
  (15, o_callV X.l X.D X.P 1 1 1 y_Rd_nextSign 18),
  (18, o_callS X.l X.D X.P 0 1 y_Sc_isSmall 21),
  (21, o_ifne 25 24),
  (24, o_vret X.P),
  (25, o_ald 1 26),
  (26, o_get 1 1 29),
  (29, o_ild 4 31),
  (31, o_iceq 40 34),
  (34, o_ild 3 35),
  (35, o_ic 6 37),
  (37, o_icne 48 40),
  (40, o_ald 1 41),
  (41, o_ald 1 42),
  (42, o_get 1 1 45),
  (45, o_callV X.l X.D X.P 1 6 2 y_Rd_failAt 48),
  (48, o_ald 1 49),
  (49, o_callV X.l X.D X.P 1 7 1 y_Rd_readName 52),
  (52, o_ast 5 54),
  (54, o_ald 2 55),
  (55, o_get 4 7 58),
  (58, o_ald 5 60),
  (60, o_callS X.l X.D X.P 3 2 y_Sc_findNamed 63),
  (63, o_nul 75 66),
  (66, o_ald 1 67),
  (67, o_ald 5 69),
  (69, o_get 2 1 72),
  (72, o_callV X.l X.D X.P 1 6 2 y_Rd_failAt 75),
  (75, o_ald 1 76),
  (76, o_ic 61 78),
  (78, o_callV X.l X.D X.P 1 7 2 y_Rd_expectSign 81),
  (81, o_ald 1 82),
  (82, o_callV X.l X.D X.P 1 1 1 y_Rd_nextSign 85),
  (85, o_pop 86),
  (86, o_ald 2 87),
  (87, o_get 4 7 90),
  (90, o_new 3 2 [.null, .null] 93),
  (93, o_dup 94),
  (94, o_ald 5 96),
  (96, o_ald 1 97),
  (97, o_callV X.l X.D X.P 1 7 1 y_Rd_readString 100),
  (100, o_callI X.l X.D X.P 1 3 y_Nd_init 103),
  (103, o_callV X.l X.D X.P 12 6 2 y_AL_add 106),
  (106, o_pop 107),
  (107, o_inc 3 1 110),
  (110, o_goto 2),
  (113, o_vret X.P)]
theorem tk_So_readFields {X : xX} (hC : xCx X prog_9_method_10_code "StyleCourt$Source" 6 8) (hr : X.meth.sig.returnType = none) (hnh : X.c.exceptionTable.isEmpty = true) (hin : X.meth.name = "readFields") : xAll X (tb_So_readFields X) := by
  refine xA (ok_iconst hC (show decode prog_9_method_10_code 0 = .ok (.iconst 0, 1) by decide +kernel) (by decide)) ?_
  refine xA (ok_istore_n hC (show decode prog_9_method_10_code 1 = .ok (.istore_n 3, 1) by decide +kernel) rfl (by decide)) ?_
  refine xA (ok_iload_n hC (show decode prog_9_method_10_code 2 = .ok (.iload_n 3, 1) by decide +kernel) rfl) ?_
  refine xA (ok_bipush hC (show decode prog_9_method_10_code 3 = .ok (.bipush 6, 2) by decide +kernel) (by decide)) ?_
  refine xA (ok_icgt hC (show decode prog_9_method_10_code 5 = .ok (.if_icmp .gt 108, 3) by decide +kernel) (by decide)) ?_
  refine xA (ok_aload_n hC (show decode prog_9_method_10_code 8 = .ok (.aload_n 1, 1) by decide +kernel) rfl) ?_
  refine xA (ok_get hC (show decode prog_9_method_10_code 9 = .ok (.getfield 54, 3) by decide +kernel) (by decide) (r0 := ("StyleCourt$Reader", xF1, 3)) rfl (by decide) rfl w_136) ?_
  refine xA (ok_istore hC (show decode prog_9_method_10_code 12 = .ok (.istore 4, 2) by decide +kernel) (by decide)) ?_
  refine xA (ok_aload_n hC (show decode prog_9_method_10_code 14 = .ok (.aload_n 1, 1) by decide +kernel) rfl) ?_
  refine xA (ok_callV hC hnh (show decode prog_9_method_10_code 15 = .ok (.invokevirtual 134, 3) by decide +kernel) (by decide) (by decide) (by decide) (r0 := ("StyleCourt$Reader", xF1, 3)) rfl ⟨by decide, by decide, by decide +kernel⟩ w_633 w_70 w_653 w_631 w_632) ?_
  refine xA (ok_callSN (hh := []) hC hnh (show decode prog_9_method_10_code 18 = .ok (.invokestatic 172, 3) by decide +kernel) (by decide) (by decide) ⟨by decide, by decide, by decide +kernel⟩ (Or.inl w_615) w_69 w_654 w_614) ?_
  refine xA (ok_ifne hC (show decode prog_9_method_10_code 21 = .ok (.ifCond .ne 4, 3) by decide +kernel) (by decide)) ?_
  refine xA (ok_vret hC hr (show decode prog_9_method_10_code 24 = .ok (.return_, 1) by decide +kernel)) ?_
  refine xA (ok_aload_n hC (show decode prog_9_method_10_code 25 = .ok (.aload_n 1, 1) by decide +kernel) rfl) ?_
  refine xA (ok_get hC (show decode prog_9_method_10_code 26 = .ok (.getfield 54, 3) by decide +kernel) (by decide) (r0 := ("StyleCourt$Reader", xF1, 3)) rfl (by decide) rfl w_136) ?_
  refine xA (ok_iload hC (show decode prog_9_method_10_code 29 = .ok (.iload 4, 2) by decide +kernel)) ?_
  refine xA (ok_iceq hC (show decode prog_9_method_10_code 31 = .ok (.if_icmp .eq 9, 3) by decide +kernel) (by decide)) ?_
  refine xA (ok_iload_n hC (show decode prog_9_method_10_code 34 = .ok (.iload_n 3, 1) by decide +kernel) rfl) ?_
  refine xA (ok_bipush hC (show decode prog_9_method_10_code 35 = .ok (.bipush 6, 2) by decide +kernel) (by decide)) ?_
  refine xA (ok_icne hC (show decode prog_9_method_10_code 37 = .ok (.if_icmp .ne 11, 3) by decide +kernel) (by decide)) ?_
  refine xA (ok_aload_n hC (show decode prog_9_method_10_code 40 = .ok (.aload_n 1, 1) by decide +kernel) rfl) ?_
  refine xA (ok_aload_n hC (show decode prog_9_method_10_code 41 = .ok (.aload_n 1, 1) by decide +kernel) rfl) ?_
  refine xA (ok_get hC (show decode prog_9_method_10_code 42 = .ok (.getfield 54, 3) by decide +kernel) (by decide) (r0 := ("StyleCourt$Reader", xF1, 3)) rfl (by decide) rfl w_136) ?_
  refine xA (ok_callV hC hnh (show decode prog_9_method_10_code 45 = .ok (.invokevirtual 98, 3) by decide +kernel) (by decide) (by decide) (by decide) (r0 := ("StyleCourt$Reader", xF1, 3)) rfl ⟨by decide, by decide, by decide +kernel⟩ w_591 w_70 w_588 w_589 w_590) ?_
  refine xA (ok_aload_n hC (show decode prog_9_method_10_code 48 = .ok (.aload_n 1, 1) by decide +kernel) rfl) ?_
  refine xA (ok_callV hC hnh (show decode prog_9_method_10_code 49 = .ok (.invokevirtual 109, 3) by decide +kernel) (by decide) (by decide) (by decide) (r0 := ("StyleCourt$Reader", xF1, 3)) rfl ⟨by decide, by decide, by decide +kernel⟩ w_611 w_70 w_608 w_609 w_610) ?_
  refine xA (ok_astore hC (show decode prog_9_method_10_code 52 = .ok (.astore 5, 2) by decide +kernel) (by decide)) ?_
  refine xA (ok_aload_n hC (show decode prog_9_method_10_code 54 = .ok (.aload_n 2, 1) by decide +kernel) rfl) ?_
  refine xA (ok_get hC (show decode prog_9_method_10_code 55 = .ok (.getfield 175, 3) by decide +kernel) (by decide) (r0 := ("StyleCourt$Element", xF4, 15)) rfl (by decide) rfl w_243) ?_
  refine xA (ok_aload hC (show decode prog_9_method_10_code 58 = .ok (.aload 5, 2) by decide +kernel)) ?_
  refine xA (ok_callSN (hh := []) hC hnh (show decode prog_9_method_10_code 60 = .ok (.invokestatic 113, 3) by decide +kernel) (by decide) (by decide) ⟨by decide, by decide, by decide +kernel⟩ (Or.inl w_657) w_69 w_655 w_656) ?_
  refine xA (ok_ifnull hC (show decode prog_9_method_10_code 63 = .ok (.ifnull 12, 3) by decide +kernel) (by decide)) ?_
  refine xA (ok_aload_n hC (show decode prog_9_method_10_code 66 = .ok (.aload_n 1, 1) by decide +kernel) rfl) ?_
  refine xA (ok_aload hC (show decode prog_9_method_10_code 67 = .ok (.aload 5, 2) by decide +kernel)) ?_
  refine xA (ok_get hC (show decode prog_9_method_10_code 69 = .ok (.getfield 117, 3) by decide +kernel) (by decide) (r0 := ("StyleCourt$Slice", xF2, 3)) rfl (by decide) rfl w_199) ?_
  refine xA (ok_callV hC hnh (show decode prog_9_method_10_code 72 = .ok (.invokevirtual 98, 3) by decide +kernel) (by decide) (by decide) (by decide) (r0 := ("StyleCourt$Reader", xF1, 3)) rfl ⟨by decide, by decide, by decide +kernel⟩ w_591 w_70 w_588 w_589 w_590) ?_
  refine xA (ok_aload_n hC (show decode prog_9_method_10_code 75 = .ok (.aload_n 1, 1) by decide +kernel) rfl) ?_
  refine xA (ok_bipush hC (show decode prog_9_method_10_code 76 = .ok (.bipush 61, 2) by decide +kernel) (by decide)) ?_
  refine xA (ok_callV hC hnh (show decode prog_9_method_10_code 78 = .ok (.invokevirtual 143, 3) by decide +kernel) (by decide) (by decide) (by decide) (r0 := ("StyleCourt$Reader", xF1, 3)) rfl ⟨by decide, by decide, by decide +kernel⟩ w_629 w_70 w_626 w_627 w_628) ?_
  refine xA (ok_aload_n hC (show decode prog_9_method_10_code 81 = .ok (.aload_n 1, 1) by decide +kernel) rfl) ?_
  refine xA (ok_callV hC hnh (show decode prog_9_method_10_code 82 = .ok (.invokevirtual 134, 3) by decide +kernel) (by decide) (by decide) (by decide) (r0 := ("StyleCourt$Reader", xF1, 3)) rfl ⟨by decide, by decide, by decide +kernel⟩ w_633 w_70 w_653 w_631 w_632) ?_
  refine xA (ok_pop hC (show decode prog_9_method_10_code 85 = .ok (.pop, 1) by decide +kernel)) ?_
  refine xA (ok_aload_n hC (show decode prog_9_method_10_code 86 = .ok (.aload_n 2, 1) by decide +kernel) rfl) ?_
  refine xA (ok_get hC (show decode prog_9_method_10_code 87 = .ok (.getfield 175, 3) by decide +kernel) (by decide) (r0 := ("StyleCourt$Element", xF4, 15)) rfl (by decide) rfl w_243) ?_
  refine xA (ok_new hC (show decode prog_9_method_10_code 90 = .ok (.new 45, 3) by decide +kernel) (by decide) (r0 := ("StyleCourt$Named", xF3, 2)) rfl (by decide) w_295 w_296 w_80) ?_
  refine xA (ok_dup hC (show decode prog_9_method_10_code 93 = .ok (.dup, 1) by decide +kernel)) ?_
  refine xA (ok_aload hC (show decode prog_9_method_10_code 94 = .ok (.aload 5, 2) by decide +kernel)) ?_
  refine xA (ok_aload_n hC (show decode prog_9_method_10_code 96 = .ok (.aload_n 1, 1) by decide +kernel) rfl) ?_
  refine xA (ok_callV hC hnh (show decode prog_9_method_10_code 97 = .ok (.invokevirtual 137, 3) by decide +kernel) (by decide) (by decide) (by decide) (r0 := ("StyleCourt$Reader", xF1, 3)) rfl ⟨by decide, by decide, by decide +kernel⟩ w_678 w_70 w_675 w_676 w_677) ?_
  refine xA (ok_callI hC hnh (show decode prog_9_method_10_code 100 = .ok (.invokespecial 47, 3) by decide +kernel) (by decide) (by decide) ⟨by decide, by decide, by decide +kernel⟩ rfl w_299 w_80 w_297 w_298) ?_
  refine xA (ok_callV hC hnh (show decode prog_9_method_10_code 103 = .ok (.invokevirtual 50, 3) by decide +kernel) (by decide) (by decide) (by decide) (r0 := ("java/util/ArrayList", xF12, 3)) rfl ⟨by decide, by decide, by decide +kernel⟩ w_315 w_77 w_312 w_313 w_314) ?_
  refine xA (ok_pop hC (show decode prog_9_method_10_code 106 = .ok (.pop, 1) by decide +kernel)) ?_
  refine xA (ok_iinc hC (show decode prog_9_method_10_code 107 = .ok (.iinc 3 1, 3) by decide +kernel) (by decide) (by decide)) ?_
  refine xA (ok_goto hC (show decode prog_9_method_10_code 110 = .ok (.goto (-108), 3) by decide +kernel) (by decide)) ?_
  refine xA (ok_vret hC hr (show decode prog_9_method_10_code 113 = .ok (.return_, 1) by decide +kernel)) ?_
  exact trivial

def tb_So_readEntity (X : xX) : List (Nat × xOp) := [(0, o_ald 1 1),
  (1, o_callV X.l X.D X.P 1 7 1 y_Rd_readName 4),
  (4, o_ast 2 5),
  (5, o_ald 0 6),
  (6, o_get 5 2 9),
  (9, o_callV X.l X.D X.P 12 0 1 y_AL_size 12),
  (12, o_ic 42 14),
  (14, o_iclt 21 17),
  (17, o_ic 1 18),
  (18, o_goto 22),
  (21, o_ic 0 22),
  (22, o_ist 3 23),
  (23, o_ild 3 24),
  (24, o_ifne 38 27),
  (27, o_ald 0 28),
  (28, o_get 5 2 31),
  (31, o_ald 2 32),
  (32, o_callS X.l X.D X.P 3 2 y_Sc_findNamed 35),
  (35, o_nul 46 38),
  (38, o_ald 1 39),
  (39, o_ald 2 40),
  (40, o_get 2 1 43),
  (43, o_callV X.l X.D X.P 1 6 2 y_Rd_failAt 46),
  (46, o_ald 1 47),
  (47, o_callV X.l X.D X.P 1 1 1 y_Rd_nextSign 50),
  (50, o_pop 51),
  (51, o_ald 1 52),
  (52, o_get 1 1 55),
  (55, o_ist 4 57),
  (57, o_ald 1 58),
  (58, o_callV X.l X.D X.P 1 7 1 y_Rd_readString 61),
  (61, o_ast 5 63),
  (63, o_ald 5 65),
  (65, o_ic 60 67),
  (67, o_callV X.l X.D X.P 2 0 2 y_Sl_holds 70),
  (70, o_ifne 83 73),
  (73, o_ald 5 75),
  (75, o_ic 38 77),
  (77, o_callV X.l X.D X.P 2 0 2 y_Sl_holds 80),
  (80, o_ifeq 89 83),
  (83, o_ald 1 84),
  (84, o_ild 4 86),
  (86, o_callV X.l X.D X.P 1 6 2 y_Rd_failAt 89),
  (89, o_ald 1 90),
  (90, o_ic 62 92),
  (92, o_callV X.l X.D X.P 1 7 2 y_Rd_expectSign 95),
  (95, o_ald 0 96),
  (96, o_get 5 2 99),
  (99, o_new 3 2 [.null, .null] 102),
  (102, o_dup 103),
  (103, o_ald 2 104),
  (104, o_ald 5 106),
  (106, o_callI X.l X.D X.P 1 3 y_Nd_init 109),
  (109, o_callV X.l X.D X.P 12 6 2 y_AL_add 112),
  (112, o_pop 113),
  (113, o_vret X.P)]
theorem tk_So_readEntity {X : xX} (hC : xCx X prog_9_method_8_code "StyleCourt$Source" 6 8) (hr : X.meth.sig.returnType = none) (hnh : X.c.exceptionTable.isEmpty = true) (hin : X.meth.name = "readEntity") : xAll X (tb_So_readEntity X) := by
  refine xA (ok_aload_n hC (show decode prog_9_method_8_code 0 = .ok (.aload_n 1, 1) by decide +kernel) rfl) ?_
  refine xA (ok_callV hC hnh (show decode prog_9_method_8_code 1 = .ok (.invokevirtual 109, 3) by decide +kernel) (by decide) (by decide) (by decide) (r0 := ("StyleCourt$Reader", xF1, 3)) rfl ⟨by decide, by decide, by decide +kernel⟩ w_611 w_70 w_608 w_609 w_610) ?_
  refine xA (ok_astore_n hC (show decode prog_9_method_8_code 4 = .ok (.astore_n 2, 1) by decide +kernel) rfl (by decide)) ?_
  refine xA (ok_aload_n hC (show decode prog_9_method_8_code 5 = .ok (.aload_n 0, 1) by decide +kernel) rfl) ?_
  refine xA (ok_get hC (show decode prog_9_method_8_code 6 = .ok (.getfield 21, 3) by decide +kernel) (by decide) (r0 := ("StyleCourt$Source", xF5, 5)) rfl (by decide) rfl w_374) ?_
  refine xA (ok_callV hC hnh (show decode prog_9_method_8_code 9 = .ok (.invokevirtual 131, 3) by decide +kernel) (by decide) (by decide) (by decide) (r0 := ("java/util/ArrayList", xF12, 3)) rfl ⟨by decide, by decide, by decide +kernel⟩ w_644 w_77 w_641 w_642 w_643) ?_
  refine xA (ok_bipush hC (show decode prog_9_method_8_code 12 = .ok (.bipush 42, 2) by decide +kernel) (by decide)) ?_
  refine xA (ok_iclt hC (show decode prog_9_method_8_code 14 = .ok (.if_icmp .lt 7, 3) by decide +kernel) (by decide)) ?_
  refine xA (ok_iconst hC (show decode prog_9_method_8_code 17 = .ok (.iconst 1, 1) by decide +kernel) (by decide)) ?_
  refine xA (ok_goto hC (show decode prog_9_method_8_code 18 = .ok (.goto 4, 3) by decide +kernel) (by decide)) ?_
  refine xA (ok_iconst hC (show decode prog_9_method_8_code 21 = .ok (.iconst 0, 1) by decide +kernel) (by decide)) ?_
  refine xA (ok_istore_n hC (show decode prog_9_method_8_code 22 = .ok (.istore_n 3, 1) by decide +kernel) rfl (by decide)) ?_
  refine xA (ok_iload_n hC (show decode prog_9_method_8_code 23 = .ok (.iload_n 3, 1) by decide +kernel) rfl) ?_
  refine xA (ok_ifne hC (show decode prog_9_method_8_code 24 = .ok (.ifCond .ne 14, 3) by decide +kernel) (by decide)) ?_
  refine xA (ok_aload_n hC (show decode prog_9_method_8_code 27 = .ok (.aload_n 0, 1) by decide +kernel) rfl) ?_
  refine xA (ok_get hC (show decode prog_9_method_8_code 28 = .ok (.getfield 21, 3) by decide +kernel) (by decide) (r0 := ("StyleCourt$Source", xF5, 5)) rfl (by decide) rfl w_374) ?_
  refine xA (ok_aload_n hC (show decode prog_9_method_8_code 31 = .ok (.aload_n 2, 1) by decide +kernel) rfl) ?_
  refine xA (ok_callSN (hh := []) hC hnh (show decode prog_9_method_8_code 32 = .ok (.invokestatic 113, 3) by decide +kernel) (by decide) (by decide) ⟨by decide, by decide, by decide +kernel⟩ (Or.inl w_657) w_69 w_655 w_656) ?_
  refine xA (ok_ifnull hC (show decode prog_9_method_8_code 35 = .ok (.ifnull 11, 3) by decide +kernel) (by decide)) ?_
  refine xA (ok_aload_n hC (show decode prog_9_method_8_code 38 = .ok (.aload_n 1, 1) by decide +kernel) rfl) ?_
  refine xA (ok_aload_n hC (show decode prog_9_method_8_code 39 = .ok (.aload_n 2, 1) by decide +kernel) rfl) ?_
  refine xA (ok_get hC (show decode prog_9_method_8_code 40 = .ok (.getfield 117, 3) by decide +kernel) (by decide) (r0 := ("StyleCourt$Slice", xF2, 3)) rfl (by decide) rfl w_199) ?_
  refine xA (ok_callV hC hnh (show decode prog_9_method_8_code 43 = .ok (.invokevirtual 98, 3) by decide +kernel) (by decide) (by decide) (by decide) (r0 := ("StyleCourt$Reader", xF1, 3)) rfl ⟨by decide, by decide, by decide +kernel⟩ w_591 w_70 w_588 w_589 w_590) ?_
  refine xA (ok_aload_n hC (show decode prog_9_method_8_code 46 = .ok (.aload_n 1, 1) by decide +kernel) rfl) ?_
  refine xA (ok_callV hC hnh (show decode prog_9_method_8_code 47 = .ok (.invokevirtual 134, 3) by decide +kernel) (by decide) (by decide) (by decide) (r0 := ("StyleCourt$Reader", xF1, 3)) rfl ⟨by decide, by decide, by decide +kernel⟩ w_633 w_70 w_653 w_631 w_632) ?_
  refine xA (ok_pop hC (show decode prog_9_method_8_code 50 = .ok (.pop, 1) by decide +kernel)) ?_
  refine xA (ok_aload_n hC (show decode prog_9_method_8_code 51 = .ok (.aload_n 1, 1) by decide +kernel) rfl) ?_
  refine xA (ok_get hC (show decode prog_9_method_8_code 52 = .ok (.getfield 54, 3) by decide +kernel) (by decide) (r0 := ("StyleCourt$Reader", xF1, 3)) rfl (by decide) rfl w_136) ?_
  refine xA (ok_istore hC (show decode prog_9_method_8_code 55 = .ok (.istore 4, 2) by decide +kernel) (by decide)) ?_
  refine xA (ok_aload_n hC (show decode prog_9_method_8_code 57 = .ok (.aload_n 1, 1) by decide +kernel) rfl) ?_
  refine xA (ok_callV hC hnh (show decode prog_9_method_8_code 58 = .ok (.invokevirtual 137, 3) by decide +kernel) (by decide) (by decide) (by decide) (r0 := ("StyleCourt$Reader", xF1, 3)) rfl ⟨by decide, by decide, by decide +kernel⟩ w_678 w_70 w_675 w_676 w_677) ?_
  refine xA (ok_astore hC (show decode prog_9_method_8_code 61 = .ok (.astore 5, 2) by decide +kernel) (by decide)) ?_
  refine xA (ok_aload hC (show decode prog_9_method_8_code 63 = .ok (.aload 5, 2) by decide +kernel)) ?_
  refine xA (ok_bipush hC (show decode prog_9_method_8_code 65 = .ok (.bipush 60, 2) by decide +kernel) (by decide)) ?_
  refine xA (ok_callV hC hnh (show decode prog_9_method_8_code 67 = .ok (.invokevirtual 140, 3) by decide +kernel) (by decide) (by decide) (by decide) (r0 := ("StyleCourt$Slice", xF2, 3)) rfl ⟨by decide, by decide, by decide +kernel⟩ w_701 w_79 w_698 w_699 w_700) ?_
  refine xA (ok_ifne hC (show decode prog_9_method_8_code 70 = .ok (.ifCond .ne 13, 3) by decide +kernel) (by decide)) ?_
  refine xA (ok_aload hC (show decode prog_9_method_8_code 73 = .ok (.aload 5, 2) by decide +kernel)) ?_
  refine xA (ok_bipush hC (show decode prog_9_method_8_code 75 = .ok (.bipush 38, 2) by decide +kernel) (by decide)) ?_
  refine xA (ok_callV hC hnh (show decode prog_9_method_8_code 77 = .ok (.invokevirtual 140, 3) by decide +kernel) (by decide) (by decide) (by decide) (r0 := ("StyleCourt$Slice", xF2, 3)) rfl ⟨by decide, by decide, by decide +kernel⟩ w_701 w_79 w_698 w_699 w_700) ?_
  refine xA (ok_ifeq hC (show decode prog_9_method_8_code 80 = .ok (.ifCond .eq 9, 3) by decide +kernel) (by decide)) ?_
  refine xA (ok_aload_n hC (show decode prog_9_method_8_code 83 = .ok (.aload_n 1, 1) by decide +kernel) rfl) ?_
  refine xA (ok_iload hC (show decode prog_9_method_8_code 84 = .ok (.iload 4, 2) by decide +kernel)) ?_
  refine xA (ok_callV hC hnh (show decode prog_9_method_8_code 86 = .ok (.invokevirtual 98, 3) by decide +kernel) (by decide) (by decide) (by decide) (r0 := ("StyleCourt$Reader", xF1, 3)) rfl ⟨by decide, by decide, by decide +kernel⟩ w_591 w_70 w_588 w_589 w_590) ?_
  refine xA (ok_aload_n hC (show decode prog_9_method_8_code 89 = .ok (.aload_n 1, 1) by decide +kernel) rfl) ?_
  refine xA (ok_bipush hC (show decode prog_9_method_8_code 90 = .ok (.bipush 62, 2) by decide +kernel) (by decide)) ?_
  refine xA (ok_callV hC hnh (show decode prog_9_method_8_code 92 = .ok (.invokevirtual 143, 3) by decide +kernel) (by decide) (by decide) (by decide) (r0 := ("StyleCourt$Reader", xF1, 3)) rfl ⟨by decide, by decide, by decide +kernel⟩ w_629 w_70 w_626 w_627 w_628) ?_
  refine xA (ok_aload_n hC (show decode prog_9_method_8_code 95 = .ok (.aload_n 0, 1) by decide +kernel) rfl) ?_
  refine xA (ok_get hC (show decode prog_9_method_8_code 96 = .ok (.getfield 21, 3) by decide +kernel) (by decide) (r0 := ("StyleCourt$Source", xF5, 5)) rfl (by decide) rfl w_374) ?_
  refine xA (ok_new hC (show decode prog_9_method_8_code 99 = .ok (.new 45, 3) by decide +kernel) (by decide) (r0 := ("StyleCourt$Named", xF3, 2)) rfl (by decide) w_295 w_296 w_80) ?_
  refine xA (ok_dup hC (show decode prog_9_method_8_code 102 = .ok (.dup, 1) by decide +kernel)) ?_
  refine xA (ok_aload_n hC (show decode prog_9_method_8_code 103 = .ok (.aload_n 2, 1) by decide +kernel) rfl) ?_
  refine xA (ok_aload hC (show decode prog_9_method_8_code 104 = .ok (.aload 5, 2) by decide +kernel)) ?_
  refine xA (ok_callI hC hnh (show decode prog_9_method_8_code 106 = .ok (.invokespecial 47, 3) by decide +kernel) (by decide) (by decide) ⟨by decide, by decide, by decide +kernel⟩ rfl w_299 w_80 w_297 w_298) ?_
  refine xA (ok_callV hC hnh (show decode prog_9_method_8_code 109 = .ok (.invokevirtual 50, 3) by decide +kernel) (by decide) (by decide) (by decide) (r0 := ("java/util/ArrayList", xF12, 3)) rfl ⟨by decide, by decide, by decide +kernel⟩ w_315 w_77 w_312 w_313 w_314) ?_
  refine xA (ok_pop hC (show decode prog_9_method_8_code 112 = .ok (.pop, 1) by decide +kernel)) ?_
  refine xA (ok_vret hC hr (show decode prog_9_method_8_code 113 = .ok (.return_, 1) by decide +kernel)) ?_
  exact trivial

def tb_So_readReference (X : xX) : List (Nat × xOp) := [(0, o_ald 1 1),
  (1, o_callV X.l X.D X.P 1 7 1 y_Rd_readName 4),
  (4, o_ast 2 5),
  (5, o_ald 0 6),
  (6, o_get 5 2 9),
  (9, o_ald 2 10),
  (10, o_callS X.l X.D X.P 3 2 y_Sc_findNamed 13),
  (13, o_ast 3 14),
  (14, o_ald 3 15),
  (15, o_nul 18 27),
  (18, o_ald 1 19),
  (19, o_ald 2 20),
  (20, o_get 2 1 23),
  (23, o_callV X.l X.D X.P 1 6 2 y_Rd_failAt 26),
  (26, o_vret X.P),
  (27, o_ald 1 28),
  (28, o_ic 59 30),
  (30, o_callV X.l X.D X.P 1 7 2 y_Rd_expect 33),
  (33, o_ald 0 34),
  (34, o_ald 3 35),
  (35, o_get 3 1 38),
  (38, o_callV X.l X.D X.P 5 7 2 y_So_addText 41),
  (41, o_vret X.P)]
theorem tk_So_readReference {X : xX} (hC : xCx X prog_9_method_6_code "StyleCourt$Source" 4 8) (hr : X.meth.sig.returnType = none) (hnh : X.c.exceptionTable.isEmpty = true) (hin : X.meth.name = "readReference") : xAll X (tb_So_readReference X) := by
  refine xA (ok_aload_n hC (show decode prog_9_method_6_code 0 = .ok (.aload_n 1, 1) by decide +kernel) rfl) ?_
  refine xA (ok_callV hC hnh (show decode prog_9_method_6_code 1 = .ok (.invokevirtual 109, 3) by decide +kernel) (by decide) (by decide) (by decide) (r0 := ("StyleCourt$Reader", xF1, 3)) rfl ⟨by decide, by decide, by decide +kernel⟩ w_611 w_70 w_608 w_609 w_610) ?_
  refine xA (ok_astore_n hC (show decode prog_9_method_6_code 4 = .ok (.astore_n 2, 1) by decide +kernel) rfl (by decide)) ?_
  refine xA (ok_aload_n hC (show decode prog_9_method_6_code 5 = .ok (.aload_n 0, 1) by decide +kernel) rfl) ?_
  refine xA (ok_get hC (show decode prog_9_method_6_code 6 = .ok (.getfield 21, 3) by decide +kernel) (by decide) (r0 := ("StyleCourt$Source", xF5, 5)) rfl (by decide) rfl w_374) ?_
  refine xA (ok_aload_n hC (show decode prog_9_method_6_code 9 = .ok (.aload_n 2, 1) by decide +kernel) rfl) ?_
  refine xA (ok_callSN (hh := []) hC hnh (show decode prog_9_method_6_code 10 = .ok (.invokestatic 113, 3) by decide +kernel) (by decide) (by decide) ⟨by decide, by decide, by decide +kernel⟩ (Or.inl w_657) w_69 w_655 w_656) ?_
  refine xA (ok_astore_n hC (show decode prog_9_method_6_code 13 = .ok (.astore_n 3, 1) by decide +kernel) rfl (by decide)) ?_
  refine xA (ok_aload_n hC (show decode prog_9_method_6_code 14 = .ok (.aload_n 3, 1) by decide +kernel) rfl) ?_
  refine xA (ok_ifnonnull hC (show decode prog_9_method_6_code 15 = .ok (.ifnonnull 12, 3) by decide +kernel) (by decide)) ?_
  refine xA (ok_aload_n hC (show decode prog_9_method_6_code 18 = .ok (.aload_n 1, 1) by decide +kernel) rfl) ?_
  refine xA (ok_aload_n hC (show decode prog_9_method_6_code 19 = .ok (.aload_n 2, 1) by decide +kernel) rfl) ?_
  refine xA (ok_get hC (show decode prog_9_method_6_code 20 = .ok (.getfield 117, 3) by decide +kernel) (by decide) (r0 := ("StyleCourt$Slice", xF2, 3)) rfl (by decide) rfl w_199) ?_
  refine xA (ok_callV hC hnh (show decode prog_9_method_6_code 23 = .ok (.invokevirtual 98, 3) by decide +kernel) (by decide) (by decide) (by decide) (r0 := ("StyleCourt$Reader", xF1, 3)) rfl ⟨by decide, by decide, by decide +kernel⟩ w_591 w_70 w_588 w_589 w_590) ?_
  refine xA (ok_vret hC hr (show decode prog_9_method_6_code 26 = .ok (.return_, 1) by decide +kernel)) ?_
  refine xA (ok_aload_n hC (show decode prog_9_method_6_code 27 = .ok (.aload_n 1, 1) by decide +kernel) rfl) ?_
  refine xA (ok_bipush hC (show decode prog_9_method_6_code 28 = .ok (.bipush 59, 2) by decide +kernel) (by decide)) ?_
  refine xA (ok_callV hC hnh (show decode prog_9_method_6_code 30 = .ok (.invokevirtual 81, 3) by decide +kernel) (by decide) (by decide) (by decide) (r0 := ("StyleCourt$Reader", xF1, 3)) rfl ⟨by decide, by decide, by decide +kernel⟩ w_685 w_70 w_682 w_683 w_684) ?_
  refine xA (ok_aload_n hC (show decode prog_9_method_6_code 33 = .ok (.aload_n 0, 1) by decide +kernel) rfl) ?_
  refine xA (ok_aload_n hC (show decode prog_9_method_6_code 34 = .ok (.aload_n 3, 1) by decide +kernel) rfl) ?_
  refine xA (ok_get hC (show decode prog_9_method_6_code 35 = .ok (.getfield 120, 3) by decide +kernel) (by decide) (r0 := ("StyleCourt$Named", xF3, 2)) rfl (by decide) rfl w_305) ?_
  refine xA (ok_callV hC hnh (show decode prog_9_method_6_code 38 = .ok (.invokevirtual 102, 3) by decide +kernel) (by decide) (by decide) (by decide) (r0 := ("StyleCourt$Source", xF5, 5)) rfl ⟨by decide, by decide, by decide +kernel⟩ w_709 w_74 w_706 w_708 w_14) ?_
  refine xA (ok_vret hC hr (show decode prog_9_method_6_code 41 = .ok (.return_, 1) by decide +kernel)) ?_
  exact trivial

def tb_So_addText (X : xX) : List (Nat × xOp) := [(0, o_ald 1 1),
  (1, o_get 2 2 4),
  (4, o_ifle 35 7),
  (7, o_ald 0 8),
  (8, o_get 5 4 11),
  (11, o_ald 0 12),
  (12, o_get 5 3 15),
  (15, o_acm 35 18),
  (18, o_ald 0 19),
  (19, o_get 5 1 22),
  (22, o_ald 1 23),
  (23, o_callV X.l X.D X.P 12 6 2 y_AL_add 26),
  (26, o_pop 27),
  (27, o_ald 0 28),
  (28, o_get 5 4 31),
  (31, o_ic 1 32),
  (32, o_put 4 11 (.boolean) 35),
  (35, o_vret X.P)]
theorem tk_So_addText {X : xX} (hC : xCx X prog_9_method_7_code "StyleCourt$Source" 2 7) (hr : X.meth.sig.returnType = none) (hnh : X.c.exceptionTable.isEmpty = true) (hin : X.meth.name = "addText") : xAll X (tb_So_addText X) := by
  refine xA (ok_aload_n hC (show decode prog_9_method_7_code 0 = .ok (.aload_n 1, 1) by decide +kernel) rfl) ?_
  refine xA (ok_get hC (show decode prog_9_method_7_code 1 = .ok (.getfield 124, 3) by decide +kernel) (by decide) (r0 := ("StyleCourt$Slice", xF2, 3)) rfl (by decide) rfl w_201) ?_
  refine xA (ok_ifle hC (show decode prog_9_method_7_code 4 = .ok (.ifCond .le 31, 3) by decide +kernel) (by decide)) ?_
  refine xA (ok_aload_n hC (show decode prog_9_method_7_code 7 = .ok (.aload_n 0, 1) by decide +kernel) rfl) ?_
  refine xA (ok_get hC (show decode prog_9_method_7_code 8 = .ok (.getfield 42, 3) by decide +kernel) (by decide) (r0 := ("StyleCourt$Source", xF5, 5)) rfl (by decide) rfl w_377) ?_
  refine xA (ok_aload_n hC (show decode prog_9_method_7_code 11 = .ok (.aload_n 0, 1) by decide +kernel) rfl) ?_
  refine xA (ok_get hC (show decode prog_9_method_7_code 12 = .ok (.getfield 38, 3) by decide +kernel) (by decide) (r0 := ("StyleCourt$Source", xF5, 5)) rfl (by decide) rfl w_375) ?_
  refine xA (ok_acmpeq hC (show decode prog_9_method_7_code 15 = .ok (.if_acmp .eq 20, 3) by decide +kernel) (by decide)) ?_
  refine xA (ok_aload_n hC (show decode prog_9_method_7_code 18 = .ok (.aload_n 0, 1) by decide +kernel) rfl) ?_
  refine xA (ok_get hC (show decode prog_9_method_7_code 19 = .ok (.getfield 18, 3) by decide +kernel) (by decide) (r0 := ("StyleCourt$Source", xF5, 5)) rfl (by decide) rfl w_372) ?_
  refine xA (ok_aload_n hC (show decode prog_9_method_7_code 22 = .ok (.aload_n 1, 1) by decide +kernel) rfl) ?_
  refine xA (ok_callV hC hnh (show decode prog_9_method_7_code 23 = .ok (.invokevirtual 50, 3) by decide +kernel) (by decide) (by decide) (by decide) (r0 := ("java/util/ArrayList", xF12, 3)) rfl ⟨by decide, by decide, by decide +kernel⟩ w_315 w_77 w_312 w_313 w_314) ?_
  refine xA (ok_pop hC (show decode prog_9_method_7_code 26 = .ok (.pop, 1) by decide +kernel)) ?_
  refine xA (ok_aload_n hC (show decode prog_9_method_7_code 27 = .ok (.aload_n 0, 1) by decide +kernel) rfl) ?_
  refine xA (ok_get hC (show decode prog_9_method_7_code 28 = .ok (.getfield 42, 3) by decide +kernel) (by decide) (r0 := ("StyleCourt$Source", xF5, 5)) rfl (by decide) rfl w_377) ?_
  refine xA (ok_iconst hC (show decode prog_9_method_7_code 31 = .ok (.iconst 1, 1) by decide +kernel) (by decide)) ?_
  refine xA (ok_put hC (show decode prog_9_method_7_code 32 = .ok (.putfield 127, 3) by decide +kernel) (by decide) (r0 := ("StyleCourt$Element", xF4, 15)) rfl (by decide) rfl (by decide +kernel) w_254) ?_
  refine xA (ok_vret hC hr (show decode prog_9_method_7_code 35 = .ok (.return_, 1) by decide +kernel)) ?_
  exact trivial

def tb_So_readText (X : xX) : List (Nat × xOp) := [(0, o_ald 1 1),
  (1, o_get 1 1 4),
  (4, o_ist 2 5),
  (5, o_ald 1 6),
  (6, o_get 1 1 9),
  (9, o_ald 1 10),
  (10, o_get 1 0 13),
  (13, o_len 14),
  (14, o_icge 45 17),
  (17, o_ald 1 18),
  (18, o_get 1 0 21),
  (21, o_ald 1 22),
  (22, o_get 1 1 25),
  (25, o_ld 1 26),
  (26, o_callS X.l X.D X.P 1 1 y_So_isText 29),
  (29, o_ifeq 45 32),
  (32, o_ald 1 33),
  (33, o_dup 34),
  (34, o_get 1 1 37),
  (37, o_ic 1 38),
  (38, o_iadd 39),
  (39, o_put 1 1 (.int) 42),
  (42, o_goto 5),
  (45, o_ald 1 46),
  (46, o_get 1 1 49),
  (49, o_ild 2 50),
  (50, o_icne 58 53),
  (53, o_ald 1 54),
  (54, o_ild 2 55),
  (55, o_callV X.l X.D X.P 1 6 2 y_Rd_failAt 58),
  (58, o_ald 0 59),
  (59, o_new 2 3 [.null, .int 0, .int 0] 62),
  (62, o_dup 63),
  (63, o_ald 1 64),
  (64, o_get 1 0 67),
  (67, o_ild 2 68),
  (68, o_ald 1 69),
  (69, o_get 1 1 72),
  (72, o_ild 2 73),
  (73, o_isub 74),
  (74, o_callI X.l X.D X.P 1 4 y_Sl_init 77),
  (77, o_callV X.l X.D X.P 5 7 2 y_So_addText 80),
  (80, o_vret X.P)]
theorem tk_So_readText {X : xX} (hC : xCx X prog_9_method_4_code "StyleCourt$Source" 3 8) (hr : X.meth.sig.returnType = none) (hnh : X.c.exceptionTable.isEmpty = true) (hin : X.meth.name = "readText") : xAll X (tb_So_readText X) := by
  refine xA (ok_aload_n hC (show decode prog_9_method_4_code 0 = .ok (.aload_n 1, 1) by decide +kernel) rfl) ?_
  refine xA (ok_get hC (show decode prog_9_method_4_code 1 = .ok (.getfield 54, 3) by decide +kernel) (by decide) (r0 := ("StyleCourt$Reader", xF1, 3)) rfl (by decide) rfl w_136) ?_
  refine xA (ok_istore_n hC (show decode prog_9_method_4_code 4 = .ok (.istore_n 2, 1) by decide +kernel) rfl (by decide)) ?_
  refine xA (ok_aload_n hC (show decode prog_9_method_4_code 5 = .ok (.aload_n 1, 1) by decide +kernel) rfl) ?_
  refine xA (ok_get hC (show decode prog_9_method_4_code 6 = .ok (.getfield 54, 3) by decide +kernel) (by decide) (r0 := ("StyleCourt$Reader", xF1, 3)) rfl (by decide) rfl w_136) ?_
  refine xA (ok_aload_n hC (show decode prog_9_method_4_code 9 = .ok (.aload_n 1, 1) by decide +kernel) rfl) ?_
  refine xA (ok_get hC (show decode prog_9_method_4_code 10 = .ok (.getfield 91, 3) by decide +kernel) (by decide) (r0 := ("StyleCourt$Reader", xF1, 3)) rfl (by decide) rfl w_133) ?_
  refine xA (ok_len hC (show decode prog_9_method_4_code 13 = .ok (.arraylength, 1) by decide +kernel)) ?_
  refine xA (ok_icge hC (show decode prog_9_method_4_code 14 = .ok (.if_icmp .ge 31, 3) by decide +kernel) (by decide)) ?_
  refine xA (ok_aload_n hC (show decode prog_9_method_4_code 17 = .ok (.aload_n 1, 1) by decide +kernel) rfl) ?_
  refine xA (ok_get hC (show decode prog_9_method_4_code 18 = .ok (.getfield 91, 3) by decide +kernel) (by decide) (r0 := ("StyleCourt$Reader", xF1, 3)) rfl (by decide) rfl w_133) ?_
  refine xA (ok_aload_n hC (show decode prog_9_method_4_code 21 = .ok (.aload_n 1, 1) by decide +kernel) rfl) ?_
  refine xA (ok_get hC (show decode prog_9_method_4_code 22 = .ok (.getfield 54, 3) by decide +kernel) (by decide) (r0 := ("StyleCourt$Reader", xF1, 3)) rfl (by decide) rfl w_136) ?_
  refine xA (ok_bald hC (show decode prog_9_method_4_code 25 = .ok (.baload, 1) by decide +kernel) (by decide) rfl) ?_
  refine xA (ok_callS (hh := []) hC hnh (show decode prog_9_method_4_code 26 = .ok (.invokestatic 94, 3) by decide +kernel) (by decide) (by decide) ⟨by decide, by decide, by decide +kernel⟩ (Or.inl w_716) w_74 w_714 w_715) ?_
  refine xA (ok_ifeq hC (show decode prog_9_method_4_code 29 = .ok (.ifCond .eq 16, 3) by decide +kernel) (by decide)) ?_
  refine xA (ok_aload_n hC (show decode prog_9_method_4_code 32 = .ok (.aload_n 1, 1) by decide +kernel) rfl) ?_
  refine xA (ok_dup hC (show decode prog_9_method_4_code 33 = .ok (.dup, 1) by decide +kernel)) ?_
  refine xA (ok_get hC (show decode prog_9_method_4_code 34 = .ok (.getfield 54, 3) by decide +kernel) (by decide) (r0 := ("StyleCourt$Reader", xF1, 3)) rfl (by decide) rfl w_136) ?_
  refine xA (ok_iconst hC (show decode prog_9_method_4_code 37 = .ok (.iconst 1, 1) by decide +kernel) (by decide)) ?_
  refine xA (ok_iadd hC (show decode prog_9_method_4_code 38 = .ok (.iadd, 1) by decide +kernel)) ?_
  refine xA (ok_put hC (show decode prog_9_method_4_code 39 = .ok (.putfield 54, 3) by decide +kernel) (by decide) (r0 := ("StyleCourt$Reader", xF1, 3)) rfl (by decide) rfl (by decide +kernel) w_136) ?_
  refine xA (ok_goto hC (show decode prog_9_method_4_code 42 = .ok (.goto (-37), 3) by decide +kernel) (by decide)) ?_
  refine xA (ok_aload_n hC (show decode prog_9_method_4_code 45 = .ok (.aload_n 1, 1) by decide +kernel) rfl) ?_
  refine xA (ok_get hC (show decode prog_9_method_4_code 46 = .ok (.getfield 54, 3) by decide +kernel) (by decide) (r0 := ("StyleCourt$Reader", xF1, 3)) rfl (by decide) rfl w_136) ?_
  refine xA (ok_iload_n hC (show decode prog_9_method_4_code 49 = .ok (.iload_n 2, 1) by decide +kernel) rfl) ?_
  refine xA (ok_icne hC (show decode prog_9_method_4_code 50 = .ok (.if_icmp .ne 8, 3) by decide +kernel) (by decide)) ?_
  refine xA (ok_aload_n hC (show decode prog_9_method_4_code 53 = .ok (.aload_n 1, 1) by decide +kernel) rfl) ?_
  refine xA (ok_iload_n hC (show decode prog_9_method_4_code 54 = .ok (.iload_n 2, 1) by decide +kernel) rfl) ?_
  refine xA (ok_callV hC hnh (show decode prog_9_method_4_code 55 = .ok (.invokevirtual 98, 3) by decide +kernel) (by decide) (by decide) (by decide) (r0 := ("StyleCourt$Reader", xF1, 3)) rfl ⟨by decide, by decide, by decide +kernel⟩ w_591 w_70 w_588 w_589 w_590) ?_
  refine xA (ok_aload_n hC (show decode prog_9_method_4_code 58 = .ok (.aload_n 0, 1) by decide +kernel) rfl) ?_
  refine xA (ok_new hC (show decode prog_9_method_4_code 59 = .ok (.new 26, 3) by decide +kernel) (by decide) (r0 := ("StyleCourt$Slice", xF2, 3)) rfl (by decide) w_188 w_189 w_79) ?_
  refine xA (ok_dup hC (show decode prog_9_method_4_code 62 = .ok (.dup, 1) by decide +kernel)) ?_
  refine xA (ok_aload_n hC (show decode prog_9_method_4_code 63 = .ok (.aload_n 1, 1) by decide +kernel) rfl) ?_
  refine xA (ok_get hC (show decode prog_9_method_4_code 64 = .ok (.getfield 91, 3) by decide +kernel) (by decide) (r0 := ("StyleCourt$Reader", xF1, 3)) rfl (by decide) rfl w_133) ?_
  refine xA (ok_iload_n hC (show decode prog_9_method_4_code 67 = .ok (.iload_n 2, 1) by decide +kernel) rfl) ?_
  refine xA (ok_aload_n hC (show decode prog_9_method_4_code 68 = .ok (.aload_n 1, 1) by decide +kernel) rfl) ?_
  refine xA (ok_get hC (show decode prog_9_method_4_code 69 = .ok (.getfield 54, 3) by decide +kernel) (by decide) (r0 := ("StyleCourt$Reader", xF1, 3)) rfl (by decide) rfl w_136) ?_
  refine xA (ok_iload_n hC (show decode prog_9_method_4_code 72 = .ok (.iload_n 2, 1) by decide +kernel) rfl) ?_
  refine xA (ok_isub hC (show decode prog_9_method_4_code 73 = .ok (.isub, 1) by decide +kernel)) ?_
  refine xA (ok_callI hC hnh (show decode prog_9_method_4_code 74 = .ok (.invokespecial 32, 3) by decide +kernel) (by decide) (by decide) ⟨by decide, by decide, by decide +kernel⟩ rfl w_193 w_79 w_191 w_192) ?_
  refine xA (ok_callV hC hnh (show decode prog_9_method_4_code 77 = .ok (.invokevirtual 102, 3) by decide +kernel) (by decide) (by decide) (by decide) (r0 := ("StyleCourt$Source", xF5, 5)) rfl ⟨by decide, by decide, by decide +kernel⟩ w_709 w_74 w_706 w_708 w_14) ?_
  refine xA (ok_vret hC hr (show decode prog_9_method_4_code 80 = .ok (.return_, 1) by decide +kernel)) ?_
  exact trivial

def tb_So_isText (X : xX) : List (Nat × xOp) := [(0, o_ild 0 1),
  (1, o_ic 10 3),
  (3, o_iceq 25 6),
  (6, o_ild 0 7),
  (7, o_callS X.l X.D X.P 0 1 y_Sc_isPrinted 10),
  (10, o_ifeq 29 13),
  (13, o_ild 0 14),
  (14, o_ic 60 16),
  (16, o_iceq 29 19),
  (19, o_ild 0 20),
  (20, o_ic 38 22),
  (22, o_iceq 29 25),
  (25, o_ic 1 26),
  (26, o_goto 30),
  (29, o_ic 0 30),
  (30, o_zret .boolean X.P)]
theorem tk_So_isText {X : xX} (hC : xCx X prog_9_method_5_code "StyleCourt$Source" 1 1) (hr : X.meth.sig.returnType = (some .boolean)) (hnh : X.c.exceptionTable.isEmpty = true) (hin : X.meth.name = "isText") : xAll X (tb_So_isText X) := by
  refine xA (ok_iload_n hC (show decode prog_9_method_5_code 0 = .ok (.iload_n 0, 1) by decide +kernel) rfl) ?_
  refine xA (ok_bipush hC (show decode prog_9_method_5_code 1 = .ok (.bipush 10, 2) by decide +kernel) (by decide)) ?_
  refine xA (ok_iceq hC (show decode prog_9_method_5_code 3 = .ok (.if_icmp .eq 22, 3) by decide +kernel) (by decide)) ?_
  refine xA (ok_iload_n hC (show decode prog_9_method_5_code 6 = .ok (.iload_n 0, 1) by decide +kernel) rfl) ?_
  refine xA (ok_callSN (hh := []) hC hnh (show decode prog_9_method_5_code 7 = .ok (.invokestatic 106, 3) by decide +kernel) (by decide) (by decide) ⟨by decide, by decide, by decide +kernel⟩ (Or.inl w_681) w_69 w_717 w_680) ?_
  refine xA (ok_ifeq hC (show decode prog_9_method_5_code 10 = .ok (.ifCond .eq 19, 3) by decide +kernel) (by decide)) ?_
  refine xA (ok_iload_n hC (show decode prog_9_method_5_code 13 = .ok (.iload_n 0, 1) by decide +kernel) rfl) ?_
  refine xA (ok_bipush hC (show decode prog_9_method_5_code 14 = .ok (.bipush 60, 2) by decide +kernel) (by decide)) ?_
  refine xA (ok_iceq hC (show decode prog_9_method_5_code 16 = .ok (.if_icmp .eq 13, 3) by decide +kernel) (by decide)) ?_
  refine xA (ok_iload_n hC (show decode prog_9_method_5_code 19 = .ok (.iload_n 0, 1) by decide +kernel) rfl) ?_
  refine xA (ok_bipush hC (show decode prog_9_method_5_code 20 = .ok (.bipush 38, 2) by decide +kernel) (by decide)) ?_
  refine xA (ok_iceq hC (show decode prog_9_method_5_code 22 = .ok (.if_icmp .eq 7, 3) by decide +kernel) (by decide)) ?_
  refine xA (ok_iconst hC (show decode prog_9_method_5_code 25 = .ok (.iconst 1, 1) by decide +kernel) (by decide)) ?_
  refine xA (ok_goto hC (show decode prog_9_method_5_code 26 = .ok (.goto 4, 3) by decide +kernel) (by decide)) ?_
  refine xA (ok_iconst hC (show decode prog_9_method_5_code 29 = .ok (.iconst 0, 1) by decide +kernel) (by decide)) ?_
  refine xA (ok_zret hC hr (show decode prog_9_method_5_code 30 = .ok (.ireturn, 1) by decide +kernel)) ?_
  exact trivial

def tb_Co_init (X : xX) : List (Nat × xOp) := [(0, o_ald 0 1),
  (1, o_obj 4),
  (4, o_ald 0 5),
  (5, o_ic 0 6),
  (6, o_put 6 0 (.int) 9),
  (9, o_ald 0 10),
  (10, o_null 11),
  (11, o_put 6 1 (.object "StyleCourt$Slice") 14),
  (14, o_ald 0 15),
  (15, o_null 16),
  (16, o_put 6 2 (.object "StyleCourt$Slice") 19),
  (19, o_ald 0 20),
  (20, o_ic 0 21),
  (21, o_put 6 3 (.int) 24),
  (24, o_vret X.P)]
theorem tk_Co_init {X : xX} (hC : xCx X prog_2_method_1_code "StyleCourt$Condition" 1 1) (hr : X.meth.sig.returnType = none) (hnh : X.c.exceptionTable.isEmpty = true) (hin : X.meth.name = "<init>") : xAll X (tb_Co_init X) := by
  refine xA (ok_aload_n hC (show decode prog_2_method_1_code 0 = .ok (.aload_n 0, 1) by decide +kernel) rfl) ?_
  refine xA (ok_obj hC (by decide) (show decode prog_2_method_1_code 1 = .ok (.invokespecial 3, 3) by decide +kernel) w_805 w_106 w_107) ?_
  refine xA (ok_aload_n hC (show decode prog_2_method_1_code 4 = .ok (.aload_n 0, 1) by decide +kernel) rfl) ?_
  refine xA (ok_iconst hC (show decode prog_2_method_1_code 5 = .ok (.iconst 0, 1) by decide +kernel) (by decide)) ?_
  refine xA (ok_put hC (show decode prog_2_method_1_code 6 = .ok (.putfield 9, 3) by decide +kernel) (by decide) (r0 := ("StyleCourt$Condition", xF6, 4)) rfl (by decide) rfl (by decide +kernel) w_806) ?_
  refine xA (ok_aload_n hC (show decode prog_2_method_1_code 9 = .ok (.aload_n 0, 1) by decide +kernel) rfl) ?_
  refine xA (ok_null hC (show decode prog_2_method_1_code 10 = .ok (.aconst_null, 1) by decide +kernel)) ?_
  refine xA (ok_put hC (show decode prog_2_method_1_code 11 = .ok (.putfield 15, 3) by decide +kernel) (by decide) (r0 := ("StyleCourt$Condition", xF6, 4)) rfl (by decide) rfl (by decide +kernel) w_807) ?_
  refine xA (ok_aload_n hC (show decode prog_2_method_1_code 14 = .ok (.aload_n 0, 1) by decide +kernel) rfl) ?_
  refine xA (ok_null hC (show decode prog_2_method_1_code 15 = .ok (.aconst_null, 1) by decide +kernel)) ?_
  refine xA (ok_put hC (show decode prog_2_method_1_code 16 = .ok (.putfield 19, 3) by decide +kernel) (by decide) (r0 := ("StyleCourt$Condition", xF6, 4)) rfl (by decide) rfl (by decide +kernel) w_808) ?_
  refine xA (ok_aload_n hC (show decode prog_2_method_1_code 19 = .ok (.aload_n 0, 1) by decide +kernel) rfl) ?_
  refine xA (ok_iconst hC (show decode prog_2_method_1_code 20 = .ok (.iconst 0, 1) by decide +kernel) (by decide)) ?_
  refine xA (ok_put hC (show decode prog_2_method_1_code 21 = .ok (.putfield 22, 3) by decide +kernel) (by decide) (r0 := ("StyleCourt$Condition", xF6, 4)) rfl (by decide) rfl (by decide +kernel) w_809) ?_
  refine xA (ok_vret hC hr (show decode prog_2_method_1_code 24 = .ok (.return_, 1) by decide +kernel)) ?_
  exact trivial

def tb_Co_readBracket (X : xX) : List (Nat × xOp) := [(0, o_ald 1 1),
  (1, o_callV X.l X.D X.P 1 1 1 y_Rd_nextSign 4),
  (4, o_pop 5),
  (5, o_ald 0 6),
  (6, o_ald 1 7),
  (7, o_callV X.l X.D X.P 1 7 1 y_Rd_readName 10),
  (10, o_put 6 1 (.object "StyleCourt$Slice") 13),
  (13, o_ald 1 14),
  (14, o_callV X.l X.D X.P 1 1 1 y_Rd_nextSign 17),
  (17, o_ic 61 19),
  (19, o_icne 45 22),
  (22, o_ald 1 23),
  (23, o_dup 24),
  (24, o_get 1 1 27),
  (27, o_ic 1 28),
  (28, o_iadd 29),
  (29, o_put 1 1 (.int) 32),
  (32, o_ald 1 33),
  (33, o_callV X.l X.D X.P 1 1 1 y_Rd_nextSign 36),
  (36, o_pop 37),
  (37, o_ald 0 38),
  (38, o_ald 1 39),
  (39, o_callV X.l X.D X.P 1 7 1 y_Rd_readString 42),
  (42, o_put 6 2 (.object "StyleCourt$Slice") 45),
  (45, o_ald 1 46),
  (46, o_ic 93 48),
  (48, o_callV X.l X.D X.P 1 7 2 y_Rd_expectSign 51),
  (51, o_vret X.P)]
theorem tk_Co_readBracket {X : xX} (hC : xCx X prog_2_method_2_code "StyleCourt$Condition" 2 8) (hr : X.meth.sig.returnType = none) (hnh : X.c.exceptionTable.isEmpty = true) (hin : X.meth.name = "readBracket") : xAll X (tb_Co_readBracket X) := by
  refine xA (ok_aload_n hC (show decode prog_2_method_2_code 0 = .ok (.aload_n 1, 1) by decide +kernel) rfl) ?_
  refine xA (ok_callV hC hnh (show decode prog_2_method_2_code 1 = .ok (.invokevirtual 25, 3) by decide +kernel) (by decide) (by decide) (by decide) (r0 := ("StyleCourt$Reader", xF1, 3)) rfl ⟨by decide, by decide, by decide +kernel⟩ w_633 w_70 w_823 w_631 w_632) ?_
  refine xA (ok_pop hC (show decode prog_2_method_2_code 4 = .ok (.pop, 1) by decide +kernel)) ?_
  refine xA (ok_aload_n hC (show decode prog_2_method_2_code 5 = .ok (.aload_n 0, 1) by decide +kernel) rfl) ?_
  refine xA (ok_aload_n hC (show decode prog_2_method_2_code 6 = .ok (.aload_n 1, 1) by decide +kernel) rfl) ?_
  refine xA (ok_callV hC hnh (show decode prog_2_method_2_code 7 = .ok (.invokevirtual 31, 3) by decide +kernel) (by decide) (by decide) (by decide) (r0 := ("StyleCourt$Reader", xF1, 3)) rfl ⟨by decide, by decide, by decide +kernel⟩ w_611 w_70 w_824 w_609 w_610) ?_
  refine xA (ok_put hC (show decode prog_2_method_2_code 10 = .ok (.putfield 15, 3) by decide +kernel) (by decide) (r0 := ("StyleCourt$Condition", xF6, 4)) rfl (by decide) rfl (by decide +kernel) w_807) ?_
  refine xA (ok_aload_n hC (show decode prog_2_method_2_code 13 = .ok (.aload_n 1, 1) by decide +kernel) rfl) ?_
  refine xA (ok_callV hC hnh (show decode prog_2_method_2_code 14 = .ok (.invokevirtual 25, 3) by decide +kernel) (by decide) (by decide) (by decide) (r0 := ("StyleCourt$Reader", xF1, 3)) rfl ⟨by decide, by decide, by decide +kernel⟩ w_633 w_70 w_823 w_631 w_632) ?_
  refine xA (ok_bipush hC (show decode prog_2_method_2_code 17 = .ok (.bipush 61, 2) by decide +kernel) (by decide)) ?_
  refine xA (ok_icne hC (show decode prog_2_method_2_code 19 = .ok (.if_icmp .ne 26, 3) by decide +kernel) (by decide)) ?_
  refine xA (ok_aload_n hC (show decode prog_2_method_2_code 22 = .ok (.aload_n 1, 1) by decide +kernel) rfl) ?_
  refine xA (ok_dup hC (show decode prog_2_method_2_code 23 = .ok (.dup, 1) by decide +kernel)) ?_
  refine xA (ok_get hC (show decode prog_2_method_2_code 24 = .ok (.getfield 35, 3) by decide +kernel) (by decide) (r0 := ("StyleCourt$Reader", xF1, 3)) rfl (by decide) rfl w_139) ?_
  refine xA (ok_iconst hC (show decode prog_2_method_2_code 27 = .ok (.iconst 1, 1) by decide +kernel) (by decide)) ?_
  refine xA (ok_iadd hC (show decode prog_2_method_2_code 28 = .ok (.iadd, 1) by decide +kernel)) ?_
  refine xA (ok_put hC (show decode prog_2_method_2_code 29 = .ok (.putfield 35, 3) by decide +kernel) (by decide) (r0 := ("StyleCourt$Reader", xF1, 3)) rfl (by decide) rfl (by decide +kernel) w_139) ?_
  refine xA (ok_aload_n hC (show decode prog_2_method_2_code 32 = .ok (.aload_n 1, 1) by decide +kernel) rfl) ?_
  refine xA (ok_callV hC hnh (show decode prog_2_method_2_code 33 = .ok (.invokevirtual 25, 3) by decide +kernel) (by decide) (by decide) (by decide) (r0 := ("StyleCourt$Reader", xF1, 3)) rfl ⟨by decide, by decide, by decide +kernel⟩ w_633 w_70 w_823 w_631 w_632) ?_
  refine xA (ok_pop hC (show decode prog_2_method_2_code 36 = .ok (.pop, 1) by decide +kernel)) ?_
  refine xA (ok_aload_n hC (show decode prog_2_method_2_code 37 = .ok (.aload_n 0, 1) by decide +kernel) rfl) ?_
  refine xA (ok_aload_n hC (show decode prog_2_method_2_code 38 = .ok (.aload_n 1, 1) by decide +kernel) rfl) ?_
  refine xA (ok_callV hC hnh (show decode prog_2_method_2_code 39 = .ok (.invokevirtual 38, 3) by decide +kernel) (by decide) (by decide) (by decide) (r0 := ("StyleCourt$Reader", xF1, 3)) rfl ⟨by decide, by decide, by decide +kernel⟩ w_678 w_70 w_825 w_676 w_677) ?_
  refine xA (ok_put hC (show decode prog_2_method_2_code 42 = .ok (.putfield 19, 3) by decide +kernel) (by decide) (r0 := ("StyleCourt$Condition", xF6, 4)) rfl (by decide) rfl (by decide +kernel) w_808) ?_
  refine xA (ok_aload_n hC (show decode prog_2_method_2_code 45 = .ok (.aload_n 1, 1) by decide +kernel) rfl) ?_
  refine xA (ok_bipush hC (show decode prog_2_method_2_code 46 = .ok (.bipush 93, 2) by decide +kernel) (by decide)) ?_
  refine xA (ok_callV hC hnh (show decode prog_2_method_2_code 48 = .ok (.invokevirtual 41, 3) by decide +kernel) (by decide) (by decide) (by decide) (r0 := ("StyleCourt$Reader", xF1, 3)) rfl ⟨by decide, by decide, by decide +kernel⟩ w_629 w_70 w_826 w_627 w_628) ?_
  refine xA (ok_vret hC hr (show decode prog_2_method_2_code 51 = .ok (.return_, 1) by decide +kernel)) ?_
  exact trivial

def tb_Co_readColon (X : xX) : List (Nat × xOp) := [(0, o_ald 1 1),
  (1, o_callV X.l X.D X.P 1 1 1 y_Rd_nextSign 4),
  (4, o_pop 5),
  (5, o_ald 1 6),
  (6, o_callV X.l X.D X.P 1 7 1 y_Rd_readName 9),
  (9, o_ast 2 10),
  (10, o_ald 2 11),
  (11, o_ldcS X.D 3 13),
  (13, o_callV X.l X.D X.P 2 5 2 y_Sl_spells 16),
  (16, o_ifeq 27 19),
  (19, o_ald 0 20),
  (20, o_ic 1 21),
  (21, o_put 6 0 (.int) 24),
  (24, o_goto 153),
  (27, o_ald 2 28),
  (28, o_ldcS X.D 4 30),
  (30, o_callV X.l X.D X.P 2 5 2 y_Sl_spells 33),
  (33, o_ifeq 44 36),
  (36, o_ald 0 37),
  (37, o_ic 2 38),
  (38, o_put 6 0 (.int) 41),
  (41, o_goto 153),
  (44, o_ald 2 45),
  (45, o_ldcS X.D 5 47),
  (47, o_callV X.l X.D X.P 2 5 2 y_Sl_spells 50),
  (50, o_ifeq 61 53),
  (53, o_ald 0 54),
  (54, o_ic 3 55),
  (55, o_put 6 0 (.int) 58),
  (58, o_goto 153),
  (61, o_ald 2 62),
  (62, o_ldcS X.D 6 64),
  (64, o_callV X.l X.D X.P 2 5 2 y_Sl_spells 67),
  (67, o_ifeq 103 70),
  (70, o_ald 0 71),
  (71, o_ic 4 72),
  (72, o_put 6 0 (.int) 75),
  (75, o_ald 1 76),
  (76, o_ic 40 78),
  (78, o_callV X.l X.D X.P 1 7 2 y_Rd_expectSign 81),
  (81, o_ald 1 82),
  (82, o_callV X.l X.D X.P 1 1 1 y_Rd_nextSign 85),
  (85, o_pop 86),
  (86, o_ald 0 87),
  (87, o_ald 1 88),
  (88, o_callV X.l X.D X.P 1 7 1 y_Rd_readNumber 91),
  (91, o_put 6 3 (.int) 94),
  (94, o_ald 1 95),
  (95, o_ic 41 97),
  (97, o_callV X.l X.D X.P 1 7 2 y_Rd_expectSign 100),
  (100, o_goto 153),
  (103, o_ald 2 104),
  (104, o_ldcS X.D 7 106),
  (106, o_callV X.l X.D X.P 2 5 2 y_Sl_spells 109),
  (109, o_ifeq 145 112),
  (112, o_ald 0 113),
  (113, o_ic 5 114),
  (114, o_put 6 0 (.int) 117),
  (117, o_ald 1 118),
  (118, o_ic 40 120),
  (120, o_callV X.l X.D X.P 1 7 2 y_Rd_expectSign 123),
  (123, o_ald 1 124),
  (124, o_callV X.l X.D X.P 1 1 1 y_Rd_nextSign 127),
  (127, o_pop 128),
  (128, o_ald 0 129),
  (129, o_ald 1 130),
  (130, o_callV X.l X.D X.P 1 7 1 y_Rd_readName 133),
  (133, o_put 6 1 (.object "StyleCourt$Slice") 136),
  (136, o_ald 1 137),
  (137, o_ic 41 139),
  (139, o_callV X.l X.D X.P 1 7 2 y_Rd_expectSign 142),
  (142, o_goto 153),
  (145, o_ald 1 146),
  (146, o_ald 2 147),
  (147, o_get 2 1 150),
  (150, o_callV X.l X.D X.P 1 6 2 y_Rd_failAt 153),
  (153, o_vret X.P)]
theorem tk_Co_readColon {X : xX} (hC : xCx X prog_2_method_3_code "StyleCourt$Condition" 3 8) (hr : X.meth.sig.returnType = none) (hnh : X.c.exceptionTable.isEmpty = true) (hin : X.meth.name = "readColon") : xAll X (tb_Co_readColon X) := by
  refine xA (ok_aload_n hC (show decode prog_2_method_3_code 0 = .ok (.aload_n 1, 1) by decide +kernel) rfl) ?_
  refine xA (ok_callV hC hnh (show decode prog_2_method_3_code 1 = .ok (.invokevirtual 25, 3) by decide +kernel) (by decide) (by decide) (by decide) (r0 := ("StyleCourt$Reader", xF1, 3)) rfl ⟨by decide, by decide, by decide +kernel⟩ w_633 w_70 w_823 w_631 w_632) ?_
  refine xA (ok_pop hC (show decode prog_2_method_3_code 4 = .ok (.pop, 1) by decide +kernel)) ?_
  refine xA (ok_aload_n hC (show decode prog_2_method_3_code 5 = .ok (.aload_n 1, 1) by decide +kernel) rfl) ?_
  refine xA (ok_callV hC hnh (show decode prog_2_method_3_code 6 = .ok (.invokevirtual 31, 3) by decide +kernel) (by decide) (by decide) (by decide) (r0 := ("StyleCourt$Reader", xF1, 3)) rfl ⟨by decide, by decide, by decide +kernel⟩ w_611 w_70 w_824 w_609 w_610) ?_
  refine xA (ok_astore_n hC (show decode prog_2_method_3_code 9 = .ok (.astore_n 2, 1) by decide +kernel) rfl (by decide)) ?_
  refine xA (ok_aload_n hC (show decode prog_2_method_3_code 10 = .ok (.aload_n 2, 1) by decide +kernel) rfl) ?_
  refine xA (ok_ldcS hC (show decode prog_2_method_3_code 11 = .ok (.ldc 45, 2) by decide +kernel) (i := 3) rfl) ?_
  refine xA (ok_callV hC hnh (show decode prog_2_method_3_code 13 = .ok (.invokevirtual 47, 3) by decide +kernel) (by decide) (by decide) (by decide) (r0 := ("StyleCourt$Slice", xF2, 3)) rfl ⟨by decide, by decide, by decide +kernel⟩ w_835 w_79 w_832 w_833 w_834) ?_
  refine xA (ok_ifeq hC (show decode prog_2_method_3_code 16 = .ok (.ifCond .eq 11, 3) by decide +kernel) (by decide)) ?_
  refine xA (ok_aload_n hC (show decode prog_2_method_3_code 19 = .ok (.aload_n 0, 1) by decide +kernel) rfl) ?_
  refine xA (ok_iconst hC (show decode prog_2_method_3_code 20 = .ok (.iconst 1, 1) by decide +kernel) (by decide)) ?_
  refine xA (ok_put hC (show decode prog_2_method_3_code 21 = .ok (.putfield 9, 3) by decide +kernel) (by decide) (r0 := ("StyleCourt$Condition", xF6, 4)) rfl (by decide) rfl (by decide +kernel) w_806) ?_
  refine xA (ok_goto hC (show decode prog_2_method_3_code 24 = .ok (.goto 129, 3) by decide +kernel) (by decide)) ?_
  refine xA (ok_aload_n hC (show decode prog_2_method_3_code 27 = .ok (.aload_n 2, 1) by decide +kernel) rfl) ?_
  refine xA (ok_ldcS hC (show decode prog_2_method_3_code 28 = .ok (.ldc 53, 2) by decide +kernel) (i := 4) rfl) ?_
  refine xA (ok_callV hC hnh (show decode prog_2_method_3_code 30 = .ok (.invokevirtual 47, 3) by decide +kernel) (by decide) (by decide) (by decide) (r0 := ("StyleCourt$Slice", xF2, 3)) rfl ⟨by decide, by decide, by decide +kernel⟩ w_835 w_79 w_832 w_833 w_834) ?_
  refine xA (ok_ifeq hC (show decode prog_2_method_3_code 33 = .ok (.ifCond .eq 11, 3) by decide +kernel) (by decide)) ?_
  refine xA (ok_aload_n hC (show decode prog_2_method_3_code 36 = .ok (.aload_n 0, 1) by decide +kernel) rfl) ?_
  refine xA (ok_iconst hC (show decode prog_2_method_3_code 37 = .ok (.iconst 2, 1) by decide +kernel) (by decide)) ?_
  refine xA (ok_put hC (show decode prog_2_method_3_code 38 = .ok (.putfield 9, 3) by decide +kernel) (by decide) (r0 := ("StyleCourt$Condition", xF6, 4)) rfl (by decide) rfl (by decide +kernel) w_806) ?_
  refine xA (ok_goto hC (show decode prog_2_method_3_code 41 = .ok (.goto 112, 3) by decide +kernel) (by decide)) ?_
  refine xA (ok_aload_n hC (show decode prog_2_method_3_code 44 = .ok (.aload_n 2, 1) by decide +kernel) rfl) ?_
  refine xA (ok_ldcS hC (show decode prog_2_method_3_code 45 = .ok (.ldc 55, 2) by decide +kernel) (i := 5) rfl) ?_
  refine xA (ok_callV hC hnh (show decode prog_2_method_3_code 47 = .ok (.invokevirtual 47, 3) by decide +kernel) (by decide) (by decide) (by decide) (r0 := ("StyleCourt$Slice", xF2, 3)) rfl ⟨by decide, by decide, by decide +kernel⟩ w_835 w_79 w_832 w_833 w_834) ?_
  refine xA (ok_ifeq hC (show decode prog_2_method_3_code 50 = .ok (.ifCond .eq 11, 3) by decide +kernel) (by decide)) ?_
  refine xA (ok_aload_n hC (show decode prog_2_method_3_code 53 = .ok (.aload_n 0, 1) by decide +kernel) rfl) ?_
  refine xA (ok_iconst hC (show decode prog_2_method_3_code 54 = .ok (.iconst 3, 1) by decide +kernel) (by decide)) ?_
  refine xA (ok_put hC (show decode prog_2_method_3_code 55 = .ok (.putfield 9, 3) by decide +kernel) (by decide) (r0 := ("StyleCourt$Condition", xF6, 4)) rfl (by decide) rfl (by decide +kernel) w_806) ?_
  refine xA (ok_goto hC (show decode prog_2_method_3_code 58 = .ok (.goto 95, 3) by decide +kernel) (by decide)) ?_
  refine xA (ok_aload_n hC (show decode prog_2_method_3_code 61 = .ok (.aload_n 2, 1) by decide +kernel) rfl) ?_
  refine xA (ok_ldcS hC (show decode prog_2_method_3_code 62 = .ok (.ldc 57, 2) by decide +kernel) (i := 6) rfl) ?_
  refine xA (ok_callV hC hnh (show decode prog_2_method_3_code 64 = .ok (.invokevirtual 47, 3) by decide +kernel) (by decide) (by decide) (by decide) (r0 := ("StyleCourt$Slice", xF2, 3)) rfl ⟨by decide, by decide, by decide +kernel⟩ w_835 w_79 w_832 w_833 w_834) ?_
  refine xA (ok_ifeq hC (show decode prog_2_method_3_code 67 = .ok (.ifCond .eq 36, 3) by decide +kernel) (by decide)) ?_
  refine xA (ok_aload_n hC (show decode prog_2_method_3_code 70 = .ok (.aload_n 0, 1) by decide +kernel) rfl) ?_
  refine xA (ok_iconst hC (show decode prog_2_method_3_code 71 = .ok (.iconst 4, 1) by decide +kernel) (by decide)) ?_
  refine xA (ok_put hC (show decode prog_2_method_3_code 72 = .ok (.putfield 9, 3) by decide +kernel) (by decide) (r0 := ("StyleCourt$Condition", xF6, 4)) rfl (by decide) rfl (by decide +kernel) w_806) ?_
  refine xA (ok_aload_n hC (show decode prog_2_method_3_code 75 = .ok (.aload_n 1, 1) by decide +kernel) rfl) ?_
  refine xA (ok_bipush hC (show decode prog_2_method_3_code 76 = .ok (.bipush 40, 2) by decide +kernel) (by decide)) ?_
  refine xA (ok_callV hC hnh (show decode prog_2_method_3_code 78 = .ok (.invokevirtual 41, 3) by decide +kernel) (by decide) (by decide) (by decide) (r0 := ("StyleCourt$Reader", xF1, 3)) rfl ⟨by decide, by decide, by decide +kernel⟩ w_629 w_70 w_826 w_627 w_628) ?_
  refine xA (ok_aload_n hC (show decode prog_2_method_3_code 81 = .ok (.aload_n 1, 1) by decide +kernel) rfl) ?_
  refine xA (ok_callV hC hnh (show decode prog_2_method_3_code 82 = .ok (.invokevirtual 25, 3) by decide +kernel) (by decide) (by decide) (by decide) (r0 := ("StyleCourt$Reader", xF1, 3)) rfl ⟨by decide, by decide, by decide +kernel⟩ w_633 w_70 w_823 w_631 w_632) ?_
  refine xA (ok_pop hC (show decode prog_2_method_3_code 85 = .ok (.pop, 1) by decide +kernel)) ?_
  refine xA (ok_aload_n hC (show decode prog_2_method_3_code 86 = .ok (.aload_n 0, 1) by decide +kernel) rfl) ?_
  refine xA (ok_aload_n hC (show decode prog_2_method_3_code 87 = .ok (.aload_n 1, 1) by decide +kernel) rfl) ?_
  refine xA (ok_callV hC hnh (show decode prog_2_method_3_code 88 = .ok (.invokevirtual 59, 3) by decide +kernel) (by decide) (by decide) (by decide) (r0 := ("StyleCourt$Reader", xF1, 3)) rfl ⟨by decide, by decide, by decide +kernel⟩ w_888 w_70 w_885 w_886 w_887) ?_
  refine xA (ok_put hC (show decode prog_2_method_3_code 91 = .ok (.putfield 22, 3) by decide +kernel) (by decide) (r0 := ("StyleCourt$Condition", xF6, 4)) rfl (by decide) rfl (by decide +kernel) w_809) ?_
  refine xA (ok_aload_n hC (show decode prog_2_method_3_code 94 = .ok (.aload_n 1, 1) by decide +kernel) rfl) ?_
  refine xA (ok_bipush hC (show decode prog_2_method_3_code 95 = .ok (.bipush 41, 2) by decide +kernel) (by decide)) ?_
  refine xA (ok_callV hC hnh (show decode prog_2_method_3_code 97 = .ok (.invokevirtual 41, 3) by decide +kernel) (by decide) (by decide) (by decide) (r0 := ("StyleCourt$Reader", xF1, 3)) rfl ⟨by decide, by decide, by decide +kernel⟩ w_629 w_70 w_826 w_627 w_628) ?_
  refine xA (ok_goto hC (show decode prog_2_method_3_code 100 = .ok (.goto 53, 3) by decide +kernel) (by decide)) ?_
  refine xA (ok_aload_n hC (show decode prog_2_method_3_code 103 = .ok (.aload_n 2, 1) by decide +kernel) rfl) ?_
  refine xA (ok_ldcS hC (show decode prog_2_method_3_code 104 = .ok (.ldc 62, 2) by decide +kernel) (i := 7) rfl) ?_
  refine xA (ok_callV hC hnh (show decode prog_2_method_3_code 106 = .ok (.invokevirtual 47, 3) by decide +kernel) (by decide) (by decide) (by decide) (r0 := ("StyleCourt$Slice", xF2, 3)) rfl ⟨by decide, by decide, by decide +kernel⟩ w_835 w_79 w_832 w_833 w_834) ?_
  refine xA (ok_ifeq hC (show decode prog_2_method_3_code 109 = .ok (.ifCond .eq 36, 3) by decide +kernel) (by decide)) ?_
  refine xA (ok_aload_n hC (show decode prog_2_method_3_code 112 = .ok (.aload_n 0, 1) by decide +kernel) rfl) ?_
  refine xA (ok_iconst hC (show decode prog_2_method_3_code 113 = .ok (.iconst 5, 1) by decide +kernel) (by decide)) ?_
  refine xA (ok_put hC (show decode prog_2_method_3_code 114 = .ok (.putfield 9, 3) by decide +kernel) (by decide) (r0 := ("StyleCourt$Condition", xF6, 4)) rfl (by decide) rfl (by decide +kernel) w_806) ?_
  refine xA (ok_aload_n hC (show decode prog_2_method_3_code 117 = .ok (.aload_n 1, 1) by decide +kernel) rfl) ?_
  refine xA (ok_bipush hC (show decode prog_2_method_3_code 118 = .ok (.bipush 40, 2) by decide +kernel) (by decide)) ?_
  refine xA (ok_callV hC hnh (show decode prog_2_method_3_code 120 = .ok (.invokevirtual 41, 3) by decide +kernel) (by decide) (by decide) (by decide) (r0 := ("StyleCourt$Reader", xF1, 3)) rfl ⟨by decide, by decide, by decide +kernel⟩ w_629 w_70 w_826 w_627 w_628) ?_
  refine xA (ok_aload_n hC (show decode prog_2_method_3_code 123 = .ok (.aload_n 1, 1) by decide +kernel) rfl) ?_
  refine xA (ok_callV hC hnh (show decode prog_2_method_3_code 124 = .ok (.invokevirtual 25, 3) by decide +kernel) (by decide) (by decide) (by decide) (r0 := ("StyleCourt$Reader", xF1, 3)) rfl ⟨by decide, by decide, by decide +kernel⟩ w_633 w_70 w_823 w_631 w_632) ?_
  refine xA (ok_pop hC (show decode prog_2_method_3_code 127 = .ok (.pop, 1) by decide +kernel)) ?_
  refine xA (ok_aload_n hC (show decode prog_2_method_3_code 128 = .ok (.aload_n 0, 1) by decide +kernel) rfl) ?_
  refine xA (ok_aload_n hC (show decode prog_2_method_3_code 129 = .ok (.aload_n 1, 1) by decide +kernel) rfl) ?_
  refine xA (ok_callV hC hnh (show decode prog_2_method_3_code 130 = .ok (.invokevirtual 31, 3) by decide +kernel) (by decide) (by decide) (by decide) (r0 := ("StyleCourt$Reader", xF1, 3)) rfl ⟨by decide, by decide, by decide +kernel⟩ w_611 w_70 w_824 w_609 w_610) ?_
  refine xA (ok_put hC (show decode prog_2_method_3_code 133 = .ok (.putfield 15, 3) by decide +kernel) (by decide) (r0 := ("StyleCourt$Condition", xF6, 4)) rfl (by decide) rfl (by decide +kernel) w_807) ?_
  refine xA (ok_aload_n hC (show decode prog_2_method_3_code 136 = .ok (.aload_n 1, 1) by decide +kernel) rfl) ?_
  refine xA (ok_bipush hC (show decode prog_2_method_3_code 137 = .ok (.bipush 41, 2) by decide +kernel) (by decide)) ?_
  refine xA (ok_callV hC hnh (show decode prog_2_method_3_code 139 = .ok (.invokevirtual 41, 3) by decide +kernel) (by decide) (by decide) (by decide) (r0 := ("StyleCourt$Reader", xF1, 3)) rfl ⟨by decide, by decide, by decide +kernel⟩ w_629 w_70 w_826 w_627 w_628) ?_
  refine xA (ok_goto hC (show decode prog_2_method_3_code 142 = .ok (.goto 11, 3) by decide +kernel) (by decide)) ?_
  refine xA (ok_aload_n hC (show decode prog_2_method_3_code 145 = .ok (.aload_n 1, 1) by decide +kernel) rfl) ?_
  refine xA (ok_aload_n hC (show decode prog_2_method_3_code 146 = .ok (.aload_n 2, 1) by decide +kernel) rfl) ?_
  refine xA (ok_get hC (show decode prog_2_method_3_code 147 = .ok (.getfield 64, 3) by decide +kernel) (by decide) (r0 := ("StyleCourt$Slice", xF2, 3)) rfl (by decide) rfl w_197) ?_
  refine xA (ok_callV hC hnh (show decode prog_2_method_3_code 150 = .ok (.invokevirtual 67, 3) by decide +kernel) (by decide) (by decide) (by decide) (r0 := ("StyleCourt$Reader", xF1, 3)) rfl ⟨by decide, by decide, by decide +kernel⟩ w_591 w_70 w_890 w_589 w_590) ?_
  refine xA (ok_vret hC hr (show decode prog_2_method_3_code 153 = .ok (.return_, 1) by decide +kernel)) ?_
  exact trivial

def tb_Co_holdsFor (X : xX) : List (Nat × xOp) := [(0, o_ald 0 1),
  (1, o_get 6 0 4),
  (4, o_sw [(1, 40), (2, 54), (3, 67), (4, 72), (5, 89)] 116),
  (40, o_ald 1 41),
  (41, o_get 4 4 44),
  (44, o_ic 1 45),
  (45, o_icne 52 48),
  (48, o_ic 1 49),
  (49, o_goto 53),
  (52, o_ic 0 53),
  (53, o_zret .boolean X.P),
  (54, o_ald 1 55),
  (55, o_get 4 10 58),
  (58, o_ifne 65 61),
  (61, o_ic 1 62),
  (62, o_goto 66),
  (65, o_ic 0 66),
  (66, o_zret .boolean X.P),
  (67, o_ald 1 68),
  (68, o_callV X.l X.D X.P 4 0 1 y_El_isEmpty 71),
  (71, o_zret .boolean X.P),
  (72, o_ald 1 73),
  (73, o_get 4 4 76),
  (76, o_ald 0 77),
  (77, o_get 6 3 80),
  (80, o_icne 87 83),
  (83, o_ic 1 84),
  (84, o_goto 88),
  (87, o_ic 0 88),
  (88, o_zret .boolean X.P),
  (89, o_ald 0 90),
  (90, o_get 6 1 93),
  (93, o_nul 114 96),
  (96, o_ald 1 97),
  (97, o_get 4 0 100),
  (100, o_ald 0 101),
  (101, o_get 6 1 104),
  (104, o_callV X.l X.D X.P 2 0 2 y_Sl_sameAs 107),
  (107, o_ifne 114 110),
  (110, o_ic 1 111),
  (111, o_goto 115),
  (114, o_ic 0 115),
  (115, o_zret .boolean X.P),
  (116, o_ald 0 117),
  (117, o_get 6 1 120),
  (120, o_nul 145 123),
  (123, o_ald 0 124),
  (124, o_ald 1 125),
  (125, o_get 4 7 128),
  (128, o_ald 0 129),
  (129, o_get 6 1 132),
  (132, o_callS X.l X.D X.P 3 2 y_Sc_findNamed 135),
  (135, o_callV X.l X.D X.P 6 1 2 y_Co_holdsForField 138),
  (138, o_ifeq 145 141),
  (141, o_ic 1 142),
  (142, o_goto 146),
  (145, o_ic 0 146),
  (146, o_zret .boolean X.P)]
theorem tk_Co_holdsFor {X : xX} (hC : xCx X prog_2_method_4_code "StyleCourt$Condition" 2 4) (hr : X.meth.sig.returnType = (some .boolean)) (hnh : X.c.exceptionTable.isEmpty = true) (hin : X.meth.name = "holdsFor") : xAll X (tb_Co_holdsFor X) := by
  refine xA (ok_aload_n hC (show decode prog_2_method_4_code 0 = .ok (.aload_n 0, 1) by decide +kernel) rfl) ?_
  refine xA (ok_get hC (show decode prog_2_method_4_code 1 = .ok (.getfield 9, 3) by decide +kernel) (by decide) (r0 := ("StyleCourt$Condition", xF6, 4)) rfl (by decide) rfl w_806) ?_
  refine xA (ok_table hC [(1, 40), (2, 54), (3, 67), (4, 72), (5, 89)] (show decode prog_2_method_4_code 4 = .ok (.tableswitch 112 1 5 #[36, 50, 63, 68, 85], 36) by decide +kernel) (by decide) (by decide) (by decide)) ?_
  refine xA (ok_aload_n hC (show decode prog_2_method_4_code 40 = .ok (.aload_n 1, 1) by decide +kernel) rfl) ?_
  refine xA (ok_get hC (show decode prog_2_method_4_code 41 = .ok (.getfield 71, 3) by decide +kernel) (by decide) (r0 := ("StyleCourt$Element", xF4, 15)) rfl (by decide) rfl w_233) ?_
  refine xA (ok_iconst hC (show decode prog_2_method_4_code 44 = .ok (.iconst 1, 1) by decide +kernel) (by decide)) ?_
  refine xA (ok_icne hC (show decode prog_2_method_4_code 45 = .ok (.if_icmp .ne 7, 3) by decide +kernel) (by decide)) ?_
  refine xA (ok_iconst hC (show decode prog_2_method_4_code 48 = .ok (.iconst 1, 1) by decide +kernel) (by decide)) ?_
  refine xA (ok_goto hC (show decode prog_2_method_4_code 49 = .ok (.goto 4, 3) by decide +kernel) (by decide)) ?_
  refine xA (ok_iconst hC (show decode prog_2_method_4_code 52 = .ok (.iconst 0, 1) by decide +kernel) (by decide)) ?_
  refine xA (ok_zret hC hr (show decode prog_2_method_4_code 53 = .ok (.ireturn, 1) by decide +kernel)) ?_
  refine xA (ok_aload_n hC (show decode prog_2_method_4_code 54 = .ok (.aload_n 1, 1) by decide +kernel) rfl) ?_
  refine xA (ok_get hC (show decode prog_2_method_4_code 55 = .ok (.getfield 74, 3) by decide +kernel) (by decide) (r0 := ("StyleCourt$Element", xF4, 15)) rfl (by decide) rfl w_251) ?_
  refine xA (ok_ifne hC (show decode prog_2_method_4_code 58 = .ok (.ifCond .ne 7, 3) by decide +kernel) (by decide)) ?_
  refine xA (ok_iconst hC (show decode prog_2_method_4_code 61 = .ok (.iconst 1, 1) by decide +kernel) (by decide)) ?_
  refine xA (ok_goto hC (show decode prog_2_method_4_code 62 = .ok (.goto 4, 3) by decide +kernel) (by decide)) ?_
  refine xA (ok_iconst hC (show decode prog_2_method_4_code 65 = .ok (.iconst 0, 1) by decide +kernel) (by decide)) ?_
  refine xA (ok_zret hC hr (show decode prog_2_method_4_code 66 = .ok (.ireturn, 1) by decide +kernel)) ?_
  refine xA (ok_aload_n hC (show decode prog_2_method_4_code 67 = .ok (.aload_n 1, 1) by decide +kernel) rfl) ?_
  refine xA (ok_callV hC hnh (show decode prog_2_method_4_code 68 = .ok (.invokevirtual 78, 3) by decide +kernel) (by decide) (by decide) (by decide) (r0 := ("StyleCourt$Element", xF4, 15)) rfl ⟨by decide, by decide, by decide +kernel⟩ w_1021 w_78 w_1018 w_1019 w_1020) ?_
  refine xA (ok_zret hC hr (show decode prog_2_method_4_code 71 = .ok (.ireturn, 1) by decide +kernel)) ?_
  refine xA (ok_aload_n hC (show decode prog_2_method_4_code 72 = .ok (.aload_n 1, 1) by decide +kernel) rfl) ?_
  refine xA (ok_get hC (show decode prog_2_method_4_code 73 = .ok (.getfield 71, 3) by decide +kernel) (by decide) (r0 := ("StyleCourt$Element", xF4, 15)) rfl (by decide) rfl w_233) ?_
  refine xA (ok_aload_n hC (show decode prog_2_method_4_code 76 = .ok (.aload_n 0, 1) by decide +kernel) rfl) ?_
  refine xA (ok_get hC (show decode prog_2_method_4_code 77 = .ok (.getfield 22, 3) by decide +kernel) (by decide) (r0 := ("StyleCourt$Condition", xF6, 4)) rfl (by decide) rfl w_809) ?_
  refine xA (ok_icne hC (show decode prog_2_method_4_code 80 = .ok (.if_icmp .ne 7, 3) by decide +kernel) (by decide)) ?_
  refine xA (ok_iconst hC (show decode prog_2_method_4_code 83 = .ok (.iconst 1, 1) by decide +kernel) (by decide)) ?_
  refine xA (ok_goto hC (show decode prog_2_method_4_code 84 = .ok (.goto 4, 3) by decide +kernel) (by decide)) ?_
  refine xA (ok_iconst hC (show decode prog_2_method_4_code 87 = .ok (.iconst 0, 1) by decide +kernel) (by decide)) ?_
  refine xA (ok_zret hC hr (show decode prog_2_method_4_code 88 = .ok (.ireturn, 1) by decide +kernel)) ?_
  refine xA (ok_aload_n hC (show decode prog_2_method_4_code 89 = .ok (.aload_n 0, 1) by decide +kernel) rfl) ?_
  refine xA (ok_get hC (show decode prog_2_method_4_code 90 = .ok (.getfield 15, 3) by decide +kernel) (by decide) (r0 := ("StyleCourt$Condition", xF6, 4)) rfl (by decide) rfl w_807) ?_
  refine xA (ok_ifnull hC (show decode prog_2_method_4_code 93 = .ok (.ifnull 21, 3) by decide +kernel) (by decide)) ?_
  refine xA (ok_aload_n hC (show decode prog_2_method_4_code 96 = .ok (.aload_n 1, 1) by decide +kernel) rfl) ?_
  refine xA (ok_get hC (show decode prog_2_method_4_code 97 = .ok (.getfield 82, 3) by decide +kernel) (by decide) (r0 := ("StyleCourt$Element", xF4, 15)) rfl (by decide) rfl w_218) ?_
  refine xA (ok_aload_n hC (show decode prog_2_method_4_code 100 = .ok (.aload_n 0, 1) by decide +kernel) rfl) ?_
  refine xA (ok_get hC (show decode prog_2_method_4_code 101 = .ok (.getfield 15, 3) by decide +kernel) (by decide) (r0 := ("StyleCourt$Condition", xF6, 4)) rfl (by decide) rfl w_807) ?_
  refine xA (ok_callV hC hnh (show decode prog_2_method_4_code 104 = .ok (.invokevirtual 83, 3) by decide +kernel) (by decide) (by decide) (by decide) (r0 := ("StyleCourt$Slice", xF2, 3)) rfl ⟨by decide, by decide, by decide +kernel⟩ w_625 w_79 w_1022 w_623 w_624) ?_
  refine xA (ok_ifne hC (show decode prog_2_method_4_code 107 = .ok (.ifCond .ne 7, 3) by decide +kernel) (by decide)) ?_
  refine xA (ok_iconst hC (show decode prog_2_method_4_code 110 = .ok (.iconst 1, 1) by decide +kernel) (by decide)) ?_
  refine xA (ok_goto hC (show decode prog_2_method_4_code 111 = .ok (.goto 4, 3) by decide +kernel) (by decide)) ?_
  refine xA (ok_iconst hC (show decode prog_2_method_4_code 114 = .ok (.iconst 0, 1) by decide +kernel) (by decide)) ?_
  refine xA (ok_zret hC hr (show decode prog_2_method_4_code 115 = .ok (.ireturn, 1) by decide +kernel)) ?_
  refine xA (ok_aload_n hC (show decode prog_2_method_4_code 116 = .ok (.aload_n 0, 1) by decide +kernel) rfl) ?_
  refine xA (ok_get hC (show decode prog_2_method_4_code 117 = .ok (.getfield 15, 3) by decide +kernel) (by decide) (r0 := ("StyleCourt$Condition", xF6, 4)) rfl (by decide) rfl w_807) ?_
  refine xA (ok_ifnull hC (show decode prog_2_method_4_code 120 = .ok (.ifnull 25, 3) by decide +kernel) (by decide)) ?_
  refine xA (ok_aload_n hC (show decode prog_2_method_4_code 123 = .ok (.aload_n 0, 1) by decide +kernel) rfl) ?_
  refine xA (ok_aload_n hC (show decode prog_2_method_4_code 124 = .ok (.aload_n 1, 1) by decide +kernel) rfl) ?_
  refine xA (ok_get hC (show decode prog_2_method_4_code 125 = .ok (.getfield 87, 3) by decide +kernel) (by decide) (r0 := ("StyleCourt$Element", xF4, 15)) rfl (by decide) rfl w_242) ?_
  refine xA (ok_aload_n hC (show decode prog_2_method_4_code 128 = .ok (.aload_n 0, 1) by decide +kernel) rfl) ?_
  refine xA (ok_get hC (show decode prog_2_method_4_code 129 = .ok (.getfield 15, 3) by decide +kernel) (by decide) (r0 := ("StyleCourt$Condition", xF6, 4)) rfl (by decide) rfl w_807) ?_
  refine xA (ok_callSN (hh := []) hC hnh (show decode prog_2_method_4_code 132 = .ok (.invokestatic 91, 3) by decide +kernel) (by decide) (by decide) ⟨by decide, by decide, by decide +kernel⟩ (Or.inl w_657) w_69 w_1023 w_656) ?_
  refine xA (ok_callV hC hnh (show decode prog_2_method_4_code 135 = .ok (.invokevirtual 95, 3) by decide +kernel) (by decide) (by decide) (by decide) (r0 := ("StyleCourt$Condition", xF6, 4)) rfl ⟨by decide, by decide, by decide +kernel⟩ w_1027 w_95 w_1024 w_1026 w_20) ?_
  refine xA (ok_ifeq hC (show decode prog_2_method_4_code 138 = .ok (.ifCond .eq 7, 3) by decide +kernel) (by decide)) ?_
  refine xA (ok_iconst hC (show decode prog_2_method_4_code 141 = .ok (.iconst 1, 1) by decide +kernel) (by decide)) ?_
  refine xA (ok_goto hC (show decode prog_2_method_4_code 142 = .ok (.goto 4, 3) by decide +kernel) (by decide)) ?_
  refine xA (ok_iconst hC (show decode prog_2_method_4_code 145 = .ok (.iconst 0, 1) by decide +kernel) (by decide)) ?_
  refine xA (ok_zret hC hr (show decode prog_2_method_4_code 146 = .ok (.ireturn, 1) by decide +kernel)) ?_
  exact trivial

def tb_Co_holdsForField (X : xX) : List (Nat × xOp) := [(0, o_ald 1 1),
  (1, o_nul 29 4),
  (4, o_ald 0 5),
  (5, o_get 6 2 8),
  (8, o_nul 25 11),
  (11, o_ald 1 12),
  (12, o_get 3 1 15),
  (15, o_ald 0 16),
  (16, o_get 6 2 19),
  (19, o_callV X.l X.D X.P 2 0 2 y_Sl_sameAs 22),
  (22, o_ifeq 29 25),
  (25, o_ic 1 26),
  (26, o_goto 30),
  (29, o_ic 0 30),
  (30, o_zret .boolean X.P)]
theorem tk_Co_holdsForField {X : xX} (hC : xCx X prog_2_method_5_code "StyleCourt$Condition" 2 1) (hr : X.meth.sig.returnType = (some .boolean)) (hnh : X.c.exceptionTable.isEmpty = true) (hin : X.meth.name = "holdsForField") : xAll X (tb_Co_holdsForField X) := by
  refine xA (ok_aload_n hC (show decode prog_2_method_5_code 0 = .ok (.aload_n 1, 1) by decide +kernel) rfl) ?_
  refine xA (ok_ifnull hC (show decode prog_2_method_5_code 1 = .ok (.ifnull 28, 3) by decide +kernel) (by decide)) ?_
  refine xA (ok_aload_n hC (show decode prog_2_method_5_code 4 = .ok (.aload_n 0, 1) by decide +kernel) rfl) ?_
  refine xA (ok_get hC (show decode prog_2_method_5_code 5 = .ok (.getfield 19, 3) by decide +kernel) (by decide) (r0 := ("StyleCourt$Condition", xF6, 4)) rfl (by decide) rfl w_808) ?_
  refine xA (ok_ifnull hC (show decode prog_2_method_5_code 8 = .ok (.ifnull 17, 3) by decide +kernel) (by decide)) ?_
  refine xA (ok_aload_n hC (show decode prog_2_method_5_code 11 = .ok (.aload_n 1, 1) by decide +kernel) rfl) ?_
  refine xA (ok_get hC (show decode prog_2_method_5_code 12 = .ok (.getfield 99, 3) by decide +kernel) (by decide) (r0 := ("StyleCourt$Named", xF3, 2)) rfl (by decide) rfl w_304) ?_
  refine xA (ok_aload_n hC (show decode prog_2_method_5_code 15 = .ok (.aload_n 0, 1) by decide +kernel) rfl) ?_
  refine xA (ok_get hC (show decode prog_2_method_5_code 16 = .ok (.getfield 19, 3) by decide +kernel) (by decide) (r0 := ("StyleCourt$Condition", xF6, 4)) rfl (by decide) rfl w_808) ?_
  refine xA (ok_callV hC hnh (show decode prog_2_method_5_code 19 = .ok (.invokevirtual 83, 3) by decide +kernel) (by decide) (by decide) (by decide) (r0 := ("StyleCourt$Slice", xF2, 3)) rfl ⟨by decide, by decide, by decide +kernel⟩ w_625 w_79 w_1022 w_623 w_624) ?_
  refine xA (ok_ifeq hC (show decode prog_2_method_5_code 22 = .ok (.ifCond .eq 7, 3) by decide +kernel) (by decide)) ?_
  refine xA (ok_iconst hC (show decode prog_2_method_5_code 25 = .ok (.iconst 1, 1) by decide +kernel) (by decide)) ?_
  refine xA (ok_goto hC (show decode prog_2_method_5_code 26 = .ok (.goto 4, 3) by decide +kernel) (by decide)) ?_
  refine xA (ok_iconst hC (show decode prog_2_method_5_code 29 = .ok (.iconst 0, 1) by decide +kernel) (by decide)) ?_
  refine xA (ok_zret hC hr (show decode prog_2_method_5_code 30 = .ok (.ireturn, 1) by decide +kernel)) ?_
  exact trivial

def tb_Sp_init (X : xX) : List (Nat × xOp) := [(0, o_ald 0 1),
  (1, o_obj 4),
  (4, o_ald 0 5),
  (5, o_null 6),
  (6, o_put 7 1 (.object "StyleCourt$Slice") 9),
  (9, o_ald 0 10),
  (10, o_new 12 3 [.int 0, .null, .int 0] 13),
  (13, o_dup 14),
  (14, o_callI X.l X.D X.P 3 1 y_AL_init 17),
  (17, o_put 7 2 (.object "java/util/ArrayList") 20),
  (20, o_ald 0 21),
  (21, o_ild 1 22),
  (22, o_put 7 0 (.int) 25),
  (25, o_vret X.P)]
theorem tk_Sp_init {X : xX} (hC : xCx X prog_10_method_1_code "StyleCourt$Step" 2 4) (hr : X.meth.sig.returnType = none) (hnh : X.c.exceptionTable.isEmpty = true) (hin : X.meth.name = "<init>") : xAll X (tb_Sp_init X) := by
  refine xA (ok_aload_n hC (show decode prog_10_method_1_code 0 = .ok (.aload_n 0, 1) by decide +kernel) rfl) ?_
  refine xA (ok_obj hC (by decide) (show decode prog_10_method_1_code 1 = .ok (.invokespecial 3, 3) by decide +kernel) w_779 w_106 w_107) ?_
  refine xA (ok_aload_n hC (show decode prog_10_method_1_code 4 = .ok (.aload_n 0, 1) by decide +kernel) rfl) ?_
  refine xA (ok_null hC (show decode prog_10_method_1_code 5 = .ok (.aconst_null, 1) by decide +kernel)) ?_
  refine xA (ok_put hC (show decode prog_10_method_1_code 6 = .ok (.putfield 9, 3) by decide +kernel) (by decide) (r0 := ("StyleCourt$Step", xF7, 3)) rfl (by decide) rfl (by decide +kernel) w_784) ?_
  refine xA (ok_aload_n hC (show decode prog_10_method_1_code 9 = .ok (.aload_n 0, 1) by decide +kernel) rfl) ?_
  refine xA (ok_new hC (show decode prog_10_method_1_code 10 = .ok (.new 15, 3) by decide +kernel) (by decide) (r0 := ("java/util/ArrayList", xF12, 3)) rfl (by decide) w_780 w_161 w_77) ?_
  refine xA (ok_dup hC (show decode prog_10_method_1_code 13 = .ok (.dup, 1) by decide +kernel)) ?_
  refine xA (ok_callI hC hnh (show decode prog_10_method_1_code 14 = .ok (.invokespecial 17, 3) by decide +kernel) (by decide) (by decide) ⟨by decide, by decide, by decide +kernel⟩ rfl w_164 w_77 w_781 w_163) ?_
  refine xA (ok_putF hC hin (show decode prog_10_method_1_code 17 = .ok (.putfield 18, 3) by decide +kernel) (by decide) (r0 := ("StyleCourt$Step", xF7, 3)) rfl (by decide) rfl (by decide +kernel) w_785) ?_
  refine xA (ok_aload_n hC (show decode prog_10_method_1_code 20 = .ok (.aload_n 0, 1) by decide +kernel) rfl) ?_
  refine xA (ok_iload_n hC (show decode prog_10_method_1_code 21 = .ok (.iload_n 1, 1) by decide +kernel) rfl) ?_
  refine xA (ok_putF hC hin (show decode prog_10_method_1_code 22 = .ok (.putfield 22, 3) by decide +kernel) (by decide) (r0 := ("StyleCourt$Step", xF7, 3)) rfl (by decide) rfl (by decide +kernel) w_782) ?_
  refine xA (ok_vret hC hr (show decode prog_10_method_1_code 25 = .ok (.return_, 1) by decide +kernel)) ?_
  exact trivial

def tb_Sp_readFrom (X : xX) : List (Nat × xOp) := [(0, o_ald 1 1),
  (1, o_callV X.l X.D X.P 1 1 1 y_Rd_nextSign 4),
  (4, o_ic 42 6),
  (6, o_icne 22 9),
  (9, o_ald 1 10),
  (10, o_dup 11),
  (11, o_get 1 1 14),
  (14, o_ic 1 15),
  (15, o_iadd 16),
  (16, o_put 1 1 (.int) 19),
  (19, o_goto 30),
  (22, o_ald 0 23),
  (23, o_ald 1 24),
  (24, o_callV X.l X.D X.P 1 7 1 y_Rd_readName 27),
  (27, o_put 7 1 (.object "StyleCourt$Slice") 30),
  (30, o_ic 0 31),
  (31, o_ist 2 32),
  (32, o_ild 2 33),
  (33, o_ic 4 34),
  (34, o_icgt 124 37),
  (37, o_ald 1 38),
  (38, o_callV X.l X.D X.P 1 1 1 y_Rd_nextSign 41),
  (41, o_ist 3 42),
  (42, o_ild 3 43),
  (43, o_ic 91 45),
  (45, o_iceq 55 48),
  (48, o_ild 3 49),
  (49, o_ic 58 51),
  (51, o_iceq 55 54),
  (54, o_vret X.P),
  (55, o_ild 2 56),
  (56, o_ic 4 57),
  (57, o_icne 68 60),
  (60, o_ald 1 61),
  (61, o_ald 1 62),
  (62, o_get 1 1 65),
  (65, o_callV X.l X.D X.P 1 6 2 y_Rd_failAt 68),
  (68, o_ald 1 69),
  (69, o_dup 70),
  (70, o_get 1 1 73),
  (73, o_ic 1 74),
  (74, o_iadd 75),
  (75, o_put 1 1 (.int) 78),
  (78, o_new 6 4 [.int 0, .null, .null, .int 0] 81),
  (81, o_dup 82),
  (82, o_callI X.l X.D X.P 1 1 y_Co_init 85),
  (85, o_ast 4 87),
  (87, o_ild 3 88),
  (88, o_ic 91 90),
  (90, o_icne 102 93),
  (93, o_ald 4 95),
  (95, o_ald 1 96),
  (96, o_callV X.l X.D X.P 6 8 2 y_Co_readBracket 99),
  (99, o_goto 108),
  (102, o_ald 4 104),
  (104, o_ald 1 105),
  (105, o_callV X.l X.D X.P 6 8 2 y_Co_readColon 108),
  (108, o_ald 0 109),
  (109, o_get 7 2 112),
  (112, o_ald 4 114),
  (114, o_callV X.l X.D X.P 12 6 2 y_AL_add 117),
  (117, o_pop 118),
  (118, o_inc 2 1 121),
  (121, o_goto 32),
  (124, o_vret X.P)]
theorem tk_Sp_readFrom {X : xX} (hC : xCx X prog_10_method_2_code "StyleCourt$Step" 5 9) (hr : X.meth.sig.returnType = none) (hnh : X.c.exceptionTable.isEmpty = true) (hin : X.meth.name = "readFrom") : xAll X (tb_Sp_readFrom X) := by
  refine xA (ok_aload_n hC (show decode prog_10_method_2_code 0 = .ok (.aload_n 1, 1) by decide +kernel) rfl) ?_
  refine xA (ok_callV hC hnh (show decode prog_10_method_2_code 1 = .ok (.invokevirtual 26, 3) by decide +kernel) (by decide) (by decide) (by decide) (r0 := ("StyleCourt$Reader", xF1, 3)) rfl ⟨by decide, by decide, by decide +kernel⟩ w_633 w_70 w_797 w_631 w_632) ?_
  refine xA (ok_bipush hC (show decode prog_10_method_2_code 4 = .ok (.bipush 42, 2) by decide +kernel) (by decide)) ?_
  refine xA (ok_icne hC (show decode prog_10_method_2_code 6 = .ok (.if_icmp .ne 16, 3) by decide +kernel) (by decide)) ?_
  refine xA (ok_aload_n hC (show decode prog_10_method_2_code 9 = .ok (.aload_n 1, 1) by decide +kernel) rfl) ?_
  refine xA (ok_dup hC (show decode prog_10_method_2_code 10 = .ok (.dup, 1) by decide +kernel)) ?_
  refine xA (ok_get hC (show decode prog_10_method_2_code 11 = .ok (.getfield 32, 3) by decide +kernel) (by decide) (r0 := ("StyleCourt$Reader", xF1, 3)) rfl (by decide) rfl w_137) ?_
  refine xA (ok_iconst hC (show decode prog_10_method_2_code 14 = .ok (.iconst 1, 1) by decide +kernel) (by decide)) ?_
  refine xA (ok_iadd hC (show decode prog_10_method_2_code 15 = .ok (.iadd, 1) by decide +kernel)) ?_
  refine xA (ok_put hC (show decode prog_10_method_2_code 16 = .ok (.putfield 32, 3) by decide +kernel) (by decide) (r0 := ("StyleCourt$Reader", xF1, 3)) rfl (by decide) rfl (by decide +kernel) w_137) ?_
  refine xA (ok_goto hC (show decode prog_10_method_2_code 19 = .ok (.goto 11, 3) by decide +kernel) (by decide)) ?_
  refine xA (ok_aload_n hC (show decode prog_10_method_2_code 22 = .ok (.aload_n 0, 1) by decide +kernel) rfl) ?_
  refine xA (ok_aload_n hC (show decode prog_10_method_2_code 23 = .ok (.aload_n 1, 1) by decide +kernel) rfl) ?_
  refine xA (ok_callV hC hnh (show decode prog_10_method_2_code 24 = .ok (.invokevirtual 35, 3) by decide +kernel) (by decide) (by decide) (by decide) (r0 := ("StyleCourt$Reader", xF1, 3)) rfl ⟨by decide, by decide, by decide +kernel⟩ w_611 w_70 w_798 w_609 w_610) ?_
  refine xA (ok_put hC (show decode prog_10_method_2_code 27 = .ok (.putfield 9, 3) by decide +kernel) (by decide) (r0 := ("StyleCourt$Step", xF7, 3)) rfl (by decide) rfl (by decide +kernel) w_784) ?_
  refine xA (ok_iconst hC (show decode prog_10_method_2_code 30 = .ok (.iconst 0, 1) by decide +kernel) (by decide)) ?_
  refine xA (ok_istore_n hC (show decode prog_10_method_2_code 31 = .ok (.istore_n 2, 1) by decide +kernel) rfl (by decide)) ?_
  refine xA (ok_iload_n hC (show decode prog_10_method_2_code 32 = .ok (.iload_n 2, 1) by decide +kernel) rfl) ?_
  refine xA (ok_iconst hC (show decode prog_10_method_2_code 33 = .ok (.iconst 4, 1) by decide +kernel) (by decide)) ?_
  refine xA (ok_icgt hC (show decode prog_10_method_2_code 34 = .ok (.if_icmp .gt 90, 3) by decide +kernel) (by decide)) ?_
  refine xA (ok_aload_n hC (show decode prog_10_method_2_code 37 = .ok (.aload_n 1, 1) by decide +kernel) rfl) ?_
  refine xA (ok_callV hC hnh (show decode prog_10_method_2_code 38 = .ok (.invokevirtual 26, 3) by decide +kernel) (by decide) (by decide) (by decide) (r0 := ("StyleCourt$Reader", xF1, 3)) rfl ⟨by decide, by decide, by decide +kernel⟩ w_633 w_70 w_797 w_631 w_632) ?_
  refine xA (ok_istore_n hC (show decode prog_10_method_2_code 41 = .ok (.istore_n 3, 1) by decide +kernel) rfl (by decide)) ?_
  refine xA (ok_iload_n hC (show decode prog_10_method_2_code 42 = .ok (.iload_n 3, 1) by decide +kernel) rfl) ?_
  refine xA (ok_bipush hC (show decode prog_10_method_2_code 43 = .ok (.bipush 91, 2) by decide +kernel) (by decide)) ?_
  refine xA (ok_iceq hC (show decode prog_10_method_2_code 45 = .ok (.if_icmp .eq 10, 3) by decide +kernel) (by decide)) ?_
  refine xA (ok_iload_n hC (show decode prog_10_method_2_code 48 = .ok (.iload_n 3, 1) by decide +kernel) rfl) ?_
  refine xA (ok_bipush hC (show decode prog_10_method_2_code 49 = .ok (.bipush 58, 2) by decide +kernel) (by decide)) ?_
  refine xA (ok_iceq hC (show decode prog_10_method_2_code 51 = .ok (.if_icmp .eq 4, 3) by decide +kernel) (by decide)) ?_
  refine xA (ok_vret hC hr (show decode prog_10_method_2_code 54 = .ok (.return_, 1) by decide +kernel)) ?_
  refine xA (ok_iload_n hC (show decode prog_10_method_2_code 55 = .ok (.iload_n 2, 1) by decide +kernel) rfl) ?_
  refine xA (ok_iconst hC (show decode prog_10_method_2_code 56 = .ok (.iconst 4, 1) by decide +kernel) (by decide)) ?_
  refine xA (ok_icne hC (show decode prog_10_method_2_code 57 = .ok (.if_icmp .ne 11, 3) by decide +kernel) (by decide)) ?_
  refine xA (ok_aload_n hC (show decode prog_10_method_2_code 60 = .ok (.aload_n 1, 1) by decide +kernel) rfl) ?_
  refine xA (ok_aload_n hC (show decode prog_10_method_2_code 61 = .ok (.aload_n 1, 1) by decide +kernel) rfl) ?_
  refine xA (ok_get hC (show decode prog_10_method_2_code 62 = .ok (.getfield 32, 3) by decide +kernel) (by decide) (r0 := ("StyleCourt$Reader", xF1, 3)) rfl (by decide) rfl w_137) ?_
  refine xA (ok_callV hC hnh (show decode prog_10_method_2_code 65 = .ok (.invokevirtual 39, 3) by decide +kernel) (by decide) (by decide) (by decide) (r0 := ("StyleCourt$Reader", xF1, 3)) rfl ⟨by decide, by decide, by decide +kernel⟩ w_591 w_70 w_799 w_589 w_590) ?_
  refine xA (ok_aload_n hC (show decode prog_10_method_2_code 68 = .ok (.aload_n 1, 1) by decide +kernel) rfl) ?_
  refine xA (ok_dup hC (show decode prog_10_method_2_code 69 = .ok (.dup, 1) by decide +kernel)) ?_
  refine xA (ok_get hC (show decode prog_10_method_2_code 70 = .ok (.getfield 32, 3) by decide +kernel) (by decide) (r0 := ("StyleCourt$Reader", xF1, 3)) rfl (by decide) rfl w_137) ?_
  refine xA (ok_iconst hC (show decode prog_10_method_2_code 73 = .ok (.iconst 1, 1) by decide +kernel) (by decide)) ?_
  refine xA (ok_iadd hC (show decode prog_10_method_2_code 74 = .ok (.iadd, 1) by decide +kernel)) ?_
  refine xA (ok_put hC (show decode prog_10_method_2_code 75 = .ok (.putfield 32, 3) by decide +kernel) (by decide) (r0 := ("StyleCourt$Reader", xF1, 3)) rfl (by decide) rfl (by decide +kernel) w_137) ?_
  refine xA (ok_new hC (show decode prog_10_method_2_code 78 = .ok (.new 43, 3) by decide +kernel) (by decide) (r0 := ("StyleCourt$Condition", xF6, 4)) rfl (by decide) w_800 w_801 w_95) ?_
  refine xA (ok_dup hC (show decode prog_10_method_2_code 81 = .ok (.dup, 1) by decide +kernel)) ?_
  refine xA (ok_callIN hC hnh (show decode prog_10_method_2_code 82 = .ok (.invokespecial 45, 3) by decide +kernel) (by decide) (by decide) ⟨by decide, by decide, by decide +kernel⟩ rfl w_804 w_95 w_802 w_803) ?_
  refine xA (ok_astore hC (show decode prog_10_method_2_code 85 = .ok (.astore 4, 2) by decide +kernel) (by decide)) ?_
  refine xA (ok_iload_n hC (show decode prog_10_method_2_code 87 = .ok (.iload_n 3, 1) by decide +kernel) rfl) ?_
  refine xA (ok_bipush hC (show decode prog_10_method_2_code 88 = .ok (.bipush 91, 2) by decide +kernel) (by decide)) ?_
  refine xA (ok_icne hC (show decode prog_10_method_2_code 90 = .ok (.if_icmp .ne 12, 3) by decide +kernel) (by decide)) ?_
  refine xA (ok_aload hC (show decode prog_10_method_2_code 93 = .ok (.aload 4, 2) by decide +kernel)) ?_
  refine xA (ok_aload_n hC (show decode prog_10_method_2_code 95 = .ok (.aload_n 1, 1) by decide +kernel) rfl) ?_
  refine xA (ok_callV hC hnh (show decode prog_10_method_2_code 96 = .ok (.invokevirtual 46, 3) by decide +kernel) (by decide) (by decide) (by decide) (r0 := ("StyleCourt$Condition", xF6, 4)) rfl ⟨by decide, by decide, by decide +kernel⟩ w_822 w_95 w_819 w_820 w_821) ?_
  refine xA (ok_goto hC (show decode prog_10_method_2_code 99 = .ok (.goto 9, 3) by decide +kernel) (by decide)) ?_
  refine xA (ok_aload hC (show decode prog_10_method_2_code 102 = .ok (.aload 4, 2) by decide +kernel)) ?_
  refine xA (ok_aload_n hC (show decode prog_10_method_2_code 104 = .ok (.aload_n 1, 1) by decide +kernel) rfl) ?_
  refine xA (ok_callV hC hnh (show decode prog_10_method_2_code 105 = .ok (.invokevirtual 50, 3) by decide +kernel) (by decide) (by decide) (by decide) (r0 := ("StyleCourt$Condition", xF6, 4)) rfl ⟨by decide, by decide, by decide +kernel⟩ w_830 w_95 w_827 w_828 w_829) ?_
  refine xA (ok_aload_n hC (show decode prog_10_method_2_code 108 = .ok (.aload_n 0, 1) by decide +kernel) rfl) ?_
  refine xA (ok_get hC (show decode prog_10_method_2_code 109 = .ok (.getfield 18, 3) by decide +kernel) (by decide) (r0 := ("StyleCourt$Step", xF7, 3)) rfl (by decide) rfl w_785) ?_
  refine xA (ok_aload hC (show decode prog_10_method_2_code 112 = .ok (.aload 4, 2) by decide +kernel)) ?_
  refine xA (ok_callV hC hnh (show decode prog_10_method_2_code 114 = .ok (.invokevirtual 53, 3) by decide +kernel) (by decide) (by decide) (by decide) (r0 := ("java/util/ArrayList", xF12, 3)) rfl ⟨by decide, by decide, by decide +kernel⟩ w_315 w_77 w_891 w_313 w_314) ?_
  refine xA (ok_pop hC (show decode prog_10_method_2_code 117 = .ok (.pop, 1) by decide +kernel)) ?_
  refine xA (ok_iinc hC (show decode prog_10_method_2_code 118 = .ok (.iinc 2 1, 3) by decide +kernel) (by decide) (by decide)) ?_
  refine xA (ok_goto hC (show decode prog_10_method_2_code 121 = .ok (.goto (-89), 3) by decide +kernel) (by decide)) ?_
  refine xA (ok_vret hC hr (show decode prog_10_method_2_code 124 = .ok (.return_, 1) by decide +kernel)) ?_
  exact trivial

def tb_Sp_ownWeight (X : xX) : List (Nat × xOp) := [(0, o_ald 0 1),
  (1, o_get 7 1 4),
  (4, o_nul 7 11),
  (7, o_ic 0 8),
  (8, o_goto 12),
  (11, o_ic 1 12),
  (12, o_ic 100 14),
  (14, o_ald 0 15),
  (15, o_get 7 2 18),
  (18, o_callV X.l X.D X.P 12 0 1 y_AL_size 21),
  (21, o_imul 22),
  (22, o_iadd 23),
  (23, o_iret X.P)]
theorem tk_Sp_ownWeight {X : xX} (hC : xCx X prog_10_method_3_code "StyleCourt$Step" 1 1) (hr : X.meth.sig.returnType = (some .int)) (hnh : X.c.exceptionTable.isEmpty = true) (hin : X.meth.name = "ownWeight") : xAll X (tb_Sp_ownWeight X) := by
  refine xA (ok_aload_n hC (show decode prog_10_method_3_code 0 = .ok (.aload_n 0, 1) by decide +kernel) rfl) ?_
  refine xA (ok_get hC (show decode prog_10_method_3_code 1 = .ok (.getfield 9, 3) by decide +kernel) (by decide) (r0 := ("StyleCourt$Step", xF7, 3)) rfl (by decide) rfl w_784) ?_
  refine xA (ok_ifnonnull hC (show decode prog_10_method_3_code 4 = .ok (.ifnonnull 7, 3) by decide +kernel) (by decide)) ?_
  refine xA (ok_iconst hC (show decode prog_10_method_3_code 7 = .ok (.iconst 0, 1) by decide +kernel) (by decide)) ?_
  refine xA (ok_goto hC (show decode prog_10_method_3_code 8 = .ok (.goto 4, 3) by decide +kernel) (by decide)) ?_
  refine xA (ok_iconst hC (show decode prog_10_method_3_code 11 = .ok (.iconst 1, 1) by decide +kernel) (by decide)) ?_
  refine xA (ok_bipush hC (show decode prog_10_method_3_code 12 = .ok (.bipush 100, 2) by decide +kernel) (by decide)) ?_
  refine xA (ok_aload_n hC (show decode prog_10_method_3_code 14 = .ok (.aload_n 0, 1) by decide +kernel) rfl) ?_
  refine xA (ok_get hC (show decode prog_10_method_3_code 15 = .ok (.getfield 18, 3) by decide +kernel) (by decide) (r0 := ("StyleCourt$Step", xF7, 3)) rfl (by decide) rfl w_785) ?_
  refine xA (ok_callV hC hnh (show decode prog_10_method_3_code 18 = .ok (.invokevirtual 57, 3) by decide +kernel) (by decide) (by decide) (by decide) (r0 := ("java/util/ArrayList", xF12, 3)) rfl ⟨by decide, by decide, by decide +kernel⟩ w_644 w_77 w_897 w_642 w_643) ?_
  refine xA (ok_imul hC (show decode prog_10_method_3_code 21 = .ok (.imul, 1) by decide +kernel)) ?_
  refine xA (ok_iadd hC (show decode prog_10_method_3_code 22 = .ok (.iadd, 1) by decide +kernel)) ?_
  refine xA (ok_iret hC hr (show decode prog_10_method_3_code 23 = .ok (.ireturn, 1) by decide +kernel)) ?_
  exact trivial

def tb_Sp_matches (X : xX) : List (Nat × xOp) := [(0, o_ald 0 1),
  (1, o_get 7 1 4),
  (4, o_nul 23 7),
  (7, o_ald 0 8),
  (8, o_get 7 1 11),
  (11, o_ald 1 12),
  (12, o_get 4 0 15),
  (15, o_callV X.l X.D X.P 2 0 2 y_Sl_sameAs 18),
  (18, o_ifne 23 21),
  (21, o_ic 0 22),
  (22, o_zret .boolean X.P),
  (23, o_ic 0 24),
  (24, o_ist 2 25),
  (25, o_ild 2 26),
  (26, o_ald 0 27),
  (27, o_get 7 2 30),
  (30, o_callV X.l X.D X.P 12 0 1 y_AL_size 33),
  (33, o_icge 62 36),
  (36, o_ald 0 37),
  (37, o_get 7 2 40),
  (40, o_ild 2 41),
  (41, o_callV X.l X.D X.P 12 2 2 y_AL_get 44),
  (44, o_cast (Nat.beq 6) 47),
  (47, o_ald 1 48),
  (48, o_callV X.l X.D X.P 6 4 2 y_Co_holdsFor 51),
  (51, o_ifne 56 54),
  (54, o_ic 0 55),
  (55, o_zret .boolean X.P),
  (56, o_inc 2 1 59),
  (59, o_goto 25),
  (62, o_ic 1 63),
  (63, o_zret .boolean X.P)]
theorem tk_Sp_matches {X : xX} (hC : xCx X prog_10_method_4_code "StyleCourt$Step" 3 5) (hr : X.meth.sig.returnType = (some .boolean)) (hnh : X.c.exceptionTable.isEmpty = true) (hin : X.meth.name = "matches") : xAll X (tb_Sp_matches X) := by
  refine xA (ok_aload_n hC (show decode prog_10_method_4_code 0 = .ok (.aload_n 0, 1) by decide +kernel) rfl) ?_
  refine xA (ok_get hC (show decode prog_10_method_4_code 1 = .ok (.getfield 9, 3) by decide +kernel) (by decide) (r0 := ("StyleCourt$Step", xF7, 3)) rfl (by decide) rfl w_784) ?_
  refine xA (ok_ifnull hC (show decode prog_10_method_4_code 4 = .ok (.ifnull 19, 3) by decide +kernel) (by decide)) ?_
  refine xA (ok_aload_n hC (show decode prog_10_method_4_code 7 = .ok (.aload_n 0, 1) by decide +kernel) rfl) ?_
  refine xA (ok_get hC (show decode prog_10_method_4_code 8 = .ok (.getfield 9, 3) by decide +kernel) (by decide) (r0 := ("StyleCourt$Step", xF7, 3)) rfl (by decide) rfl w_784) ?_
  refine xA (ok_aload_n hC (show decode prog_10_method_4_code 11 = .ok (.aload_n 1, 1) by decide +kernel) rfl) ?_
  refine xA (ok_get hC (show decode prog_10_method_4_code 12 = .ok (.getfield 60, 3) by decide +kernel) (by decide) (r0 := ("StyleCourt$Element", xF4, 15)) rfl (by decide) rfl w_217) ?_
  refine xA (ok_callV hC hnh (show decode prog_10_method_4_code 15 = .ok (.invokevirtual 63, 3) by decide +kernel) (by decide) (by decide) (by decide) (r0 := ("StyleCourt$Slice", xF2, 3)) rfl ⟨by decide, by decide, by decide +kernel⟩ w_625 w_79 w_1012 w_623 w_624) ?_
  refine xA (ok_ifne hC (show decode prog_10_method_4_code 18 = .ok (.ifCond .ne 5, 3) by decide +kernel) (by decide)) ?_
  refine xA (ok_iconst hC (show decode prog_10_method_4_code 21 = .ok (.iconst 0, 1) by decide +kernel) (by decide)) ?_
  refine xA (ok_zret hC hr (show decode prog_10_method_4_code 22 = .ok (.ireturn, 1) by decide +kernel)) ?_
  refine xA (ok_iconst hC (show decode prog_10_method_4_code 23 = .ok (.iconst 0, 1) by decide +kernel) (by decide)) ?_
  refine xA (ok_istore_n hC (show decode prog_10_method_4_code 24 = .ok (.istore_n 2, 1) by decide +kernel) rfl (by decide)) ?_
  refine xA (ok_iload_n hC (show decode prog_10_method_4_code 25 = .ok (.iload_n 2, 1) by decide +kernel) rfl) ?_
  refine xA (ok_aload_n hC (show decode prog_10_method_4_code 26 = .ok (.aload_n 0, 1) by decide +kernel) rfl) ?_
  refine xA (ok_get hC (show decode prog_10_method_4_code 27 = .ok (.getfield 18, 3) by decide +kernel) (by decide) (r0 := ("StyleCourt$Step", xF7, 3)) rfl (by decide) rfl w_785) ?_
  refine xA (ok_callV hC hnh (show decode prog_10_method_4_code 30 = .ok (.invokevirtual 57, 3) by decide +kernel) (by decide) (by decide) (by decide) (r0 := ("java/util/ArrayList", xF12, 3)) rfl ⟨by decide, by decide, by decide +kernel⟩ w_644 w_77 w_897 w_642 w_643) ?_
  refine xA (ok_icge hC (show decode prog_10_method_4_code 33 = .ok (.if_icmp .ge 29, 3) by decide +kernel) (by decide)) ?_
  refine xA (ok_aload_n hC (show decode prog_10_method_4_code 36 = .ok (.aload_n 0, 1) by decide +kernel) rfl) ?_
  refine xA (ok_get hC (show decode prog_10_method_4_code 37 = .ok (.getfield 18, 3) by decide +kernel) (by decide) (r0 := ("StyleCourt$Step", xF7, 3)) rfl (by decide) rfl w_785) ?_
  refine xA (ok_iload_n hC (show decode prog_10_method_4_code 40 = .ok (.iload_n 2, 1) by decide +kernel) rfl) ?_
  refine xA (ok_callV hC hnh (show decode prog_10_method_4_code 41 = .ok (.invokevirtual 69, 3) by decide +kernel) (by decide) (by decide) (by decide) (r0 := ("java/util/ArrayList", xF12, 3)) rfl ⟨by decide, by decide, by decide +kernel⟩ w_662 w_77 w_1013 w_660 w_661) ?_
  refine xA (ok_cast hC (show decode prog_10_method_4_code 44 = .ok (.checkcast 43, 3) by decide +kernel) w_800 (xcast_ok (r0 := ("StyleCourt$Condition", xF6, 4)) (by decide) rfl rfl)) ?_
  refine xA (ok_aload_n hC (show decode prog_10_method_4_code 47 = .ok (.aload_n 1, 1) by decide +kernel) rfl) ?_
  refine xA (ok_callV hC hnh (show decode prog_10_method_4_code 48 = .ok (.invokevirtual 73, 3) by decide +kernel) (by decide) (by decide) (by decide) (r0 := ("StyleCourt$Condition", xF6, 4)) rfl ⟨by decide, by decide, by decide +kernel⟩ w_1017 w_95 w_1014 w_1015 w_1016) ?_
  refine xA (ok_ifne hC (show decode prog_10_method_4_code 51 = .ok (.ifCond .ne 5, 3) by decide +kernel) (by decide)) ?_
  refine xA (ok_iconst hC (show decode prog_10_method_4_code 54 = .ok (.iconst 0, 1) by decide +kernel) (by decide)) ?_
  refine xA (ok_zret hC hr (show decode prog_10_method_4_code 55 = .ok (.ireturn, 1) by decide +kernel)) ?_
  refine xA (ok_iinc hC (show decode prog_10_method_4_code 56 = .ok (.iinc 2 1, 3) by decide +kernel) (by decide) (by decide)) ?_
  refine xA (ok_goto hC (show decode prog_10_method_4_code 59 = .ok (.goto (-34), 3) by decide +kernel) (by decide)) ?_
  refine xA (ok_iconst hC (show decode prog_10_method_4_code 62 = .ok (.iconst 1, 1) by decide +kernel) (by decide)) ?_
  refine xA (ok_zret hC hr (show decode prog_10_method_4_code 63 = .ok (.ireturn, 1) by decide +kernel)) ?_
  exact trivial

def tb_Se_init (X : xX) : List (Nat × xOp) := [(0, o_ald 0 1),
  (1, o_obj 4),
  (4, o_ald 0 5),
  (5, o_new 12 3 [.int 0, .null, .int 0] 8),
  (8, o_dup 9),
  (9, o_callI X.l X.D X.P 3 1 y_AL_init 12),
  (12, o_put 8 0 (.object "java/util/ArrayList") 15),
  (15, o_ald 0 16),
  (16, o_ic 0 17),
  (17, o_put 8 1 (.int) 20),
  (20, o_vret X.P)]
theorem tk_Se_init {X : xX} (hC : xCx X prog_7_method_1_code "StyleCourt$Selector" 1 4) (hr : X.meth.sig.returnType = none) (hnh : X.c.exceptionTable.isEmpty = true) (hin : X.meth.name = "<init>") : xAll X (tb_Se_init X) := by
  refine xA (ok_aload_n hC (show decode prog_7_method_1_code 0 = .ok (.aload_n 0, 1) by decide +kernel) rfl) ?_
  refine xA (ok_obj hC (by decide) (show decode prog_7_method_1_code 1 = .ok (.invokespecial 3, 3) by decide +kernel) w_756 w_106 w_107) ?_
  refine xA (ok_aload_n hC (show decode prog_7_method_1_code 4 = .ok (.aload_n 0, 1) by decide +kernel) rfl) ?_
  refine xA (ok_new hC (show decode prog_7_method_1_code 5 = .ok (.new 9, 3) by decide +kernel) (by decide) (r0 := ("java/util/ArrayList", xF12, 3)) rfl (by decide) w_757 w_161 w_77) ?_
  refine xA (ok_dup hC (show decode prog_7_method_1_code 8 = .ok (.dup, 1) by decide +kernel)) ?_
  refine xA (ok_callI hC hnh (show decode prog_7_method_1_code 9 = .ok (.invokespecial 11, 3) by decide +kernel) (by decide) (by decide) ⟨by decide, by decide, by decide +kernel⟩ rfl w_164 w_77 w_758 w_163) ?_
  refine xA (ok_putF hC hin (show decode prog_7_method_1_code 12 = .ok (.putfield 12, 3) by decide +kernel) (by decide) (r0 := ("StyleCourt$Selector", xF8, 2)) rfl (by decide) rfl (by decide +kernel) w_759) ?_
  refine xA (ok_aload_n hC (show decode prog_7_method_1_code 15 = .ok (.aload_n 0, 1) by decide +kernel) rfl) ?_
  refine xA (ok_iconst hC (show decode prog_7_method_1_code 16 = .ok (.iconst 0, 1) by decide +kernel) (by decide)) ?_
  refine xA (ok_put hC (show decode prog_7_method_1_code 17 = .ok (.putfield 18, 3) by decide +kernel) (by decide) (r0 := ("StyleCourt$Selector", xF8, 2)) rfl (by decide) rfl (by decide +kernel) w_760) ?_
  refine xA (ok_vret hC hr (show decode prog_7_method_1_code 20 = .ok (.return_, 1) by decide +kernel)) ?_
  exact trivial

def tb_Se_readSteps (X : xX) : List (Nat × xOp) := [(0, o_ic (-1) 1),
  (1, o_ist 2 2),
  (2, o_ic 0 3),
  (3, o_ist 3 4),
  (4, o_ild 3 5),
  (5, o_ic 8 7),
  (7, o_icgt 109 10),
  (10, o_ald 1 11),
  (11, o_callV X.l X.D X.P 1 1 1 y_Rd_nextSign 14),
  (14, o_pop 15),
  (15, o_ild 3 16),
  (16, o_ic 8 18),
  (18, o_icne 29 21),
  (21, o_ald 1 22),
  (22, o_ald 1 23),
  (23, o_get 1 1 26),
  (26, o_callV X.l X.D X.P 1 6 2 y_Rd_failAt 29),
  (29, o_new 7 3 [.int 0, .null, .null] 32),
  (32, o_dup 33),
  (33, o_ild 2 34),
  (34, o_callI X.l X.D X.P 4 2 y_Sp_init 37),
  (37, o_ast 4 39),
  (39, o_ald 4 41),
  (41, o_ald 1 42),
  (42, o_callV X.l X.D X.P 7 9 2 y_Sp_readFrom 45),
  (45, o_ald 0 46),
  (46, o_get 8 0 49),
  (49, o_ald 4 51),
  (51, o_callV X.l X.D X.P 12 6 2 y_AL_add 54),
  (54, o_pop 55),
  (55, o_ald 0 56),
  (56, o_dup 57),
  (57, o_get 8 1 60),
  (60, o_ald 4 62),
  (62, o_callV X.l X.D X.P 7 1 1 y_Sp_ownWeight 65),
  (65, o_iadd 66),
  (66, o_put 8 1 (.int) 69),
  (69, o_ald 1 70),
  (70, o_callV X.l X.D X.P 1 1 1 y_Rd_nextSign 73),
  (73, o_ist 2 74),
  (74, o_ild 2 75),
  (75, o_ic 62 77),
  (77, o_iceq 93 80),
  (80, o_ild 2 81),
  (81, o_ic 47 83),
  (83, o_iceq 93 86),
  (86, o_ild 2 87),
  (87, o_ic 43 89),
  (89, o_iceq 93 92),
  (92, o_vret X.P),
  (93, o_ald 1 94),
  (94, o_dup 95),
  (95, o_get 1 1 98),
  (98, o_ic 1 99),
  (99, o_iadd 100),
  (100, o_put 1 1 (.int) 103),
  (103, o_inc 3 1 106),
  (106, o_goto 4),
  (109, o_vret X.P)]
theorem tk_Se_readSteps {X : xX} (hC : xCx X prog_7_method_2_code "StyleCourt$Selector" 5 10) (hr : X.meth.sig.returnType = none) (hnh : X.c.exceptionTable.isEmpty = true) (hin : X.meth.name = "readSteps") : xAll X (tb_Se_readSteps X) := by
  refine xA (ok_iconst hC (show decode prog_7_method_2_code 0 = .ok (.iconst (-1), 1) by decide +kernel) (by decide)) ?_
  refine xA (ok_istore_n hC (show decode prog_7_method_2_code 1 = .ok (.istore_n 2, 1) by decide +kernel) rfl (by decide)) ?_
  refine xA (ok_iconst hC (show decode prog_7_method_2_code 2 = .ok (.iconst 0, 1) by decide +kernel) (by decide)) ?_
  refine xA (ok_istore_n hC (show decode prog_7_method_2_code 3 = .ok (.istore_n 3, 1) by decide +kernel) rfl (by decide)) ?_
  refine xA (ok_iload_n hC (show decode prog_7_method_2_code 4 = .ok (.iload_n 3, 1) by decide +kernel) rfl) ?_
  refine xA (ok_bipush hC (show decode prog_7_method_2_code 5 = .ok (.bipush 8, 2) by decide +kernel) (by decide)) ?_
  refine xA (ok_icgt hC (show decode prog_7_method_2_code 7 = .ok (.if_icmp .gt 102, 3) by decide +kernel) (by decide)) ?_
  refine xA (ok_aload_n hC (show decode prog_7_method_2_code 10 = .ok (.aload_n 1, 1) by decide +kernel) rfl) ?_
  refine xA (ok_callV hC hnh (show decode prog_7_method_2_code 11 = .ok (.invokevirtual 22, 3) by decide +kernel) (by decide) (by decide) (by decide) (r0 := ("StyleCourt$Reader", xF1, 3)) rfl ⟨by decide, by decide, by decide +kernel⟩ w_633 w_70 w_772 w_631 w_632) ?_
  refine xA (ok_pop hC (show decode prog_7_method_2_code 14 = .ok (.pop, 1) by decide +kernel)) ?_
  refine xA (ok_iload_n hC (show decode prog_7_method_2_code 15 = .ok (.iload_n 3, 1) by decide +kernel) rfl) ?_
  refine xA (ok_bipush hC (show decode prog_7_method_2_code 16 = .ok (.bipush 8, 2) by decide +kernel) (by decide)) ?_
  refine xA (ok_icne hC (show decode prog_7_method_2_code 18 = .ok (.if_icmp .ne 11, 3) by decide +kernel) (by decide)) ?_
  refine xA (ok_aload_n hC (show decode prog_7_method_2_code 21 = .ok (.aload_n 1, 1) by decide +kernel) rfl) ?_
  refine xA (ok_aload_n hC (show decode prog_7_method_2_code 22 = .ok (.aload_n 1, 1) by decide +kernel) rfl) ?_
  refine xA (ok_get hC (show decode prog_7_method_2_code 23 = .ok (.getfield 28, 3) by decide +kernel) (by decide) (r0 := ("StyleCourt$Reader", xF1, 3)) rfl (by decide) rfl w_138) ?_
  refine xA (ok_callV hC hnh (show decode prog_7_method_2_code 26 = .ok (.invokevirtual 31, 3) by decide +kernel) (by decide) (by decide) (by decide) (r0 := ("StyleCourt$Reader", xF1, 3)) rfl ⟨by decide, by decide, by decide +kernel⟩ w_591 w_70 w_773 w_589 w_590) ?_
  refine xA (ok_new hC (show decode prog_7_method_2_code 29 = .ok (.new 35, 3) by decide +kernel) (by decide) (r0 := ("StyleCourt$Step", xF7, 3)) rfl (by decide) w_774 w_775 w_94) ?_
  refine xA (ok_dup hC (show decode prog_7_method_2_code 32 = .ok (.dup, 1) by decide +kernel)) ?_
  refine xA (ok_iload_n hC (show decode prog_7_method_2_code 33 = .ok (.iload_n 2, 1) by decide +kernel) rfl) ?_
  refine xA (ok_callI hC hnh (show decode prog_7_method_2_code 34 = .ok (.invokespecial 37, 3) by decide +kernel) (by decide) (by decide) ⟨by decide, by decide, by decide +kernel⟩ rfl w_778 w_94 w_776 w_777) ?_
  refine xA (ok_astore hC (show decode prog_7_method_2_code 37 = .ok (.astore 4, 2) by decide +kernel) (by decide)) ?_
  refine xA (ok_aload hC (show decode prog_7_method_2_code 39 = .ok (.aload 4, 2) by decide +kernel)) ?_
  refine xA (ok_aload_n hC (show decode prog_7_method_2_code 41 = .ok (.aload_n 1, 1) by decide +kernel) rfl) ?_
  refine xA (ok_callV hC hnh (show decode prog_7_method_2_code 42 = .ok (.invokevirtual 39, 3) by decide +kernel) (by decide) (by decide) (by decide) (r0 := ("StyleCourt$Step", xF7, 3)) rfl ⟨by decide, by decide, by decide +kernel⟩ w_796 w_94 w_793 w_794 w_795) ?_
  refine xA (ok_aload_n hC (show decode prog_7_method_2_code 45 = .ok (.aload_n 0, 1) by decide +kernel) rfl) ?_
  refine xA (ok_get hC (show decode prog_7_method_2_code 46 = .ok (.getfield 12, 3) by decide +kernel) (by decide) (r0 := ("StyleCourt$Selector", xF8, 2)) rfl (by decide) rfl w_759) ?_
  refine xA (ok_aload hC (show decode prog_7_method_2_code 49 = .ok (.aload 4, 2) by decide +kernel)) ?_
  refine xA (ok_callV hC hnh (show decode prog_7_method_2_code 51 = .ok (.invokevirtual 43, 3) by decide +kernel) (by decide) (by decide) (by decide) (r0 := ("java/util/ArrayList", xF12, 3)) rfl ⟨by decide, by decide, by decide +kernel⟩ w_315 w_77 w_892 w_313 w_314) ?_
  refine xA (ok_pop hC (show decode prog_7_method_2_code 54 = .ok (.pop, 1) by decide +kernel)) ?_
  refine xA (ok_aload_n hC (show decode prog_7_method_2_code 55 = .ok (.aload_n 0, 1) by decide +kernel) rfl) ?_
  refine xA (ok_dup hC (show decode prog_7_method_2_code 56 = .ok (.dup, 1) by decide +kernel)) ?_
  refine xA (ok_get hC (show decode prog_7_method_2_code 57 = .ok (.getfield 18, 3) by decide +kernel) (by decide) (r0 := ("StyleCourt$Selector", xF8, 2)) rfl (by decide) rfl w_760) ?_
  refine xA (ok_aload hC (show decode prog_7_method_2_code 60 = .ok (.aload 4, 2) by decide +kernel)) ?_
  refine xA (ok_callV hC hnh (show decode prog_7_method_2_code 62 = .ok (.invokevirtual 47, 3) by decide +kernel) (by decide) (by decide) (by decide) (r0 := ("StyleCourt$Step", xF7, 3)) rfl ⟨by decide, by decide, by decide +kernel⟩ w_896 w_94 w_893 w_894 w_895) ?_
  refine xA (ok_iadd hC (show decode prog_7_method_2_code 65 = .ok (.iadd, 1) by decide +kernel)) ?_
  refine xA (ok_put hC (show decode prog_7_method_2_code 66 = .ok (.putfield 18, 3) by decide +kernel) (by decide) (r0 := ("StyleCourt$Selector", xF8, 2)) rfl (by decide) rfl (by decide +kernel) w_760) ?_
  refine xA (ok_aload_n hC (show decode prog_7_method_2_code 69 = .ok (.aload_n 1, 1) by decide +kernel) rfl) ?_
  refine xA (ok_callV hC hnh (show decode prog_7_method_2_code 70 = .ok (.invokevirtual 22, 3) by decide +kernel) (by decide) (by decide) (by decide) (r0 := ("StyleCourt$Reader", xF1, 3)) rfl ⟨by decide, by decide, by decide +kernel⟩ w_633 w_70 w_772 w_631 w_632) ?_
  refine xA (ok_istore_n hC (show decode prog_7_method_2_code 73 = .ok (.istore_n 2, 1) by decide +kernel) rfl (by decide)) ?_
  refine xA (ok_iload_n hC (show decode prog_7_method_2_code 74 = .ok (.iload_n 2, 1) by decide +kernel) rfl) ?_
  refine xA (ok_bipush hC (show decode prog_7_method_2_code 75 = .ok (.bipush 62, 2) by decide +kernel) (by decide)) ?_
  refine xA (ok_iceq hC (show decode prog_7_method_2_code 77 = .ok (.if_icmp .eq 16, 3) by decide +kernel) (by decide)) ?_
  refine xA (ok_iload_n hC (show decode prog_7_method_2_code 80 = .ok (.iload_n 2, 1) by decide +kernel) rfl) ?_
  refine xA (ok_bipush hC (show decode prog_7_method_2_code 81 = .ok (.bipush 47, 2) by decide +kernel) (by decide)) ?_
  refine xA (ok_iceq hC (show decode prog_7_method_2_code 83 = .ok (.if_icmp .eq 10, 3) by decide +kernel) (by decide)) ?_
  refine xA (ok_iload_n hC (show decode prog_7_method_2_code 86 = .ok (.iload_n 2, 1) by decide +kernel) rfl) ?_
  refine xA (ok_bipush hC (show decode prog_7_method_2_code 87 = .ok (.bipush 43, 2) by decide +kernel) (by decide)) ?_
  refine xA (ok_iceq hC (show decode prog_7_method_2_code 89 = .ok (.if_icmp .eq 4, 3) by decide +kernel) (by decide)) ?_
  refine xA (ok_vret hC hr (show decode prog_7_method_2_code 92 = .ok (.return_, 1) by decide +kernel)) ?_
  refine xA (ok_aload_n hC (show decode prog_7_method_2_code 93 = .ok (.aload_n 1, 1) by decide +kernel) rfl) ?_
  refine xA (ok_dup hC (show decode prog_7_method_2_code 94 = .ok (.dup, 1) by decide +kernel)) ?_
  refine xA (ok_get hC (show decode prog_7_method_2_code 95 = .ok (.getfield 28, 3) by decide +kernel) (by decide) (r0 := ("StyleCourt$Reader", xF1, 3)) rfl (by decide) rfl w_138) ?_
  refine xA (ok_iconst hC (show decode prog_7_method_2_code 98 = .ok (.iconst 1, 1) by decide +kernel) (by decide)) ?_
  refine xA (ok_iadd hC (show decode prog_7_method_2_code 99 = .ok (.iadd, 1) by decide +kernel)) ?_
  refine xA (ok_put hC (show decode prog_7_method_2_code 100 = .ok (.putfield 28, 3) by decide +kernel) (by decide) (r0 := ("StyleCourt$Reader", xF1, 3)) rfl (by decide) rfl (by decide +kernel) w_138) ?_
  refine xA (ok_iinc hC (show decode prog_7_method_2_code 103 = .ok (.iinc 3 1, 3) by decide +kernel) (by decide) (by decide)) ?_
  refine xA (ok_goto hC (show decode prog_7_method_2_code 106 = .ok (.goto (-102), 3) by decide +kernel) (by decide)) ?_
  refine xA (ok_vret hC hr (show decode prog_7_method_2_code 109 = .ok (.return_, 1) by decide +kernel)) ?_
  exact trivial

def tb_Se_matches (X : xX) : List (Nat × xOp) := [(0, o_ald 0 1),
  (1, o_get 8 0 4),
  (4, o_callV X.l X.D X.P 12 0 1 y_AL_size 7),
  (7, o_ic 1 8),
  (8, o_isub 9),
  (9, o_ist 3 10),
  (10, o_ild 3 11),
  (11, o_iflt 32 14),
  (14, o_ald 0 15),
  (15, o_get 8 0 18),
  (18, o_ild 3 19),
  (19, o_callV X.l X.D X.P 12 2 2 y_AL_get 22),
  (22, o_cast (Nat.beq 7) 25),
  (25, o_ald 1 26),
  (26, o_callV X.l X.D X.P 7 5 2 y_Sp_matches 29),
  (29, o_ifne 34 32),
  (32, o_ic 0 33),
  (33, o_zret .boolean X.P),
  (34, o_ald 1 35),
  (35, o_get 4 5 38),
  (38, o_ald 2 39),
  (39, o_len 40),
  (40, o_ic 1 41),
  (41, o_isub 42),
  (42, o_min 45),
  (45, o_ist 4 47),
  (47, o_ic 0 48),
  (48, o_ist 5 50),
  (50, o_ild 5 52),
  (52, o_ild 4 54),
  (54, o_icgt 81 57),
  (57, o_ald 2 58),
  (58, o_ild 5 60),
  (60, o_ild 5 62),
  (62, o_ald 1 63),
  (63, o_get 4 5 66),
  (66, o_icne 73 69),
  (69, o_ald 1 70),
  (70, o_goto 74),
  (73, o_null 74),
  (74, o_aast 5 xok5 75),
  (75, o_inc 5 1 78),
  (78, o_goto 50),
  (81, o_ic 1 82),
  (82, o_ist 5 84),
  (84, o_ild 3 85),
  (85, o_ic 1 86),
  (86, o_isub 87),
  (87, o_ist 6 89),
  (89, o_ild 6 91),
  (91, o_iflt 200 94),
  (94, o_ild 5 96),
  (96, o_ifeq 200 99),
  (99, o_ald 2 100),
  (100, o_ild 4 102),
  (102, o_ald 0 103),
  (103, o_get 8 0 106),
  (106, o_ild 6 108),
  (108, o_ic 1 109),
  (109, o_iadd 110),
  (110, o_callV X.l X.D X.P 12 2 2 y_AL_get 113),
  (113, o_cast (Nat.beq 7) 116),
  (116, o_get 7 0 119),
  (119, o_callS X.l X.D X.P 0 3 y_Se_moveBack 122),
  (122, o_ic 0 123),
  (123, o_ist 5 125),
  (125, o_ic 0 126),
  (126, o_ist 7 128),
  (128, o_ild 7 130),
  (130, o_ild 4 132),
  (132, o_icgt 194 135),
  (135, o_ald 2 136),
  (136, o_ild 7 138),
  (138, o_ld 5 139),
  (139, o_nul 169 142),
  (142, o_ald 0 143),
  (143, o_get 8 0 146),
  (146, o_ild 6 148),
  (148, o_callV X.l X.D X.P 12 2 2 y_AL_get 151),
  (151, o_cast (Nat.beq 7) 154),
  (154, o_ald 2 155),
  (155, o_ild 7 157),
  (157, o_ld 5 158),
  (158, o_callV X.l X.D X.P 7 5 2 y_Sp_matches 161),
  (161, o_ifne 169 164),
  (164, o_ald 2 165),
  (165, o_ild 7 167),
  (167, o_null 168),
  (168, o_aast 5 xok5 169),
  (169, o_ild 5 171),
  (171, o_ifne 181 174),
  (174, o_ald 2 175),
  (175, o_ild 7 177),
  (177, o_ld 5 178),
  (178, o_nul 185 181),
  (181, o_ic 1 182),
  (182, o_goto 186),
  (185, o_ic 0 186),
  (186, o_ist 5 188),
  (188, o_inc 7 1 191),
  (191, o_goto 128),
  (194, o_inc 6 (-1) 197),
  (197, o_goto 89),
  (200, o_ild 5 202),
  (202, o_zret .boolean X.P)]
theorem tk_Se_matches {X : xX} (hC : xCx X prog_7_method_3_code "StyleCourt$Selector" 8 6) (hr : X.meth.sig.returnType = (some .boolean)) (hnh : X.c.exceptionTable.isEmpty = true) (hin : X.meth.name = "matches") : xAll X (tb_Se_matches X) := by
  refine xA (ok_aload_n hC (show decode prog_7_method_3_code 0 = .ok (.aload_n 0, 1) by decide +kernel) rfl) ?_
  refine xA (ok_get hC (show decode prog_7_method_3_code 1 = .ok (.getfield 12, 3) by decide +kernel) (by decide) (r0 := ("StyleCourt$Selector", xF8, 2)) rfl (by decide) rfl w_759) ?_
  refine xA (ok_callV hC hnh (show decode prog_7_method_3_code 4 = .ok (.invokevirtual 50, 3) by decide +kernel) (by decide) (by decide) (by decide) (r0 := ("java/util/ArrayList", xF12, 3)) rfl ⟨by decide, by decide, by decide +kernel⟩ w_644 w_77 w_1006 w_642 w_643) ?_
  refine xA (ok_iconst hC (show decode prog_7_method_3_code 7 = .ok (.iconst 1, 1) by decide +kernel) (by decide)) ?_
  refine xA (ok_isub hC (show decode prog_7_method_3_code 8 = .ok (.isub, 1) by decide +kernel)) ?_
  refine xA (ok_istore_n hC (show decode prog_7_method_3_code 9 = .ok (.istore_n 3, 1) by decide +kernel) rfl (by decide)) ?_
  refine xA (ok_iload_n hC (show decode prog_7_method_3_code 10 = .ok (.iload_n 3, 1) by decide +kernel) rfl) ?_
  refine xA (ok_iflt hC (show decode prog_7_method_3_code 11 = .ok (.ifCond .lt 21, 3) by decide +kernel) (by decide)) ?_
  refine xA (ok_aload_n hC (show decode prog_7_method_3_code 14 = .ok (.aload_n 0, 1) by decide +kernel) rfl) ?_
  refine xA (ok_get hC (show decode prog_7_method_3_code 15 = .ok (.getfield 12, 3) by decide +kernel) (by decide) (r0 := ("StyleCourt$Selector", xF8, 2)) rfl (by decide) rfl w_759) ?_
  refine xA (ok_iload_n hC (show decode prog_7_method_3_code 18 = .ok (.iload_n 3, 1) by decide +kernel) rfl) ?_
  refine xA (ok_callV hC hnh (show decode prog_7_method_3_code 19 = .ok (.invokevirtual 53, 3) by decide +kernel) (by decide) (by decide) (by decide) (r0 := ("java/util/ArrayList", xF12, 3)) rfl ⟨by decide, by decide, by decide +kernel⟩ w_662 w_77 w_1007 w_660 w_661) ?_
  refine xA (ok_cast hC (show decode prog_7_method_3_code 22 = .ok (.checkcast 35, 3) by decide +kernel) w_774 (xcast_ok (r0 := ("StyleCourt$Step", xF7, 3)) (by decide) rfl rfl)) ?_
  refine xA (ok_aload_n hC (show decode prog_7_method_3_code 25 = .ok (.aload_n 1, 1) by decide +kernel) rfl) ?_
  refine xA (ok_callV hC hnh (show decode prog_7_method_3_code 26 = .ok (.invokevirtual 57, 3) by decide +kernel) (by decide) (by decide) (by decide) (r0 := ("StyleCourt$Step", xF7, 3)) rfl ⟨by decide, by decide, by decide +kernel⟩ w_1011 w_94 w_1008 w_1009 w_1010) ?_
  refine xA (ok_ifne hC (show decode prog_7_method_3_code 29 = .ok (.ifCond .ne 5, 3) by decide +kernel) (by decide)) ?_
  refine xA (ok_iconst hC (show decode prog_7_method_3_code 32 = .ok (.iconst 0, 1) by decide +kernel) (by decide)) ?_
  refine xA (ok_zret hC hr (show decode prog_7_method_3_code 33 = .ok (.ireturn, 1) by decide +kernel)) ?_
  refine xA (ok_aload_n hC (show decode prog_7_method_3_code 34 = .ok (.aload_n 1, 1) by decide +kernel) rfl) ?_
  refine xA (ok_get hC (show decode prog_7_method_3_code 35 = .ok (.getfield 61, 3) by decide +kernel) (by decide) (r0 := ("StyleCourt$Element", xF4, 15)) rfl (by decide) rfl w_236) ?_
  refine xA (ok_aload_n hC (show decode prog_7_method_3_code 38 = .ok (.aload_n 2, 1) by decide +kernel) rfl) ?_
  refine xA (ok_len hC (show decode prog_7_method_3_code 39 = .ok (.arraylength, 1) by decide +kernel)) ?_
  refine xA (ok_iconst hC (show decode prog_7_method_3_code 40 = .ok (.iconst 1, 1) by decide +kernel) (by decide)) ?_
  refine xA (ok_isub hC (show decode prog_7_method_3_code 41 = .ok (.isub, 1) by decide +kernel)) ?_
  refine xA (ok_min hC (by decide) (show decode prog_7_method_3_code 42 = .ok (.invokestatic 66, 3) by decide +kernel) w_1028 w_127 w_72 w_128) ?_
  refine xA (ok_istore hC (show decode prog_7_method_3_code 45 = .ok (.istore 4, 2) by decide +kernel) (by decide)) ?_
  refine xA (ok_iconst hC (show decode prog_7_method_3_code 47 = .ok (.iconst 0, 1) by decide +kernel) (by decide)) ?_
  refine xA (ok_istore hC (show decode prog_7_method_3_code 48 = .ok (.istore 5, 2) by decide +kernel) (by decide)) ?_
  refine xA (ok_iload hC (show decode prog_7_method_3_code 50 = .ok (.iload 5, 2) by decide +kernel)) ?_
  refine xA (ok_iload hC (show decode prog_7_method_3_code 52 = .ok (.iload 4, 2) by decide +kernel)) ?_
  refine xA (ok_icgt hC (show decode prog_7_method_3_code 54 = .ok (.if_icmp .gt 27, 3) by decide +kernel) (by decide)) ?_
  refine xA (ok_aload_n hC (show decode prog_7_method_3_code 57 = .ok (.aload_n 2, 1) by decide +kernel) rfl) ?_
  refine xA (ok_iload hC (show decode prog_7_method_3_code 58 = .ok (.iload 5, 2) by decide +kernel)) ?_
  refine xA (ok_iload hC (show decode prog_7_method_3_code 60 = .ok (.iload 5, 2) by decide +kernel)) ?_
  refine xA (ok_aload_n hC (show decode prog_7_method_3_code 62 = .ok (.aload_n 1, 1) by decide +kernel) rfl) ?_
  refine xA (ok_get hC (show decode prog_7_method_3_code 63 = .ok (.getfield 61, 3) by decide +kernel) (by decide) (r0 := ("StyleCourt$Element", xF4, 15)) rfl (by decide) rfl w_236) ?_
  refine xA (ok_icne hC (show decode prog_7_method_3_code 66 = .ok (.if_icmp .ne 7, 3) by decide +kernel) (by decide)) ?_
  refine xA (ok_aload_n hC (show decode prog_7_method_3_code 69 = .ok (.aload_n 1, 1) by decide +kernel) rfl) ?_
  refine xA (ok_goto hC (show decode prog_7_method_3_code 70 = .ok (.goto 4, 3) by decide +kernel) (by decide)) ?_
  refine xA (ok_null hC (show decode prog_7_method_3_code 73 = .ok (.aconst_null, 1) by decide +kernel)) ?_
  refine xA (ok_aast hC (show decode prog_7_method_3_code 74 = .ok (.aastore, 1) by decide +kernel) (by decide) rfl xok5_ok) ?_
  refine xA (ok_iinc hC (show decode prog_7_method_3_code 75 = .ok (.iinc 5 1, 3) by decide +kernel) (by decide) (by decide)) ?_
  refine xA (ok_goto hC (show decode prog_7_method_3_code 78 = .ok (.goto (-28), 3) by decide +kernel) (by decide)) ?_
  refine xA (ok_iconst hC (show decode prog_7_method_3_code 81 = .ok (.iconst 1, 1) by decide +kernel) (by decide)) ?_
  refine xA (ok_istore hC (show decode prog_7_method_3_code 82 = .ok (.istore 5, 2) by decide +kernel) (by decide)) ?_
  refine xA (ok_iload_n hC (show decode prog_7_method_3_code 84 = .ok (.iload_n 3, 1) by decide +kernel) rfl) ?_
  refine xA (ok_iconst hC (show decode prog_7_method_3_code 85 = .ok (.iconst 1, 1) by decide +kernel) (by decide)) ?_
  refine xA (ok_isub hC (show decode prog_7_method_3_code 86 = .ok (.isub, 1) by decide +kernel)) ?_
  refine xA (ok_istore hC (show decode prog_7_method_3_code 87 = .ok (.istore 6, 2) by decide +kernel) (by decide)) ?_
  refine xA (ok_iload hC (show decode prog_7_method_3_code 89 = .ok (.iload 6, 2) by decide +kernel)) ?_
  refine xA (ok_iflt hC (show decode prog_7_method_3_code 91 = .ok (.ifCond .lt 109, 3) by decide +kernel) (by decide)) ?_
  refine xA (ok_iload hC (show decode prog_7_method_3_code 94 = .ok (.iload 5, 2) by decide +kernel)) ?_
  refine xA (ok_ifeq hC (show decode prog_7_method_3_code 96 = .ok (.ifCond .eq 104, 3) by decide +kernel) (by decide)) ?_
  refine xA (ok_aload_n hC (show decode prog_7_method_3_code 99 = .ok (.aload_n 2, 1) by decide +kernel) rfl) ?_
  refine xA (ok_iload hC (show decode prog_7_method_3_code 100 = .ok (.iload 4, 2) by decide +kernel)) ?_
  refine xA (ok_aload_n hC (show decode prog_7_method_3_code 102 = .ok (.aload_n 0, 1) by decide +kernel) rfl) ?_
  refine xA (ok_get hC (show decode prog_7_method_3_code 103 = .ok (.getfield 12, 3) by decide +kernel) (by decide) (r0 := ("StyleCourt$Selector", xF8, 2)) rfl (by decide) rfl w_759) ?_
  refine xA (ok_iload hC (show decode prog_7_method_3_code 106 = .ok (.iload 6, 2) by decide +kernel)) ?_
  refine xA (ok_iconst hC (show decode prog_7_method_3_code 108 = .ok (.iconst 1, 1) by decide +kernel) (by decide)) ?_
  refine xA (ok_iadd hC (show decode prog_7_method_3_code 109 = .ok (.iadd, 1) by decide +kernel)) ?_
  refine xA (ok_callV hC hnh (show decode prog_7_method_3_code 110 = .ok (.invokevirtual 53, 3) by decide +kernel) (by decide) (by decide) (by decide) (r0 := ("java/util/ArrayList", xF12, 3)) rfl ⟨by decide, by decide, by decide +kernel⟩ w_662 w_77 w_1007 w_660 w_661) ?_
  refine xA (ok_cast hC (show decode prog_7_method_3_code 113 = .ok (.checkcast 35, 3) by decide +kernel) w_774 (xcast_ok (r0 := ("StyleCourt$Step", xF7, 3)) (by decide) rfl rfl)) ?_
  refine xA (ok_get hC (show decode prog_7_method_3_code 116 = .ok (.getfield 72, 3) by decide +kernel) (by decide) (r0 := ("StyleCourt$Step", xF7, 3)) rfl (by decide) rfl w_783) ?_
  refine xA (ok_callS (hh := []) hC hnh (show decode prog_7_method_3_code 119 = .ok (.invokestatic 75, 3) by decide +kernel) (by decide) (by decide) ⟨by decide, by decide, by decide +kernel⟩ (Or.inl w_1031) w_93 w_1029 w_1030) ?_
  refine xA (ok_iconst hC (show decode prog_7_method_3_code 122 = .ok (.iconst 0, 1) by decide +kernel) (by decide)) ?_
  refine xA (ok_istore hC (show decode prog_7_method_3_code 123 = .ok (.istore 5, 2) by decide +kernel) (by decide)) ?_
  refine xA (ok_iconst hC (show decode prog_7_method_3_code 125 = .ok (.iconst 0, 1) by decide +kernel) (by decide)) ?_
  refine xA (ok_istore hC (show decode prog_7_method_3_code 126 = .ok (.istore 7, 2) by decide +kernel) (by decide)) ?_
  refine xA (ok_iload hC (show decode prog_7_method_3_code 128 = .ok (.iload 7, 2) by decide +kernel)) ?_
  refine xA (ok_iload hC (show decode prog_7_method_3_code 130 = .ok (.iload 4, 2) by decide +kernel)) ?_
  refine xA (ok_icgt hC (show decode prog_7_method_3_code 132 = .ok (.if_icmp .gt 62, 3) by decide +kernel) (by decide)) ?_
  refine xA (ok_aload_n hC (show decode prog_7_method_3_code 135 = .ok (.aload_n 2, 1) by decide +kernel) rfl) ?_
  refine xA (ok_iload hC (show decode prog_7_method_3_code 136 = .ok (.iload 7, 2) by decide +kernel)) ?_
  refine xA (ok_aald hC (show decode prog_7_method_3_code 138 = .ok (.aaload, 1) by decide +kernel) (by decide) rfl) ?_
  refine xA (ok_ifnull hC (show decode prog_7_method_3_code 139 = .ok (.ifnull 30, 3) by decide +kernel) (by decide)) ?_
  refine xA (ok_aload_n hC (show decode prog_7_method_3_code 142 = .ok (.aload_n 0, 1) by decide +kernel) rfl) ?_
  refine xA (ok_get hC (show decode prog_7_method_3_code 143 = .ok (.getfield 12, 3) by decide +kernel) (by decide) (r0 := ("StyleCourt$Selector", xF8, 2)) rfl (by decide) rfl w_759) ?_
  refine xA (ok_iload hC (show decode prog_7_method_3_code 146 = .ok (.iload 6, 2) by decide +kernel)) ?_
  refine xA (ok_callV hC hnh (show decode prog_7_method_3_code 148 = .ok (.invokevirtual 53, 3) by decide +kernel) (by decide) (by decide) (by decide) (r0 := ("java/util/ArrayList", xF12, 3)) rfl ⟨by decide, by decide, by decide +kernel⟩ w_662 w_77 w_1007 w_660 w_661) ?_
  refine xA (ok_cast hC (show decode prog_7_method_3_code 151 = .ok (.checkcast 35, 3) by decide +kernel) w_774 (xcast_ok (r0 := ("StyleCourt$Step", xF7, 3)) (by decide) rfl rfl)) ?_
  refine xA (ok_aload_n hC (show decode prog_7_method_3_code 154 = .ok (.aload_n 2, 1) by decide +kernel) rfl) ?_
  refine xA (ok_iload hC (show decode prog_7_method_3_code 155 = .ok (.iload 7, 2) by decide +kernel)) ?_
  refine xA (ok_aald hC (show decode prog_7_method_3_code 157 = .ok (.aaload, 1) by decide +kernel) (by decide) rfl) ?_
  refine xA (ok_callV hC hnh (show decode prog_7_method_3_code 158 = .ok (.invokevirtual 57, 3) by decide +kernel) (by decide) (by decide) (by decide) (r0 := ("StyleCourt$Step", xF7, 3)) rfl ⟨by decide, by decide, by decide +kernel⟩ w_1011 w_94 w_1008 w_1009 w_1010) ?_
  refine xA (ok_ifne hC (show decode prog_7_method_3_code 161 = .ok (.ifCond .ne 8, 3) by decide +kernel) (by decide)) ?_
  refine xA (ok_aload_n hC (show decode prog_7_method_3_code 164 = .ok (.aload_n 2, 1) by decide +kernel) rfl) ?_
  refine xA (ok_iload hC (show decode prog_7_method_3_code 165 = .ok (.iload 7, 2) by decide +kernel)) ?_
  refine xA (ok_null hC (show decode prog_7_method_3_code 167 = .ok (.aconst_null, 1) by decide +kernel)) ?_
  refine xA (ok_aast hC (show decode prog_7_method_3_code 168 = .ok (.aastore, 1) by decide +kernel) (by decide) rfl xok5_ok) ?_
  refine xA (ok_iload hC (show decode prog_7_method_3_code 169 = .ok (.iload 5, 2) by decide +kernel)) ?_
  refine xA (ok_ifne hC (show decode prog_7_method_3_code 171 = .ok (.ifCond .ne 10, 3) by decide +kernel) (by decide)) ?_
  refine xA (ok_aload_n hC (show decode prog_7_method_3_code 174 = .ok (.aload_n 2, 1) by decide +kernel) rfl) ?_
  refine xA (ok_iload hC (show decode prog_7_method_3_code 175 = .ok (.iload 7, 2) by decide +kernel)) ?_
  refine xA (ok_aald hC (show decode prog_7_method_3_code 177 = .ok (.aaload, 1) by decide +kernel) (by decide) rfl) ?_
  refine xA (ok_ifnull hC (show decode prog_7_method_3_code 178 = .ok (.ifnull 7, 3) by decide +kernel) (by decide)) ?_
  refine xA (ok_iconst hC (show decode prog_7_method_3_code 181 = .ok (.iconst 1, 1) by decide +kernel) (by decide)) ?_
  refine xA (ok_goto hC (show decode prog_7_method_3_code 182 = .ok (.goto 4, 3) by decide +kernel) (by decide)) ?_
  refine xA (ok_iconst hC (show decode prog_7_method_3_code 185 = .ok (.iconst 0, 1) by decide +kernel) (by decide)) ?_
  refine xA (ok_istore hC (show decode prog_7_method_3_code 186 = .ok (.istore 5, 2) by decide +kernel) (by decide)) ?_
  refine xA (ok_iinc hC (show decode prog_7_method_3_code 188 = .ok (.iinc 7 1, 3) by decide +kernel) (by decide) (by decide)) ?_
  refine xA (ok_goto hC (show decode prog_7_method_3_code 191 = .ok (.goto (-63), 3) by decide +kernel) (by decide)) ?_
  refine xA (ok_iinc hC (show decode prog_7_method_3_code 194 = .ok (.iinc 6 (-1), 3) by decide +kernel) (by decide) (by decide)) ?_
  refine xA (ok_goto hC (show decode prog_7_method_3_code 197 = .ok (.goto (-108), 3) by decide +kernel) (by decide)) ?_
  refine xA (ok_iload hC (show decode prog_7_method_3_code 200 = .ok (.iload 5, 2) by decide +kernel)) ?_
  refine xA (ok_zret hC hr (show decode prog_7_method_3_code 202 = .ok (.ireturn, 1) by decide +kernel)) ?_
  exact trivial

def tb_Se_moveBack (X : xX) : List (Nat × xOp) := [(0, o_ild 2 1),
  (1, o_ic 43 3),
  (3, o_icne 39 6),
  (6, o_ic 0 7),
  (7, o_ist 3 8),
  (8, o_ild 3 9),
  (9, o_ild 1 10),
  (10, o_icgt 38 13),
  (13, o_ald 0 14),
  (14, o_ild 3 15),
  (15, o_ald 0 16),
  (16, o_ild 3 17),
  (17, o_ld 5 18),
  (18, o_nul 21 25),
  (21, o_null 22),
  (22, o_goto 31),
  (25, o_ald 0 26),
  (26, o_ild 3 27),
  (27, o_ld 5 28),
  (28, o_get 4 2 31),
  (31, o_aast 5 xok5 32),
  (32, o_inc 3 1 35),
  (35, o_goto 8),
  (38, o_vret X.P),
  (39, o_null 40),
  (40, o_ast 3 41),
  (41, o_ild 1 42),
  (42, o_ist 4 44),
  (44, o_ild 4 46),
  (46, o_iflt 96 49),
  (49, o_ald 3 50),
  (50, o_nul 53 57),
  (53, o_null 54),
  (54, o_goto 61),
  (57, o_ald 3 58),
  (58, o_get 4 1 61),
  (61, o_ast 5 63),
  (63, o_ild 2 64),
  (64, o_ic 47 66),
  (66, o_icne 79 69),
  (69, o_ald 5 71),
  (71, o_nul 79 74),
  (74, o_ald 5 76),
  (76, o_goto 83),
  (79, o_ald 0 80),
  (80, o_ild 4 82),
  (82, o_ld 5 83),
  (83, o_ast 3 84),
  (84, o_ald 0 85),
  (85, o_ild 4 87),
  (87, o_ald 5 89),
  (89, o_aast 5 xok5 90),
  (90, o_inc 4 (-1) 93),
  (93, o_goto 44),
  (96, o_vret X.P)]
theorem tk_Se_moveBack {X : xX} (hC : xCx X prog_7_method_4_code "StyleCourt$Selector" 6 0) (hr : X.meth.sig.returnType = none) (hnh : X.c.exceptionTable.isEmpty = true) (hin : X.meth.name = "moveBack") : xAll X (tb_Se_moveBack X) := by
  refine xA (ok_iload_n hC (show decode prog_7_method_4_code 0 = .ok (.iload_n 2, 1) by decide +kernel) rfl) ?_
  refine xA (ok_bipush hC (show decode prog_7_method_4_code 1 = .ok (.bipush 43, 2) by decide +kernel) (by decide)) ?_
  refine xA (ok_icne hC (show decode prog_7_method_4_code 3 = .ok (.if_icmp .ne 36, 3) by decide +kernel) (by decide)) ?_
  refine xA (ok_iconst hC (show decode prog_7_method_4_code 6 = .ok (.iconst 0, 1) by decide +kernel) (by decide)) ?_
  refine xA (ok_istore_n hC (show decode prog_7_method_4_code 7 = .ok (.istore_n 3, 1) by decide +kernel) rfl (by decide)) ?_
  refine xA (ok_iload_n hC (show decode prog_7_method_4_code 8 = .ok (.iload_n 3, 1) by decide +kernel) rfl) ?_
  refine xA (ok_iload_n hC (show decode prog_7_method_4_code 9 = .ok (.iload_n 1, 1) by decide +kernel) rfl) ?_
  refine xA (ok_icgt hC (show decode prog_7_method_4_code 10 = .ok (.if_icmp .gt 28, 3) by decide +kernel) (by decide)) ?_
  refine xA (ok_aload_n hC (show decode prog_7_method_4_code 13 = .ok (.aload_n 0, 1) by decide +kernel) rfl) ?_
  refine xA (ok_iload_n hC (show decode prog_7_method_4_code 14 = .ok (.iload_n 3, 1) by decide +kernel) rfl) ?_
  refine xA (ok_aload_n hC (show decode prog_7_method_4_code 15 = .ok (.aload_n 0, 1) by decide +kernel) rfl) ?_
  refine xA (ok_iload_n hC (show decode prog_7_method_4_code 16 = .ok (.iload_n 3, 1) by decide +kernel) rfl) ?_
  refine xA (ok_aald hC (show decode prog_7_method_4_code 17 = .ok (.aaload, 1) by decide +kernel) (by decide) rfl) ?_
  refine xA (ok_ifnonnull hC (show decode prog_7_method_4_code 18 = .ok (.ifnonnull 7, 3) by decide +kernel) (by decide)) ?_
  refine xA (ok_null hC (show decode prog_7_method_4_code 21 = .ok (.aconst_null, 1) by decide +kernel)) ?_
  refine xA (ok_goto hC (show decode prog_7_method_4_code 22 = .ok (.goto 9, 3) by decide +kernel) (by decide)) ?_
  refine xA (ok_aload_n hC (show decode prog_7_method_4_code 25 = .ok (.aload_n 0, 1) by decide +kernel) rfl) ?_
  refine xA (ok_iload_n hC (show decode prog_7_method_4_code 26 = .ok (.iload_n 3, 1) by decide +kernel) rfl) ?_
  refine xA (ok_aald hC (show decode prog_7_method_4_code 27 = .ok (.aaload, 1) by decide +kernel) (by decide) rfl) ?_
  refine xA (ok_get hC (show decode prog_7_method_4_code 28 = .ok (.getfield 79, 3) by decide +kernel) (by decide) (r0 := ("StyleCourt$Element", xF4, 15)) rfl (by decide) rfl w_227) ?_
  refine xA (ok_aast hC (show decode prog_7_method_4_code 31 = .ok (.aastore, 1) by decide +kernel) (by decide) rfl xok5_ok) ?_
  refine xA (ok_iinc hC (show decode prog_7_method_4_code 32 = .ok (.iinc 3 1, 3) by decide +kernel) (by decide) (by decide)) ?_
  refine xA (ok_goto hC (show decode prog_7_method_4_code 35 = .ok (.goto (-27), 3) by decide +kernel) (by decide)) ?_
  refine xA (ok_vret hC hr (show decode prog_7_method_4_code 38 = .ok (.return_, 1) by decide +kernel)) ?_
  refine xA (ok_null hC (show decode prog_7_method_4_code 39 = .ok (.aconst_null, 1) by decide +kernel)) ?_
  refine xA (ok_astore_n hC (show decode prog_7_method_4_code 40 = .ok (.astore_n 3, 1) by decide +kernel) rfl (by decide)) ?_
  refine xA (ok_iload_n hC (show decode prog_7_method_4_code 41 = .ok (.iload_n 1, 1) by decide +kernel) rfl) ?_
  refine xA (ok_istore hC (show decode prog_7_method_4_code 42 = .ok (.istore 4, 2) by decide +kernel) (by decide)) ?_
  refine xA (ok_iload hC (show decode prog_7_method_4_code 44 = .ok (.iload 4, 2) by decide +kernel)) ?_
  refine xA (ok_iflt hC (show decode prog_7_method_4_code 46 = .ok (.ifCond .lt 50, 3) by decide +kernel) (by decide)) ?_
  refine xA (ok_aload_n hC (show decode prog_7_method_4_code 49 = .ok (.aload_n 3, 1) by decide +kernel) rfl) ?_
  refine xA (ok_ifnonnull hC (show decode prog_7_method_4_code 50 = .ok (.ifnonnull 7, 3) by decide +kernel) (by decide)) ?_
  refine xA (ok_null hC (show decode prog_7_method_4_code 53 = .ok (.aconst_null, 1) by decide +kernel)) ?_
  refine xA (ok_goto hC (show decode prog_7_method_4_code 54 = .ok (.goto 7, 3) by decide +kernel) (by decide)) ?_
  refine xA (ok_aload_n hC (show decode prog_7_method_4_code 57 = .ok (.aload_n 3, 1) by decide +kernel) rfl) ?_
  refine xA (ok_get hC (show decode prog_7_method_4_code 58 = .ok (.getfield 83, 3) by decide +kernel) (by decide) (r0 := ("StyleCourt$Element", xF4, 15)) rfl (by decide) rfl w_222) ?_
  refine xA (ok_astore hC (show decode prog_7_method_4_code 61 = .ok (.astore 5, 2) by decide +kernel) (by decide)) ?_
  refine xA (ok_iload_n hC (show decode prog_7_method_4_code 63 = .ok (.iload_n 2, 1) by decide +kernel) rfl) ?_
  refine xA (ok_bipush hC (show decode prog_7_method_4_code 64 = .ok (.bipush 47, 2) by decide +kernel) (by decide)) ?_
  refine xA (ok_icne hC (show decode prog_7_method_4_code 66 = .ok (.if_icmp .ne 13, 3) by decide +kernel) (by decide)) ?_
  refine xA (ok_aload hC (show decode prog_7_method_4_code 69 = .ok (.aload 5, 2) by decide +kernel)) ?_
  refine xA (ok_ifnull hC (show decode prog_7_method_4_code 71 = .ok (.ifnull 8, 3) by decide +kernel) (by decide)) ?_
  refine xA (ok_aload hC (show decode prog_7_method_4_code 74 = .ok (.aload 5, 2) by decide +kernel)) ?_
  refine xA (ok_goto hC (show decode prog_7_method_4_code 76 = .ok (.goto 7, 3) by decide +kernel) (by decide)) ?_
  refine xA (ok_aload_n hC (show decode prog_7_method_4_code 79 = .ok (.aload_n 0, 1) by decide +kernel) rfl) ?_
  refine xA (ok_iload hC (show decode prog_7_method_4_code 80 = .ok (.iload 4, 2) by decide +kernel)) ?_
  refine xA (ok_aald hC (show decode prog_7_method_4_code 82 = .ok (.aaload, 1) by decide +kernel) (by decide) rfl) ?_
  refine xA (ok_astore_n hC (show decode prog_7_method_4_code 83 = .ok (.astore_n 3, 1) by decide +kernel) rfl (by decide)) ?_
  refine xA (ok_aload_n hC (show decode prog_7_method_4_code 84 = .ok (.aload_n 0, 1) by decide +kernel) rfl) ?_
  refine xA (ok_iload hC (show decode prog_7_method_4_code 85 = .ok (.iload 4, 2) by decide +kernel)) ?_
  refine xA (ok_aload hC (show decode prog_7_method_4_code 87 = .ok (.aload 5, 2) by decide +kernel)) ?_
  refine xA (ok_aast hC (show decode prog_7_method_4_code 89 = .ok (.aastore, 1) by decide +kernel) (by decide) rfl xok5_ok) ?_
  refine xA (ok_iinc hC (show decode prog_7_method_4_code 90 = .ok (.iinc 4 (-1), 3) by decide +kernel) (by decide) (by decide)) ?_
  refine xA (ok_goto hC (show decode prog_7_method_4_code 93 = .ok (.goto (-49), 3) by decide +kernel) (by decide)) ?_
  refine xA (ok_vret hC hr (show decode prog_7_method_4_code 96 = .ok (.return_, 1) by decide +kernel)) ?_
  exact trivial
