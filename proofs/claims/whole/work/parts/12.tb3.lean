def tb_To_init (X : xX) : List (Nat × xOp) := [(0, o_ald 0 1),
  (1, o_obj 4),
  (4, o_ald 0 5),
  (5, o_ic 0 6),
  (6, o_put 9 2 (.int) 9),
  (9, o_ald 0 10),
  (10, o_null 11),
  (11, o_put 9 3 (.object "StyleCourt$Slice") 14),
  (14, o_ald 0 15),
  (15, o_ic 0 16),
  (16, o_put 9 4 (.int) 19),
  (19, o_ald 0 20),
  (20, o_ic 0 21),
  (21, o_put 9 5 (.int) 24),
  (24, o_ald 0 25),
  (25, o_ic 0 26),
  (26, o_put 9 6 (.boolean) 29),
  (29, o_ald 0 30),
  (30, o_ild 1 31),
  (31, o_put 9 0 (.int) 34),
  (34, o_ald 0 35),
  (35, o_ild 2 36),
  (36, o_put 9 1 (.int) 39),
  (39, o_vret X.P)]
theorem tk_To_init {X : xX} (hC : xCx X prog_12_method_1_code "StyleCourt$Told" 3 1) (hr : X.meth.sig.returnType = none) (hnh : X.c.exceptionTable.isEmpty = true) (hin : X.meth.name = "<init>") : xAll X (tb_To_init X) := by
  refine xA (ok_aload_n hC (show decode prog_12_method_1_code 0 = .ok (.aload_n 0, 1) by decide +kernel) rfl) ?_
  refine xA (ok_obj hC (by decide) (show decode prog_12_method_1_code 1 = .ok (.invokespecial 3, 3) by decide +kernel) w_921 w_106 w_107) ?_
  refine xA (ok_aload_n hC (show decode prog_12_method_1_code 4 = .ok (.aload_n 0, 1) by decide +kernel) rfl) ?_
  refine xA (ok_iconst hC (show decode prog_12_method_1_code 5 = .ok (.iconst 0, 1) by decide +kernel) (by decide)) ?_
  refine xA (ok_put hC (show decode prog_12_method_1_code 6 = .ok (.putfield 9, 3) by decide +kernel) (by decide) (r0 := ("StyleCourt$Told", xF9, 7)) rfl (by decide) rfl (by decide +kernel) w_926) ?_
  refine xA (ok_aload_n hC (show decode prog_12_method_1_code 9 = .ok (.aload_n 0, 1) by decide +kernel) rfl) ?_
  refine xA (ok_null hC (show decode prog_12_method_1_code 10 = .ok (.aconst_null, 1) by decide +kernel)) ?_
  refine xA (ok_put hC (show decode prog_12_method_1_code 11 = .ok (.putfield 15, 3) by decide +kernel) (by decide) (r0 := ("StyleCourt$Told", xF9, 7)) rfl (by decide) rfl (by decide +kernel) w_928) ?_
  refine xA (ok_aload_n hC (show decode prog_12_method_1_code 14 = .ok (.aload_n 0, 1) by decide +kernel) rfl) ?_
  refine xA (ok_iconst hC (show decode prog_12_method_1_code 15 = .ok (.iconst 0, 1) by decide +kernel) (by decide)) ?_
  refine xA (ok_put hC (show decode prog_12_method_1_code 16 = .ok (.putfield 19, 3) by decide +kernel) (by decide) (r0 := ("StyleCourt$Told", xF9, 7)) rfl (by decide) rfl (by decide +kernel) w_930) ?_
  refine xA (ok_aload_n hC (show decode prog_12_method_1_code 19 = .ok (.aload_n 0, 1) by decide +kernel) rfl) ?_
  refine xA (ok_iconst hC (show decode prog_12_method_1_code 20 = .ok (.iconst 0, 1) by decide +kernel) (by decide)) ?_
  refine xA (ok_put hC (show decode prog_12_method_1_code 21 = .ok (.putfield 22, 3) by decide +kernel) (by decide) (r0 := ("StyleCourt$Told", xF9, 7)) rfl (by decide) rfl (by decide +kernel) w_932) ?_
  refine xA (ok_aload_n hC (show decode prog_12_method_1_code 24 = .ok (.aload_n 0, 1) by decide +kernel) rfl) ?_
  refine xA (ok_iconst hC (show decode prog_12_method_1_code 25 = .ok (.iconst 0, 1) by decide +kernel) (by decide)) ?_
  refine xA (ok_put hC (show decode prog_12_method_1_code 26 = .ok (.putfield 25, 3) by decide +kernel) (by decide) (r0 := ("StyleCourt$Told", xF9, 7)) rfl (by decide) rfl (by decide +kernel) w_934) ?_
  refine xA (ok_aload_n hC (show decode prog_12_method_1_code 29 = .ok (.aload_n 0, 1) by decide +kernel) rfl) ?_
  refine xA (ok_iload_n hC (show decode prog_12_method_1_code 30 = .ok (.iload_n 1, 1) by decide +kernel) rfl) ?_
  refine xA (ok_putF hC hin (show decode prog_12_method_1_code 31 = .ok (.putfield 29, 3) by decide +kernel) (by decide) (r0 := ("StyleCourt$Told", xF9, 7)) rfl (by decide) rfl (by decide +kernel) w_922) ?_
  refine xA (ok_aload_n hC (show decode prog_12_method_1_code 34 = .ok (.aload_n 0, 1) by decide +kernel) rfl) ?_
  refine xA (ok_iload_n hC (show decode prog_12_method_1_code 35 = .ok (.iload_n 2, 1) by decide +kernel) rfl) ?_
  refine xA (ok_putF hC hin (show decode prog_12_method_1_code 36 = .ok (.putfield 32, 3) by decide +kernel) (by decide) (r0 := ("StyleCourt$Told", xF9, 7)) rfl (by decide) rfl (by decide +kernel) w_924) ?_
  refine xA (ok_vret hC hr (show decode prog_12_method_1_code 39 = .ok (.return_, 1) by decide +kernel)) ?_
  exact trivial

def tb_To_readValue (X : xX) : List (Nat × xOp) := [(0, o_ald 1 1),
  (1, o_callV X.l X.D X.P 1 1 1 y_Rd_nextSign 4),
  (4, o_ist 2 5),
  (5, o_ild 2 6),
  (6, o_ic 34 8),
  (8, o_icne 27 11),
  (11, o_ald 0 12),
  (12, o_ic 3 13),
  (13, o_put 9 2 (.int) 16),
  (16, o_ald 0 17),
  (17, o_ald 1 18),
  (18, o_callV X.l X.D X.P 1 7 1 y_Rd_readString 21),
  (21, o_put 9 3 (.object "StyleCourt$Slice") 24),
  (24, o_goto 60),
  (27, o_ild 2 28),
  (28, o_callS X.l X.D X.P 0 1 y_Sc_isDigit 31),
  (31, o_ifeq 47 34),
  (34, o_ald 0 35),
  (35, o_ic 2 36),
  (36, o_put 9 2 (.int) 39),
  (39, o_ald 0 40),
  (40, o_ald 1 41),
  (41, o_callV X.l X.D X.P 9 8 2 y_To_readAmount 44),
  (44, o_goto 60),
  (47, o_ald 0 48),
  (48, o_ic 1 49),
  (49, o_put 9 2 (.int) 52),
  (52, o_ald 0 53),
  (53, o_ald 1 54),
  (54, o_callV X.l X.D X.P 1 7 1 y_Rd_readName 57),
  (57, o_put 9 3 (.object "StyleCourt$Slice") 60),
  (60, o_ald 1 61),
  (61, o_callV X.l X.D X.P 1 1 1 y_Rd_nextSign 64),
  (64, o_ic 33 66),
  (66, o_icne 84 69),
  (69, o_ald 1 70),
  (70, o_dup 71),
  (71, o_get 1 1 74),
  (74, o_ic 1 75),
  (75, o_iadd 76),
  (76, o_put 1 1 (.int) 79),
  (79, o_ald 0 80),
  (80, o_ic 1 81),
  (81, o_put 9 6 (.boolean) 84),
  (84, o_vret X.P)]
theorem tk_To_readValue {X : xX} (hC : xCx X prog_12_method_2_code "StyleCourt$Told" 3 9) (hr : X.meth.sig.returnType = none) (hnh : X.c.exceptionTable.isEmpty = true) (hin : X.meth.name = "readValue") : xAll X (tb_To_readValue X) := by
  refine xA (ok_aload_n hC (show decode prog_12_method_2_code 0 = .ok (.aload_n 1, 1) by decide +kernel) rfl) ?_
  refine xA (ok_callV hC hnh (show decode prog_12_method_2_code 1 = .ok (.invokevirtual 35, 3) by decide +kernel) (by decide) (by decide) (by decide) (r0 := ("StyleCourt$Reader", xF1, 3)) rfl ⟨by decide, by decide, by decide +kernel⟩ w_633 w_70 w_956 w_631 w_632) ?_
  refine xA (ok_istore_n hC (show decode prog_12_method_2_code 4 = .ok (.istore_n 2, 1) by decide +kernel) rfl (by decide)) ?_
  refine xA (ok_iload_n hC (show decode prog_12_method_2_code 5 = .ok (.iload_n 2, 1) by decide +kernel) rfl) ?_
  refine xA (ok_bipush hC (show decode prog_12_method_2_code 6 = .ok (.bipush 34, 2) by decide +kernel) (by decide)) ?_
  refine xA (ok_icne hC (show decode prog_12_method_2_code 8 = .ok (.if_icmp .ne 19, 3) by decide +kernel) (by decide)) ?_
  refine xA (ok_aload_n hC (show decode prog_12_method_2_code 11 = .ok (.aload_n 0, 1) by decide +kernel) rfl) ?_
  refine xA (ok_iconst hC (show decode prog_12_method_2_code 12 = .ok (.iconst 3, 1) by decide +kernel) (by decide)) ?_
  refine xA (ok_put hC (show decode prog_12_method_2_code 13 = .ok (.putfield 9, 3) by decide +kernel) (by decide) (r0 := ("StyleCourt$Told", xF9, 7)) rfl (by decide) rfl (by decide +kernel) w_926) ?_
  refine xA (ok_aload_n hC (show decode prog_12_method_2_code 16 = .ok (.aload_n 0, 1) by decide +kernel) rfl) ?_
  refine xA (ok_aload_n hC (show decode prog_12_method_2_code 17 = .ok (.aload_n 1, 1) by decide +kernel) rfl) ?_
  refine xA (ok_callV hC hnh (show decode prog_12_method_2_code 18 = .ok (.invokevirtual 41, 3) by decide +kernel) (by decide) (by decide) (by decide) (r0 := ("StyleCourt$Reader", xF1, 3)) rfl ⟨by decide, by decide, by decide +kernel⟩ w_678 w_70 w_957 w_676 w_677) ?_
  refine xA (ok_put hC (show decode prog_12_method_2_code 21 = .ok (.putfield 15, 3) by decide +kernel) (by decide) (r0 := ("StyleCourt$Told", xF9, 7)) rfl (by decide) rfl (by decide +kernel) w_928) ?_
  refine xA (ok_goto hC (show decode prog_12_method_2_code 24 = .ok (.goto 36, 3) by decide +kernel) (by decide)) ?_
  refine xA (ok_iload_n hC (show decode prog_12_method_2_code 27 = .ok (.iload_n 2, 1) by decide +kernel) rfl) ?_
  refine xA (ok_callSN (hh := []) hC hnh (show decode prog_12_method_2_code 28 = .ok (.invokestatic 45, 3) by decide +kernel) (by decide) (by decide) ⟨by decide, by decide, by decide +kernel⟩ (Or.inl w_619) w_69 w_958 w_618) ?_
  refine xA (ok_ifeq hC (show decode prog_12_method_2_code 31 = .ok (.ifCond .eq 16, 3) by decide +kernel) (by decide)) ?_
  refine xA (ok_aload_n hC (show decode prog_12_method_2_code 34 = .ok (.aload_n 0, 1) by decide +kernel) rfl) ?_
  refine xA (ok_iconst hC (show decode prog_12_method_2_code 35 = .ok (.iconst 2, 1) by decide +kernel) (by decide)) ?_
  refine xA (ok_put hC (show decode prog_12_method_2_code 36 = .ok (.putfield 9, 3) by decide +kernel) (by decide) (r0 := ("StyleCourt$Told", xF9, 7)) rfl (by decide) rfl (by decide +kernel) w_926) ?_
  refine xA (ok_aload_n hC (show decode prog_12_method_2_code 39 = .ok (.aload_n 0, 1) by decide +kernel) rfl) ?_
  refine xA (ok_aload_n hC (show decode prog_12_method_2_code 40 = .ok (.aload_n 1, 1) by decide +kernel) rfl) ?_
  refine xA (ok_callV hC hnh (show decode prog_12_method_2_code 41 = .ok (.invokevirtual 49, 3) by decide +kernel) (by decide) (by decide) (by decide) (r0 := ("StyleCourt$Told", xF9, 7)) rfl ⟨by decide, by decide, by decide +kernel⟩ w_962 w_99 w_959 w_961 w_17) ?_
  refine xA (ok_goto hC (show decode prog_12_method_2_code 44 = .ok (.goto 16, 3) by decide +kernel) (by decide)) ?_
  refine xA (ok_aload_n hC (show decode prog_12_method_2_code 47 = .ok (.aload_n 0, 1) by decide +kernel) rfl) ?_
  refine xA (ok_iconst hC (show decode prog_12_method_2_code 48 = .ok (.iconst 1, 1) by decide +kernel) (by decide)) ?_
  refine xA (ok_put hC (show decode prog_12_method_2_code 49 = .ok (.putfield 9, 3) by decide +kernel) (by decide) (r0 := ("StyleCourt$Told", xF9, 7)) rfl (by decide) rfl (by decide +kernel) w_926) ?_
  refine xA (ok_aload_n hC (show decode prog_12_method_2_code 52 = .ok (.aload_n 0, 1) by decide +kernel) rfl) ?_
  refine xA (ok_aload_n hC (show decode prog_12_method_2_code 53 = .ok (.aload_n 1, 1) by decide +kernel) rfl) ?_
  refine xA (ok_callV hC hnh (show decode prog_12_method_2_code 54 = .ok (.invokevirtual 53, 3) by decide +kernel) (by decide) (by decide) (by decide) (r0 := ("StyleCourt$Reader", xF1, 3)) rfl ⟨by decide, by decide, by decide +kernel⟩ w_611 w_70 w_965 w_609 w_610) ?_
  refine xA (ok_put hC (show decode prog_12_method_2_code 57 = .ok (.putfield 15, 3) by decide +kernel) (by decide) (r0 := ("StyleCourt$Told", xF9, 7)) rfl (by decide) rfl (by decide +kernel) w_928) ?_
  refine xA (ok_aload_n hC (show decode prog_12_method_2_code 60 = .ok (.aload_n 1, 1) by decide +kernel) rfl) ?_
  refine xA (ok_callV hC hnh (show decode prog_12_method_2_code 61 = .ok (.invokevirtual 35, 3) by decide +kernel) (by decide) (by decide) (by decide) (r0 := ("StyleCourt$Reader", xF1, 3)) rfl ⟨by decide, by decide, by decide +kernel⟩ w_633 w_70 w_956 w_631 w_632) ?_
  refine xA (ok_bipush hC (show decode prog_12_method_2_code 64 = .ok (.bipush 33, 2) by decide +kernel) (by decide)) ?_
  refine xA (ok_icne hC (show decode prog_12_method_2_code 66 = .ok (.if_icmp .ne 18, 3) by decide +kernel) (by decide)) ?_
  refine xA (ok_aload_n hC (show decode prog_12_method_2_code 69 = .ok (.aload_n 1, 1) by decide +kernel) rfl) ?_
  refine xA (ok_dup hC (show decode prog_12_method_2_code 70 = .ok (.dup, 1) by decide +kernel)) ?_
  refine xA (ok_get hC (show decode prog_12_method_2_code 71 = .ok (.getfield 56, 3) by decide +kernel) (by decide) (r0 := ("StyleCourt$Reader", xF1, 3)) rfl (by decide) rfl w_141) ?_
  refine xA (ok_iconst hC (show decode prog_12_method_2_code 74 = .ok (.iconst 1, 1) by decide +kernel) (by decide)) ?_
  refine xA (ok_iadd hC (show decode prog_12_method_2_code 75 = .ok (.iadd, 1) by decide +kernel)) ?_
  refine xA (ok_put hC (show decode prog_12_method_2_code 76 = .ok (.putfield 56, 3) by decide +kernel) (by decide) (r0 := ("StyleCourt$Reader", xF1, 3)) rfl (by decide) rfl (by decide +kernel) w_141) ?_
  refine xA (ok_aload_n hC (show decode prog_12_method_2_code 79 = .ok (.aload_n 0, 1) by decide +kernel) rfl) ?_
  refine xA (ok_iconst hC (show decode prog_12_method_2_code 80 = .ok (.iconst 1, 1) by decide +kernel) (by decide)) ?_
  refine xA (ok_put hC (show decode prog_12_method_2_code 81 = .ok (.putfield 25, 3) by decide +kernel) (by decide) (r0 := ("StyleCourt$Told", xF9, 7)) rfl (by decide) rfl (by decide +kernel) w_934) ?_
  refine xA (ok_vret hC hr (show decode prog_12_method_2_code 84 = .ok (.return_, 1) by decide +kernel)) ?_
  exact trivial

def tb_To_readAmount (X : xX) : List (Nat × xOp) := [(0, o_ald 1 1),
  (1, o_get 1 1 4),
  (4, o_ist 2 5),
  (5, o_ald 0 6),
  (6, o_ald 1 7),
  (7, o_callV X.l X.D X.P 1 7 1 y_Rd_readNumber 10),
  (10, o_put 9 4 (.int) 13),
  (13, o_ald 1 14),
  (14, o_callV X.l X.D X.P 1 1 1 y_Rd_nextSign 17),
  (17, o_ic 37 19),
  (19, o_icne 63 22),
  (22, o_ald 0 23),
  (23, o_get 9 4 26),
  (26, o_ic 1 27),
  (27, o_iclt 40 30),
  (30, o_ald 0 31),
  (31, o_get 9 4 34),
  (34, o_ic 1000 37),
  (37, o_icle 45 40),
  (40, o_ald 1 41),
  (41, o_ild 2 42),
  (42, o_callV X.l X.D X.P 1 6 2 y_Rd_failAt 45),
  (45, o_ald 1 46),
  (46, o_dup 47),
  (47, o_get 1 1 50),
  (50, o_ic 1 51),
  (51, o_iadd 52),
  (52, o_put 1 1 (.int) 55),
  (55, o_ald 0 56),
  (56, o_ald 0 57),
  (57, o_get 9 4 60),
  (60, o_put 9 5 (.int) 63),
  (63, o_vret X.P)]
theorem tk_To_readAmount {X : xX} (hC : xCx X prog_12_method_3_code "StyleCourt$Told" 3 8) (hr : X.meth.sig.returnType = none) (hnh : X.c.exceptionTable.isEmpty = true) (hin : X.meth.name = "readAmount") : xAll X (tb_To_readAmount X) := by
  refine xA (ok_aload_n hC (show decode prog_12_method_3_code 0 = .ok (.aload_n 1, 1) by decide +kernel) rfl) ?_
  refine xA (ok_get hC (show decode prog_12_method_3_code 1 = .ok (.getfield 56, 3) by decide +kernel) (by decide) (r0 := ("StyleCourt$Reader", xF1, 3)) rfl (by decide) rfl w_141) ?_
  refine xA (ok_istore_n hC (show decode prog_12_method_3_code 4 = .ok (.istore_n 2, 1) by decide +kernel) rfl (by decide)) ?_
  refine xA (ok_aload_n hC (show decode prog_12_method_3_code 5 = .ok (.aload_n 0, 1) by decide +kernel) rfl) ?_
  refine xA (ok_aload_n hC (show decode prog_12_method_3_code 6 = .ok (.aload_n 1, 1) by decide +kernel) rfl) ?_
  refine xA (ok_callV hC hnh (show decode prog_12_method_3_code 7 = .ok (.invokevirtual 59, 3) by decide +kernel) (by decide) (by decide) (by decide) (r0 := ("StyleCourt$Reader", xF1, 3)) rfl ⟨by decide, by decide, by decide +kernel⟩ w_888 w_70 w_963 w_886 w_887) ?_
  refine xA (ok_put hC (show decode prog_12_method_3_code 10 = .ok (.putfield 19, 3) by decide +kernel) (by decide) (r0 := ("StyleCourt$Told", xF9, 7)) rfl (by decide) rfl (by decide +kernel) w_930) ?_
  refine xA (ok_aload_n hC (show decode prog_12_method_3_code 13 = .ok (.aload_n 1, 1) by decide +kernel) rfl) ?_
  refine xA (ok_callV hC hnh (show decode prog_12_method_3_code 14 = .ok (.invokevirtual 35, 3) by decide +kernel) (by decide) (by decide) (by decide) (r0 := ("StyleCourt$Reader", xF1, 3)) rfl ⟨by decide, by decide, by decide +kernel⟩ w_633 w_70 w_956 w_631 w_632) ?_
  refine xA (ok_bipush hC (show decode prog_12_method_3_code 17 = .ok (.bipush 37, 2) by decide +kernel) (by decide)) ?_
  refine xA (ok_icne hC (show decode prog_12_method_3_code 19 = .ok (.if_icmp .ne 44, 3) by decide +kernel) (by decide)) ?_
  refine xA (ok_aload_n hC (show decode prog_12_method_3_code 22 = .ok (.aload_n 0, 1) by decide +kernel) rfl) ?_
  refine xA (ok_get hC (show decode prog_12_method_3_code 23 = .ok (.getfield 19, 3) by decide +kernel) (by decide) (r0 := ("StyleCourt$Told", xF9, 7)) rfl (by decide) rfl w_930) ?_
  refine xA (ok_iconst hC (show decode prog_12_method_3_code 26 = .ok (.iconst 1, 1) by decide +kernel) (by decide)) ?_
  refine xA (ok_iclt hC (show decode prog_12_method_3_code 27 = .ok (.if_icmp .lt 13, 3) by decide +kernel) (by decide)) ?_
  refine xA (ok_aload_n hC (show decode prog_12_method_3_code 30 = .ok (.aload_n 0, 1) by decide +kernel) rfl) ?_
  refine xA (ok_get hC (show decode prog_12_method_3_code 31 = .ok (.getfield 19, 3) by decide +kernel) (by decide) (r0 := ("StyleCourt$Told", xF9, 7)) rfl (by decide) rfl w_930) ?_
  refine xA (ok_sipush hC (show decode prog_12_method_3_code 34 = .ok (.sipush 1000, 3) by decide +kernel) (by decide)) ?_
  refine xA (ok_icle hC (show decode prog_12_method_3_code 37 = .ok (.if_icmp .le 8, 3) by decide +kernel) (by decide)) ?_
  refine xA (ok_aload_n hC (show decode prog_12_method_3_code 40 = .ok (.aload_n 1, 1) by decide +kernel) rfl) ?_
  refine xA (ok_iload_n hC (show decode prog_12_method_3_code 41 = .ok (.iload_n 2, 1) by decide +kernel) rfl) ?_
  refine xA (ok_callV hC hnh (show decode prog_12_method_3_code 42 = .ok (.invokevirtual 62, 3) by decide +kernel) (by decide) (by decide) (by decide) (r0 := ("StyleCourt$Reader", xF1, 3)) rfl ⟨by decide, by decide, by decide +kernel⟩ w_591 w_70 w_964 w_589 w_590) ?_
  refine xA (ok_aload_n hC (show decode prog_12_method_3_code 45 = .ok (.aload_n 1, 1) by decide +kernel) rfl) ?_
  refine xA (ok_dup hC (show decode prog_12_method_3_code 46 = .ok (.dup, 1) by decide +kernel)) ?_
  refine xA (ok_get hC (show decode prog_12_method_3_code 47 = .ok (.getfield 56, 3) by decide +kernel) (by decide) (r0 := ("StyleCourt$Reader", xF1, 3)) rfl (by decide) rfl w_141) ?_
  refine xA (ok_iconst hC (show decode prog_12_method_3_code 50 = .ok (.iconst 1, 1) by decide +kernel) (by decide)) ?_
  refine xA (ok_iadd hC (show decode prog_12_method_3_code 51 = .ok (.iadd, 1) by decide +kernel)) ?_
  refine xA (ok_put hC (show decode prog_12_method_3_code 52 = .ok (.putfield 56, 3) by decide +kernel) (by decide) (r0 := ("StyleCourt$Reader", xF1, 3)) rfl (by decide) rfl (by decide +kernel) w_141) ?_
  refine xA (ok_aload_n hC (show decode prog_12_method_3_code 55 = .ok (.aload_n 0, 1) by decide +kernel) rfl) ?_
  refine xA (ok_aload_n hC (show decode prog_12_method_3_code 56 = .ok (.aload_n 0, 1) by decide +kernel) rfl) ?_
  refine xA (ok_get hC (show decode prog_12_method_3_code 57 = .ok (.getfield 19, 3) by decide +kernel) (by decide) (r0 := ("StyleCourt$Told", xF9, 7)) rfl (by decide) rfl w_930) ?_
  refine xA (ok_put hC (show decode prog_12_method_3_code 60 = .ok (.putfield 22, 3) by decide +kernel) (by decide) (r0 := ("StyleCourt$Told", xF9, 7)) rfl (by decide) rfl (by decide +kernel) w_932) ?_
  refine xA (ok_vret hC hr (show decode prog_12_method_3_code 63 = .ok (.return_, 1) by decide +kernel)) ?_
  exact trivial

def tb_To_leansOnOuter (X : xX) : List (Nat × xOp) := [(0, o_ald 0 1),
  (1, o_get 9 5 4),
  (4, o_ifgt 34 7),
  (7, o_ald 0 8),
  (8, o_get 9 2 11),
  (11, o_ic 1 12),
  (12, o_icne 38 15),
  (15, o_ald 0 16),
  (16, o_get 9 3 19),
  (19, o_nul 38 22),
  (22, o_ald 0 23),
  (23, o_get 9 3 26),
  (26, o_ldcS X.D 9 28),
  (28, o_callV X.l X.D X.P 2 5 2 y_Sl_spells 31),
  (31, o_ifeq 38 34),
  (34, o_ic 1 35),
  (35, o_goto 39),
  (38, o_ic 0 39),
  (39, o_zret .boolean X.P)]
theorem tk_To_leansOnOuter {X : xX} (hC : xCx X prog_12_method_4_code "StyleCourt$Told" 1 6) (hr : X.meth.sig.returnType = (some .boolean)) (hnh : X.c.exceptionTable.isEmpty = true) (hin : X.meth.name = "leansOnOuter") : xAll X (tb_To_leansOnOuter X) := by
  refine xA (ok_aload_n hC (show decode prog_12_method_4_code 0 = .ok (.aload_n 0, 1) by decide +kernel) rfl) ?_
  refine xA (ok_get hC (show decode prog_12_method_4_code 1 = .ok (.getfield 22, 3) by decide +kernel) (by decide) (r0 := ("StyleCourt$Told", xF9, 7)) rfl (by decide) rfl w_932) ?_
  refine xA (ok_ifgt hC (show decode prog_12_method_4_code 4 = .ok (.ifCond .gt 30, 3) by decide +kernel) (by decide)) ?_
  refine xA (ok_aload_n hC (show decode prog_12_method_4_code 7 = .ok (.aload_n 0, 1) by decide +kernel) rfl) ?_
  refine xA (ok_get hC (show decode prog_12_method_4_code 8 = .ok (.getfield 9, 3) by decide +kernel) (by decide) (r0 := ("StyleCourt$Told", xF9, 7)) rfl (by decide) rfl w_926) ?_
  refine xA (ok_iconst hC (show decode prog_12_method_4_code 11 = .ok (.iconst 1, 1) by decide +kernel) (by decide)) ?_
  refine xA (ok_icne hC (show decode prog_12_method_4_code 12 = .ok (.if_icmp .ne 26, 3) by decide +kernel) (by decide)) ?_
  refine xA (ok_aload_n hC (show decode prog_12_method_4_code 15 = .ok (.aload_n 0, 1) by decide +kernel) rfl) ?_
  refine xA (ok_get hC (show decode prog_12_method_4_code 16 = .ok (.getfield 15, 3) by decide +kernel) (by decide) (r0 := ("StyleCourt$Told", xF9, 7)) rfl (by decide) rfl w_928) ?_
  refine xA (ok_ifnull hC (show decode prog_12_method_4_code 19 = .ok (.ifnull 19, 3) by decide +kernel) (by decide)) ?_
  refine xA (ok_aload_n hC (show decode prog_12_method_4_code 22 = .ok (.aload_n 0, 1) by decide +kernel) rfl) ?_
  refine xA (ok_get hC (show decode prog_12_method_4_code 23 = .ok (.getfield 15, 3) by decide +kernel) (by decide) (r0 := ("StyleCourt$Told", xF9, 7)) rfl (by decide) rfl w_928) ?_
  refine xA (ok_ldcS hC (show decode prog_12_method_4_code 26 = .ok (.ldc 66, 2) by decide +kernel) (i := 9) rfl) ?_
  refine xA (ok_callV hC hnh (show decode prog_12_method_4_code 28 = .ok (.invokevirtual 68, 3) by decide +kernel) (by decide) (by decide) (by decide) (r0 := ("StyleCourt$Slice", xF2, 3)) rfl ⟨by decide, by decide, by decide +kernel⟩ w_835 w_79 w_1040 w_833 w_834) ?_
  refine xA (ok_ifeq hC (show decode prog_12_method_4_code 31 = .ok (.ifCond .eq 7, 3) by decide +kernel) (by decide)) ?_
  refine xA (ok_iconst hC (show decode prog_12_method_4_code 34 = .ok (.iconst 1, 1) by decide +kernel) (by decide)) ?_
  refine xA (ok_goto hC (show decode prog_12_method_4_code 35 = .ok (.goto 4, 3) by decide +kernel) (by decide)) ?_
  refine xA (ok_iconst hC (show decode prog_12_method_4_code 38 = .ok (.iconst 0, 1) by decide +kernel) (by decide)) ?_
  refine xA (ok_zret hC hr (show decode prog_12_method_4_code 39 = .ok (.ireturn, 1) by decide +kernel)) ?_
  exact trivial

def tb_Ru_init (X : xX) : List (Nat × xOp) := [(0, o_ald 0 1),
  (1, o_obj 4),
  (4, o_ald 0 5),
  (5, o_new 12 3 [.int 0, .null, .int 0] 8),
  (8, o_dup 9),
  (9, o_callI X.l X.D X.P 3 1 y_AL_init 12),
  (12, o_put 10 0 (.object "java/util/ArrayList") 15),
  (15, o_ald 0 16),
  (16, o_new 12 3 [.int 0, .null, .int 0] 19),
  (19, o_dup 20),
  (20, o_callI X.l X.D X.P 3 1 y_AL_init 23),
  (23, o_put 10 1 (.object "java/util/ArrayList") 26),
  (26, o_vret X.P)]
theorem tk_Ru_init {X : xX} (hC : xCx X prog_6_method_1_code "StyleCourt$Rule" 1 4) (hr : X.meth.sig.returnType = none) (hnh : X.c.exceptionTable.isEmpty = true) (hin : X.meth.name = "<init>") : xAll X (tb_Ru_init X) := by
  refine xA (ok_aload_n hC (show decode prog_6_method_1_code 0 = .ok (.aload_n 0, 1) by decide +kernel) rfl) ?_
  refine xA (ok_obj hC (by decide) (show decode prog_6_method_1_code 1 = .ok (.invokespecial 1, 3) by decide +kernel) w_732 w_106 w_107) ?_
  refine xA (ok_aload_n hC (show decode prog_6_method_1_code 4 = .ok (.aload_n 0, 1) by decide +kernel) rfl) ?_
  refine xA (ok_new hC (show decode prog_6_method_1_code 5 = .ok (.new 7, 3) by decide +kernel) (by decide) (r0 := ("java/util/ArrayList", xF12, 3)) rfl (by decide) w_733 w_161 w_77) ?_
  refine xA (ok_dup hC (show decode prog_6_method_1_code 8 = .ok (.dup, 1) by decide +kernel)) ?_
  refine xA (ok_callI hC hnh (show decode prog_6_method_1_code 9 = .ok (.invokespecial 9, 3) by decide +kernel) (by decide) (by decide) ⟨by decide, by decide, by decide +kernel⟩ rfl w_164 w_77 w_734 w_163) ?_
  refine xA (ok_putF hC hin (show decode prog_6_method_1_code 12 = .ok (.putfield 10, 3) by decide +kernel) (by decide) (r0 := ("StyleCourt$Rule", xF10, 2)) rfl (by decide) rfl (by decide +kernel) w_735) ?_
  refine xA (ok_aload_n hC (show decode prog_6_method_1_code 15 = .ok (.aload_n 0, 1) by decide +kernel) rfl) ?_
  refine xA (ok_new hC (show decode prog_6_method_1_code 16 = .ok (.new 7, 3) by decide +kernel) (by decide) (r0 := ("java/util/ArrayList", xF12, 3)) rfl (by decide) w_733 w_161 w_77) ?_
  refine xA (ok_dup hC (show decode prog_6_method_1_code 19 = .ok (.dup, 1) by decide +kernel)) ?_
  refine xA (ok_callI hC hnh (show decode prog_6_method_1_code 20 = .ok (.invokespecial 9, 3) by decide +kernel) (by decide) (by decide) ⟨by decide, by decide, by decide +kernel⟩ rfl w_164 w_77 w_734 w_163) ?_
  refine xA (ok_putF hC hin (show decode prog_6_method_1_code 23 = .ok (.putfield 16, 3) by decide +kernel) (by decide) (r0 := ("StyleCourt$Rule", xF10, 2)) rfl (by decide) rfl (by decide +kernel) w_737) ?_
  refine xA (ok_vret hC hr (show decode prog_6_method_1_code 26 = .ok (.return_, 1) by decide +kernel)) ?_
  exact trivial

def tb_Ru_leading (X : xX) : List (Nat × xOp) := [(0, o_null 1),
  (1, o_ast 2 2),
  (2, o_ic 0 3),
  (3, o_ist 3 4),
  (4, o_ild 3 5),
  (5, o_ald 0 6),
  (6, o_get 10 1 9),
  (9, o_callV X.l X.D X.P 12 0 1 y_AL_size 12),
  (12, o_icge 65 15),
  (15, o_ald 0 16),
  (16, o_get 10 1 19),
  (19, o_ild 3 20),
  (20, o_callV X.l X.D X.P 12 2 2 y_AL_get 23),
  (23, o_cast (Nat.beq 9) 26),
  (26, o_ast 4 28),
  (28, o_ald 4 30),
  (30, o_get 9 1 33),
  (33, o_ild 1 34),
  (34, o_icne 59 37),
  (37, o_ald 2 38),
  (38, o_nul 56 41),
  (41, o_ald 4 43),
  (43, o_get 9 6 46),
  (46, o_ifne 56 49),
  (49, o_ald 2 50),
  (50, o_get 9 6 53),
  (53, o_ifne 59 56),
  (56, o_ald 4 58),
  (58, o_ast 2 59),
  (59, o_inc 3 1 62),
  (62, o_goto 4),
  (65, o_ald 2 66),
  (66, o_aret X.P)]
theorem tk_Ru_leading {X : xX} (hC : xCx X prog_6_method_3_code "StyleCourt$Rule" 5 3) (hr : X.meth.sig.returnType = (some (.object "StyleCourt$Told"))) (hnh : X.c.exceptionTable.isEmpty = true) (hin : X.meth.name = "leading") : xAll X (tb_Ru_leading X) := by
  refine xA (ok_null hC (show decode prog_6_method_3_code 0 = .ok (.aconst_null, 1) by decide +kernel)) ?_
  refine xA (ok_astore_n hC (show decode prog_6_method_3_code 1 = .ok (.astore_n 2, 1) by decide +kernel) rfl (by decide)) ?_
  refine xA (ok_iconst hC (show decode prog_6_method_3_code 2 = .ok (.iconst 0, 1) by decide +kernel) (by decide)) ?_
  refine xA (ok_istore_n hC (show decode prog_6_method_3_code 3 = .ok (.istore_n 3, 1) by decide +kernel) rfl (by decide)) ?_
  refine xA (ok_iload_n hC (show decode prog_6_method_3_code 4 = .ok (.iload_n 3, 1) by decide +kernel) rfl) ?_
  refine xA (ok_aload_n hC (show decode prog_6_method_3_code 5 = .ok (.aload_n 0, 1) by decide +kernel) rfl) ?_
  refine xA (ok_get hC (show decode prog_6_method_3_code 6 = .ok (.getfield 16, 3) by decide +kernel) (by decide) (r0 := ("StyleCourt$Rule", xF10, 2)) rfl (by decide) rfl w_737) ?_
  refine xA (ok_callV hC hnh (show decode prog_6_method_3_code 9 = .ok (.invokevirtual 19, 3) by decide +kernel) (by decide) (by decide) (by decide) (r0 := ("java/util/ArrayList", xF12, 3)) rfl ⟨by decide, by decide, by decide +kernel⟩ w_644 w_77 w_994 w_642 w_643) ?_
  refine xA (ok_icge hC (show decode prog_6_method_3_code 12 = .ok (.if_icmp .ge 53, 3) by decide +kernel) (by decide)) ?_
  refine xA (ok_aload_n hC (show decode prog_6_method_3_code 15 = .ok (.aload_n 0, 1) by decide +kernel) rfl) ?_
  refine xA (ok_get hC (show decode prog_6_method_3_code 16 = .ok (.getfield 16, 3) by decide +kernel) (by decide) (r0 := ("StyleCourt$Rule", xF10, 2)) rfl (by decide) rfl w_737) ?_
  refine xA (ok_iload_n hC (show decode prog_6_method_3_code 19 = .ok (.iload_n 3, 1) by decide +kernel) rfl) ?_
  refine xA (ok_callV hC hnh (show decode prog_6_method_3_code 20 = .ok (.invokevirtual 23, 3) by decide +kernel) (by decide) (by decide) (by decide) (r0 := ("java/util/ArrayList", xF12, 3)) rfl ⟨by decide, by decide, by decide +kernel⟩ w_662 w_77 w_995 w_660 w_661) ?_
  refine xA (ok_cast hC (show decode prog_6_method_3_code 23 = .ok (.checkcast 37, 3) by decide +kernel) w_996 (xcast_ok (r0 := ("StyleCourt$Told", xF9, 7)) (by decide) rfl rfl)) ?_
  refine xA (ok_astore hC (show decode prog_6_method_3_code 26 = .ok (.astore 4, 2) by decide +kernel) (by decide)) ?_
  refine xA (ok_aload hC (show decode prog_6_method_3_code 28 = .ok (.aload 4, 2) by decide +kernel)) ?_
  refine xA (ok_get hC (show decode prog_6_method_3_code 30 = .ok (.getfield 39, 3) by decide +kernel) (by decide) (r0 := ("StyleCourt$Told", xF9, 7)) rfl (by decide) rfl w_925) ?_
  refine xA (ok_iload_n hC (show decode prog_6_method_3_code 33 = .ok (.iload_n 1, 1) by decide +kernel) rfl) ?_
  refine xA (ok_icne hC (show decode prog_6_method_3_code 34 = .ok (.if_icmp .ne 25, 3) by decide +kernel) (by decide)) ?_
  refine xA (ok_aload_n hC (show decode prog_6_method_3_code 37 = .ok (.aload_n 2, 1) by decide +kernel) rfl) ?_
  refine xA (ok_ifnull hC (show decode prog_6_method_3_code 38 = .ok (.ifnull 18, 3) by decide +kernel) (by decide)) ?_
  refine xA (ok_aload hC (show decode prog_6_method_3_code 41 = .ok (.aload 4, 2) by decide +kernel)) ?_
  refine xA (ok_get hC (show decode prog_6_method_3_code 43 = .ok (.getfield 42, 3) by decide +kernel) (by decide) (r0 := ("StyleCourt$Told", xF9, 7)) rfl (by decide) rfl w_935) ?_
  refine xA (ok_ifne hC (show decode prog_6_method_3_code 46 = .ok (.ifCond .ne 10, 3) by decide +kernel) (by decide)) ?_
  refine xA (ok_aload_n hC (show decode prog_6_method_3_code 49 = .ok (.aload_n 2, 1) by decide +kernel) rfl) ?_
  refine xA (ok_get hC (show decode prog_6_method_3_code 50 = .ok (.getfield 42, 3) by decide +kernel) (by decide) (r0 := ("StyleCourt$Told", xF9, 7)) rfl (by decide) rfl w_935) ?_
  refine xA (ok_ifne hC (show decode prog_6_method_3_code 53 = .ok (.ifCond .ne 6, 3) by decide +kernel) (by decide)) ?_
  refine xA (ok_aload hC (show decode prog_6_method_3_code 56 = .ok (.aload 4, 2) by decide +kernel)) ?_
  refine xA (ok_astore_n hC (show decode prog_6_method_3_code 58 = .ok (.astore_n 2, 1) by decide +kernel) rfl (by decide)) ?_
  refine xA (ok_iinc hC (show decode prog_6_method_3_code 59 = .ok (.iinc 3 1, 3) by decide +kernel) (by decide) (by decide)) ?_
  refine xA (ok_goto hC (show decode prog_6_method_3_code 62 = .ok (.goto (-58), 3) by decide +kernel) (by decide)) ?_
  refine xA (ok_aload_n hC (show decode prog_6_method_3_code 65 = .ok (.aload_n 2, 1) by decide +kernel) rfl) ?_
  refine xA (ok_aret hC hr (Or.inl ⟨_, rfl⟩) (show decode prog_6_method_3_code 66 = .ok (.areturn, 1) by decide +kernel)) ?_
  exact trivial

def tb_Ru_weightFor (X : xX) : List (Nat × xOp) := [(0, o_ic (-1) 1),
  (1, o_ist 3 2),
  (2, o_ic 0 3),
  (3, o_ist 4 5),
  (5, o_ild 4 7),
  (7, o_ald 0 8),
  (8, o_get 10 0 11),
  (11, o_callV X.l X.D X.P 12 0 1 y_AL_size 14),
  (14, o_icge 62 17),
  (17, o_ald 0 18),
  (18, o_get 10 0 21),
  (21, o_ild 4 23),
  (23, o_callV X.l X.D X.P 12 2 2 y_AL_get 26),
  (26, o_cast (Nat.beq 8) 29),
  (29, o_ast 5 31),
  (31, o_ald 5 33),
  (33, o_get 8 1 36),
  (36, o_ild 3 37),
  (37, o_icle 56 40),
  (40, o_ald 5 42),
  (42, o_ald 1 43),
  (43, o_ald 2 44),
  (44, o_callV X.l X.D X.P 8 6 3 y_Se_matches 47),
  (47, o_ifeq 56 50),
  (50, o_ald 5 52),
  (52, o_get 8 1 55),
  (55, o_ist 3 56),
  (56, o_inc 4 1 59),
  (59, o_goto 5),
  (62, o_ild 3 63),
  (63, o_iret X.P)]
theorem tk_Ru_weightFor {X : xX} (hC : xCx X prog_6_method_2_code "StyleCourt$Rule" 6 7) (hr : X.meth.sig.returnType = (some .int)) (hnh : X.c.exceptionTable.isEmpty = true) (hin : X.meth.name = "weightFor") : xAll X (tb_Ru_weightFor X) := by
  refine xA (ok_iconst hC (show decode prog_6_method_2_code 0 = .ok (.iconst (-1), 1) by decide +kernel) (by decide)) ?_
  refine xA (ok_istore_n hC (show decode prog_6_method_2_code 1 = .ok (.istore_n 3, 1) by decide +kernel) rfl (by decide)) ?_
  refine xA (ok_iconst hC (show decode prog_6_method_2_code 2 = .ok (.iconst 0, 1) by decide +kernel) (by decide)) ?_
  refine xA (ok_istore hC (show decode prog_6_method_2_code 3 = .ok (.istore 4, 2) by decide +kernel) (by decide)) ?_
  refine xA (ok_iload hC (show decode prog_6_method_2_code 5 = .ok (.iload 4, 2) by decide +kernel)) ?_
  refine xA (ok_aload_n hC (show decode prog_6_method_2_code 7 = .ok (.aload_n 0, 1) by decide +kernel) rfl) ?_
  refine xA (ok_get hC (show decode prog_6_method_2_code 8 = .ok (.getfield 10, 3) by decide +kernel) (by decide) (r0 := ("StyleCourt$Rule", xF10, 2)) rfl (by decide) rfl w_735) ?_
  refine xA (ok_callV hC hnh (show decode prog_6_method_2_code 11 = .ok (.invokevirtual 19, 3) by decide +kernel) (by decide) (by decide) (by decide) (r0 := ("java/util/ArrayList", xF12, 3)) rfl ⟨by decide, by decide, by decide +kernel⟩ w_644 w_77 w_994 w_642 w_643) ?_
  refine xA (ok_icge hC (show decode prog_6_method_2_code 14 = .ok (.if_icmp .ge 48, 3) by decide +kernel) (by decide)) ?_
  refine xA (ok_aload_n hC (show decode prog_6_method_2_code 17 = .ok (.aload_n 0, 1) by decide +kernel) rfl) ?_
  refine xA (ok_get hC (show decode prog_6_method_2_code 18 = .ok (.getfield 10, 3) by decide +kernel) (by decide) (r0 := ("StyleCourt$Rule", xF10, 2)) rfl (by decide) rfl w_735) ?_
  refine xA (ok_iload hC (show decode prog_6_method_2_code 21 = .ok (.iload 4, 2) by decide +kernel)) ?_
  refine xA (ok_callV hC hnh (show decode prog_6_method_2_code 23 = .ok (.invokevirtual 23, 3) by decide +kernel) (by decide) (by decide) (by decide) (r0 := ("java/util/ArrayList", xF12, 3)) rfl ⟨by decide, by decide, by decide +kernel⟩ w_662 w_77 w_995 w_660 w_661) ?_
  refine xA (ok_cast hC (show decode prog_6_method_2_code 26 = .ok (.checkcast 27, 3) by decide +kernel) w_1001 (xcast_ok (r0 := ("StyleCourt$Selector", xF8, 2)) (by decide) rfl rfl)) ?_
  refine xA (ok_astore hC (show decode prog_6_method_2_code 29 = .ok (.astore 5, 2) by decide +kernel) (by decide)) ?_
  refine xA (ok_aload hC (show decode prog_6_method_2_code 31 = .ok (.aload 5, 2) by decide +kernel)) ?_
  refine xA (ok_get hC (show decode prog_6_method_2_code 33 = .ok (.getfield 29, 3) by decide +kernel) (by decide) (r0 := ("StyleCourt$Selector", xF8, 2)) rfl (by decide) rfl w_761) ?_
  refine xA (ok_iload_n hC (show decode prog_6_method_2_code 36 = .ok (.iload_n 3, 1) by decide +kernel) rfl) ?_
  refine xA (ok_icle hC (show decode prog_6_method_2_code 37 = .ok (.if_icmp .le 19, 3) by decide +kernel) (by decide)) ?_
  refine xA (ok_aload hC (show decode prog_6_method_2_code 40 = .ok (.aload 5, 2) by decide +kernel)) ?_
  refine xA (ok_aload_n hC (show decode prog_6_method_2_code 42 = .ok (.aload_n 1, 1) by decide +kernel) rfl) ?_
  refine xA (ok_aload_n hC (show decode prog_6_method_2_code 43 = .ok (.aload_n 2, 1) by decide +kernel) rfl) ?_
  refine xA (ok_callV hC hnh (show decode prog_6_method_2_code 44 = .ok (.invokevirtual 33, 3) by decide +kernel) (by decide) (by decide) (by decide) (r0 := ("StyleCourt$Selector", xF8, 2)) rfl ⟨by decide, by decide, by decide +kernel⟩ w_1005 w_93 w_1002 w_1003 w_1004) ?_
  refine xA (ok_ifeq hC (show decode prog_6_method_2_code 47 = .ok (.ifCond .eq 9, 3) by decide +kernel) (by decide)) ?_
  refine xA (ok_aload hC (show decode prog_6_method_2_code 50 = .ok (.aload 5, 2) by decide +kernel)) ?_
  refine xA (ok_get hC (show decode prog_6_method_2_code 52 = .ok (.getfield 29, 3) by decide +kernel) (by decide) (r0 := ("StyleCourt$Selector", xF8, 2)) rfl (by decide) rfl w_761) ?_
  refine xA (ok_istore_n hC (show decode prog_6_method_2_code 55 = .ok (.istore_n 3, 1) by decide +kernel) rfl (by decide)) ?_
  refine xA (ok_iinc hC (show decode prog_6_method_2_code 56 = .ok (.iinc 4 1, 3) by decide +kernel) (by decide) (by decide)) ?_
  refine xA (ok_goto hC (show decode prog_6_method_2_code 59 = .ok (.goto (-54), 3) by decide +kernel) (by decide)) ?_
  refine xA (ok_iload_n hC (show decode prog_6_method_2_code 62 = .ok (.iload_n 3, 1) by decide +kernel) rfl) ?_
  refine xA (ok_iret hC hr (show decode prog_6_method_2_code 63 = .ok (.ireturn, 1) by decide +kernel)) ?_
  exact trivial

def tb_Sy_init (X : xX) : List (Nat × xOp) := [(0, o_ald 0 1),
  (1, o_obj 4),
  (4, o_ald 0 5),
  (5, o_new 12 3 [.int 0, .null, .int 0] 8),
  (8, o_dup 9),
  (9, o_callI X.l X.D X.P 3 1 y_AL_init 12),
  (12, o_put 11 0 (.object "java/util/ArrayList") 15),
  (15, o_ald 0 16),
  (16, o_new 12 3 [.int 0, .null, .int 0] 19),
  (19, o_dup 20),
  (20, o_callI X.l X.D X.P 3 1 y_AL_init 23),
  (23, o_put 11 1 (.object "java/util/ArrayList") 26),
  (26, o_ald 0 27),
  (27, o_new 12 3 [.int 0, .null, .int 0] 30),
  (30, o_dup 31),
  (31, o_callI X.l X.D X.P 3 1 y_AL_init 34),
  (34, o_put 11 2 (.object "java/util/ArrayList") 37),
  (37, o_ald 0 38),
  (38, o_ic 0 39),
  (39, o_put 11 3 (.int) 42),
  (42, o_vret X.P)]
theorem tk_Sy_init {X : xX} (hC : xCx X prog_11_method_1_code "StyleCourt$Style" 1 4) (hr : X.meth.sig.returnType = none) (hnh : X.c.exceptionTable.isEmpty = true) (hin : X.meth.name = "<init>") : xAll X (tb_Sy_init X) := by
  refine xA (ok_aload_n hC (show decode prog_11_method_1_code 0 = .ok (.aload_n 0, 1) by decide +kernel) rfl) ?_
  refine xA (ok_obj hC (by decide) (show decode prog_11_method_1_code 1 = .ok (.invokespecial 3, 3) by decide +kernel) w_395 w_106 w_107) ?_
  refine xA (ok_aload_n hC (show decode prog_11_method_1_code 4 = .ok (.aload_n 0, 1) by decide +kernel) rfl) ?_
  refine xA (ok_new hC (show decode prog_11_method_1_code 5 = .ok (.new 9, 3) by decide +kernel) (by decide) (r0 := ("java/util/ArrayList", xF12, 3)) rfl (by decide) w_396 w_161 w_77) ?_
  refine xA (ok_dup hC (show decode prog_11_method_1_code 8 = .ok (.dup, 1) by decide +kernel)) ?_
  refine xA (ok_callI hC hnh (show decode prog_11_method_1_code 9 = .ok (.invokespecial 11, 3) by decide +kernel) (by decide) (by decide) ⟨by decide, by decide, by decide +kernel⟩ rfl w_164 w_77 w_397 w_163) ?_
  refine xA (ok_putF hC hin (show decode prog_11_method_1_code 12 = .ok (.putfield 12, 3) by decide +kernel) (by decide) (r0 := ("StyleCourt$Style", xF11, 4)) rfl (by decide) rfl (by decide +kernel) w_398) ?_
  refine xA (ok_aload_n hC (show decode prog_11_method_1_code 15 = .ok (.aload_n 0, 1) by decide +kernel) rfl) ?_
  refine xA (ok_new hC (show decode prog_11_method_1_code 16 = .ok (.new 9, 3) by decide +kernel) (by decide) (r0 := ("java/util/ArrayList", xF12, 3)) rfl (by decide) w_396 w_161 w_77) ?_
  refine xA (ok_dup hC (show decode prog_11_method_1_code 19 = .ok (.dup, 1) by decide +kernel)) ?_
  refine xA (ok_callI hC hnh (show decode prog_11_method_1_code 20 = .ok (.invokespecial 11, 3) by decide +kernel) (by decide) (by decide) ⟨by decide, by decide, by decide +kernel⟩ rfl w_164 w_77 w_397 w_163) ?_
  refine xA (ok_putF hC hin (show decode prog_11_method_1_code 23 = .ok (.putfield 18, 3) by decide +kernel) (by decide) (r0 := ("StyleCourt$Style", xF11, 4)) rfl (by decide) rfl (by decide +kernel) w_399) ?_
  refine xA (ok_aload_n hC (show decode prog_11_method_1_code 26 = .ok (.aload_n 0, 1) by decide +kernel) rfl) ?_
  refine xA (ok_new hC (show decode prog_11_method_1_code 27 = .ok (.new 9, 3) by decide +kernel) (by decide) (r0 := ("java/util/ArrayList", xF12, 3)) rfl (by decide) w_396 w_161 w_77) ?_
  refine xA (ok_dup hC (show decode prog_11_method_1_code 30 = .ok (.dup, 1) by decide +kernel)) ?_
  refine xA (ok_callI hC hnh (show decode prog_11_method_1_code 31 = .ok (.invokespecial 11, 3) by decide +kernel) (by decide) (by decide) ⟨by decide, by decide, by decide +kernel⟩ rfl w_164 w_77 w_397 w_163) ?_
  refine xA (ok_putF hC hin (show decode prog_11_method_1_code 34 = .ok (.putfield 21, 3) by decide +kernel) (by decide) (r0 := ("StyleCourt$Style", xF11, 4)) rfl (by decide) rfl (by decide +kernel) w_401) ?_
  refine xA (ok_aload_n hC (show decode prog_11_method_1_code 37 = .ok (.aload_n 0, 1) by decide +kernel) rfl) ?_
  refine xA (ok_iconst hC (show decode prog_11_method_1_code 38 = .ok (.iconst 0, 1) by decide +kernel) (by decide)) ?_
  refine xA (ok_put hC (show decode prog_11_method_1_code 39 = .ok (.putfield 24, 3) by decide +kernel) (by decide) (r0 := ("StyleCourt$Style", xF11, 4)) rfl (by decide) rfl (by decide +kernel) w_402) ?_
  refine xA (ok_vret hC hr (show decode prog_11_method_1_code 42 = .ok (.return_, 1) by decide +kernel)) ?_
  exact trivial

def tb_Sy_readSelectors (X : xX) : List (Nat × xOp) := [(0, o_ic 0 1),
  (1, o_ist 3 2),
  (2, o_ild 3 3),
  (3, o_ic 120 5),
  (5, o_icgt 94 8),
  (8, o_ald 1 9),
  (9, o_callV X.l X.D X.P 1 1 1 y_Rd_nextSign 12),
  (12, o_pop 13),
  (13, o_ald 0 14),
  (14, o_get 11 1 17),
  (17, o_callV X.l X.D X.P 12 0 1 y_AL_size 20),
  (20, o_ic 120 22),
  (22, o_iclt 33 25),
  (25, o_ald 1 26),
  (26, o_ald 1 27),
  (27, o_get 1 1 30),
  (30, o_callV X.l X.D X.P 1 6 2 y_Rd_failAt 33),
  (33, o_new 8 2 [.null, .int 0] 36),
  (36, o_dup 37),
  (37, o_callI X.l X.D X.P 4 1 y_Se_init 40),
  (40, o_ast 4 42),
  (42, o_ald 4 44),
  (44, o_ald 1 45),
  (45, o_callV X.l X.D X.P 8 10 2 y_Se_readSteps 48),
  (48, o_ald 0 49),
  (49, o_get 11 1 52),
  (52, o_ald 4 54),
  (54, o_callV X.l X.D X.P 12 6 2 y_AL_add 57),
  (57, o_pop 58),
  (58, o_ald 2 59),
  (59, o_get 10 0 62),
  (62, o_ald 4 64),
  (64, o_callV X.l X.D X.P 12 6 2 y_AL_add 67),
  (67, o_pop 68),
  (68, o_ald 1 69),
  (69, o_callV X.l X.D X.P 1 1 1 y_Rd_nextSign 72),
  (72, o_ic 44 74),
  (74, o_iceq 78 77),
  (77, o_vret X.P),
  (78, o_ald 1 79),
  (79, o_dup 80),
  (80, o_get 1 1 83),
  (83, o_ic 1 84),
  (84, o_iadd 85),
  (85, o_put 1 1 (.int) 88),
  (88, o_inc 3 1 91),
  (91, o_goto 2),
  (94, o_vret X.P)]
theorem tk_Sy_readSelectors {X : xX} (hC : xCx X prog_11_method_2_code "StyleCourt$Style" 5 11) (hr : X.meth.sig.returnType = none) (hnh : X.c.exceptionTable.isEmpty = true) (hin : X.meth.name = "readSelectors") : xAll X (tb_Sy_readSelectors X) := by
  refine xA (ok_iconst hC (show decode prog_11_method_2_code 0 = .ok (.iconst 0, 1) by decide +kernel) (by decide)) ?_
  refine xA (ok_istore_n hC (show decode prog_11_method_2_code 1 = .ok (.istore_n 3, 1) by decide +kernel) rfl (by decide)) ?_
  refine xA (ok_iload_n hC (show decode prog_11_method_2_code 2 = .ok (.iload_n 3, 1) by decide +kernel) rfl) ?_
  refine xA (ok_bipush hC (show decode prog_11_method_2_code 3 = .ok (.bipush 120, 2) by decide +kernel) (by decide)) ?_
  refine xA (ok_icgt hC (show decode prog_11_method_2_code 5 = .ok (.if_icmp .gt 89, 3) by decide +kernel) (by decide)) ?_
  refine xA (ok_aload_n hC (show decode prog_11_method_2_code 8 = .ok (.aload_n 1, 1) by decide +kernel) rfl) ?_
  refine xA (ok_callV hC hnh (show decode prog_11_method_2_code 9 = .ok (.invokevirtual 28, 3) by decide +kernel) (by decide) (by decide) (by decide) (r0 := ("StyleCourt$Reader", xF1, 3)) rfl ⟨by decide, by decide, by decide +kernel⟩ w_633 w_70 w_748 w_631 w_632) ?_
  refine xA (ok_pop hC (show decode prog_11_method_2_code 12 = .ok (.pop, 1) by decide +kernel)) ?_
  refine xA (ok_aload_n hC (show decode prog_11_method_2_code 13 = .ok (.aload_n 0, 1) by decide +kernel) rfl) ?_
  refine xA (ok_get hC (show decode prog_11_method_2_code 14 = .ok (.getfield 18, 3) by decide +kernel) (by decide) (r0 := ("StyleCourt$Style", xF11, 4)) rfl (by decide) rfl w_399) ?_
  refine xA (ok_callV hC hnh (show decode prog_11_method_2_code 17 = .ok (.invokevirtual 34, 3) by decide +kernel) (by decide) (by decide) (by decide) (r0 := ("java/util/ArrayList", xF12, 3)) rfl ⟨by decide, by decide, by decide +kernel⟩ w_644 w_77 w_749 w_642 w_643) ?_
  refine xA (ok_bipush hC (show decode prog_11_method_2_code 20 = .ok (.bipush 120, 2) by decide +kernel) (by decide)) ?_
  refine xA (ok_iclt hC (show decode prog_11_method_2_code 22 = .ok (.if_icmp .lt 11, 3) by decide +kernel) (by decide)) ?_
  refine xA (ok_aload_n hC (show decode prog_11_method_2_code 25 = .ok (.aload_n 1, 1) by decide +kernel) rfl) ?_
  refine xA (ok_aload_n hC (show decode prog_11_method_2_code 26 = .ok (.aload_n 1, 1) by decide +kernel) rfl) ?_
  refine xA (ok_get hC (show decode prog_11_method_2_code 27 = .ok (.getfield 37, 3) by decide +kernel) (by decide) (r0 := ("StyleCourt$Reader", xF1, 3)) rfl (by decide) rfl w_140) ?_
  refine xA (ok_callV hC hnh (show decode prog_11_method_2_code 30 = .ok (.invokevirtual 40, 3) by decide +kernel) (by decide) (by decide) (by decide) (r0 := ("StyleCourt$Reader", xF1, 3)) rfl ⟨by decide, by decide, by decide +kernel⟩ w_591 w_70 w_750 w_589 w_590) ?_
  refine xA (ok_new hC (show decode prog_11_method_2_code 33 = .ok (.new 44, 3) by decide +kernel) (by decide) (r0 := ("StyleCourt$Selector", xF8, 2)) rfl (by decide) w_751 w_752 w_93) ?_
  refine xA (ok_dup hC (show decode prog_11_method_2_code 36 = .ok (.dup, 1) by decide +kernel)) ?_
  refine xA (ok_callIN hC hnh (show decode prog_11_method_2_code 37 = .ok (.invokespecial 46, 3) by decide +kernel) (by decide) (by decide) ⟨by decide, by decide, by decide +kernel⟩ rfl w_755 w_93 w_753 w_754) ?_
  refine xA (ok_astore hC (show decode prog_11_method_2_code 40 = .ok (.astore 4, 2) by decide +kernel) (by decide)) ?_
  refine xA (ok_aload hC (show decode prog_11_method_2_code 42 = .ok (.aload 4, 2) by decide +kernel)) ?_
  refine xA (ok_aload_n hC (show decode prog_11_method_2_code 44 = .ok (.aload_n 1, 1) by decide +kernel) rfl) ?_
  refine xA (ok_callV hC hnh (show decode prog_11_method_2_code 45 = .ok (.invokevirtual 47, 3) by decide +kernel) (by decide) (by decide) (by decide) (r0 := ("StyleCourt$Selector", xF8, 2)) rfl ⟨by decide, by decide, by decide +kernel⟩ w_771 w_93 w_768 w_769 w_770) ?_
  refine xA (ok_aload_n hC (show decode prog_11_method_2_code 48 = .ok (.aload_n 0, 1) by decide +kernel) rfl) ?_
  refine xA (ok_get hC (show decode prog_11_method_2_code 49 = .ok (.getfield 18, 3) by decide +kernel) (by decide) (r0 := ("StyleCourt$Style", xF11, 4)) rfl (by decide) rfl w_399) ?_
  refine xA (ok_aload hC (show decode prog_11_method_2_code 52 = .ok (.aload 4, 2) by decide +kernel)) ?_
  refine xA (ok_callV hC hnh (show decode prog_11_method_2_code 54 = .ok (.invokevirtual 51, 3) by decide +kernel) (by decide) (by decide) (by decide) (r0 := ("java/util/ArrayList", xF12, 3)) rfl ⟨by decide, by decide, by decide +kernel⟩ w_315 w_77 w_898 w_313 w_314) ?_
  refine xA (ok_pop hC (show decode prog_11_method_2_code 57 = .ok (.pop, 1) by decide +kernel)) ?_
  refine xA (ok_aload_n hC (show decode prog_11_method_2_code 58 = .ok (.aload_n 2, 1) by decide +kernel) rfl) ?_
  refine xA (ok_get hC (show decode prog_11_method_2_code 59 = .ok (.getfield 55, 3) by decide +kernel) (by decide) (r0 := ("StyleCourt$Rule", xF10, 2)) rfl (by decide) rfl w_736) ?_
  refine xA (ok_aload hC (show decode prog_11_method_2_code 62 = .ok (.aload 4, 2) by decide +kernel)) ?_
  refine xA (ok_callV hC hnh (show decode prog_11_method_2_code 64 = .ok (.invokevirtual 51, 3) by decide +kernel) (by decide) (by decide) (by decide) (r0 := ("java/util/ArrayList", xF12, 3)) rfl ⟨by decide, by decide, by decide +kernel⟩ w_315 w_77 w_898 w_313 w_314) ?_
  refine xA (ok_pop hC (show decode prog_11_method_2_code 67 = .ok (.pop, 1) by decide +kernel)) ?_
  refine xA (ok_aload_n hC (show decode prog_11_method_2_code 68 = .ok (.aload_n 1, 1) by decide +kernel) rfl) ?_
  refine xA (ok_callV hC hnh (show decode prog_11_method_2_code 69 = .ok (.invokevirtual 28, 3) by decide +kernel) (by decide) (by decide) (by decide) (r0 := ("StyleCourt$Reader", xF1, 3)) rfl ⟨by decide, by decide, by decide +kernel⟩ w_633 w_70 w_748 w_631 w_632) ?_
  refine xA (ok_bipush hC (show decode prog_11_method_2_code 72 = .ok (.bipush 44, 2) by decide +kernel) (by decide)) ?_
  refine xA (ok_iceq hC (show decode prog_11_method_2_code 74 = .ok (.if_icmp .eq 4, 3) by decide +kernel) (by decide)) ?_
  refine xA (ok_vret hC hr (show decode prog_11_method_2_code 77 = .ok (.return_, 1) by decide +kernel)) ?_
  refine xA (ok_aload_n hC (show decode prog_11_method_2_code 78 = .ok (.aload_n 1, 1) by decide +kernel) rfl) ?_
  refine xA (ok_dup hC (show decode prog_11_method_2_code 79 = .ok (.dup, 1) by decide +kernel)) ?_
  refine xA (ok_get hC (show decode prog_11_method_2_code 80 = .ok (.getfield 37, 3) by decide +kernel) (by decide) (r0 := ("StyleCourt$Reader", xF1, 3)) rfl (by decide) rfl w_140) ?_
  refine xA (ok_iconst hC (show decode prog_11_method_2_code 83 = .ok (.iconst 1, 1) by decide +kernel) (by decide)) ?_
  refine xA (ok_iadd hC (show decode prog_11_method_2_code 84 = .ok (.iadd, 1) by decide +kernel)) ?_
  refine xA (ok_put hC (show decode prog_11_method_2_code 85 = .ok (.putfield 37, 3) by decide +kernel) (by decide) (r0 := ("StyleCourt$Reader", xF1, 3)) rfl (by decide) rfl (by decide +kernel) w_140) ?_
  refine xA (ok_iinc hC (show decode prog_11_method_2_code 88 = .ok (.iinc 3 1, 3) by decide +kernel) (by decide) (by decide)) ?_
  refine xA (ok_goto hC (show decode prog_11_method_2_code 91 = .ok (.goto (-89), 3) by decide +kernel) (by decide)) ?_
  refine xA (ok_vret hC hr (show decode prog_11_method_2_code 94 = .ok (.return_, 1) by decide +kernel)) ?_
  exact trivial

def tb_Sy_readBody (X : xX) : List (Nat × xOp) := [(0, o_ald 1 1),
  (1, o_ic 123 3),
  (3, o_callV X.l X.D X.P 1 7 2 y_Rd_expectSign 6),
  (6, o_ic 0 7),
  (7, o_ist 3 8),
  (8, o_ild 3 9),
  (9, o_ic 600 12),
  (12, o_icgt 43 15),
  (15, o_ald 1 16),
  (16, o_callV X.l X.D X.P 1 1 1 y_Rd_nextSign 19),
  (19, o_ic 125 21),
  (21, o_iceq 43 24),
  (24, o_ald 2 25),
  (25, o_get 10 1 28),
  (28, o_ald 0 29),
  (29, o_ald 1 30),
  (30, o_callV X.l X.D X.P 11 10 2 y_Sy_readTold 33),
  (33, o_callV X.l X.D X.P 12 6 2 y_AL_add 36),
  (36, o_pop 37),
  (37, o_inc 3 1 40),
  (40, o_goto 8),
  (43, o_ald 1 44),
  (44, o_ic 125 46),
  (46, o_callV X.l X.D X.P 1 7 2 y_Rd_expectSign 49),
  (49, o_ald 0 50),
  (50, o_get 11 0 53),
  (53, o_ald 2 54),
  (54, o_callV X.l X.D X.P 12 6 2 y_AL_add 57),
  (57, o_pop 58),
  (58, o_vret X.P)]
theorem tk_Sy_readBody {X : xX} (hC : xCx X prog_11_method_3_code "StyleCourt$Style" 4 11) (hr : X.meth.sig.returnType = none) (hnh : X.c.exceptionTable.isEmpty = true) (hin : X.meth.name = "readBody") : xAll X (tb_Sy_readBody X) := by
  refine xA (ok_aload_n hC (show decode prog_11_method_3_code 0 = .ok (.aload_n 1, 1) by decide +kernel) rfl) ?_
  refine xA (ok_bipush hC (show decode prog_11_method_3_code 1 = .ok (.bipush 123, 2) by decide +kernel) (by decide)) ?_
  refine xA (ok_callV hC hnh (show decode prog_11_method_3_code 3 = .ok (.invokevirtual 58, 3) by decide +kernel) (by decide) (by decide) (by decide) (r0 := ("StyleCourt$Reader", xF1, 3)) rfl ⟨by decide, by decide, by decide +kernel⟩ w_629 w_70 w_903 w_627 w_628) ?_
  refine xA (ok_iconst hC (show decode prog_11_method_3_code 6 = .ok (.iconst 0, 1) by decide +kernel) (by decide)) ?_
  refine xA (ok_istore_n hC (show decode prog_11_method_3_code 7 = .ok (.istore_n 3, 1) by decide +kernel) rfl (by decide)) ?_
  refine xA (ok_iload_n hC (show decode prog_11_method_3_code 8 = .ok (.iload_n 3, 1) by decide +kernel) rfl) ?_
  refine xA (ok_sipush hC (show decode prog_11_method_3_code 9 = .ok (.sipush 600, 3) by decide +kernel) (by decide)) ?_
  refine xA (ok_icgt hC (show decode prog_11_method_3_code 12 = .ok (.if_icmp .gt 31, 3) by decide +kernel) (by decide)) ?_
  refine xA (ok_aload_n hC (show decode prog_11_method_3_code 15 = .ok (.aload_n 1, 1) by decide +kernel) rfl) ?_
  refine xA (ok_callV hC hnh (show decode prog_11_method_3_code 16 = .ok (.invokevirtual 28, 3) by decide +kernel) (by decide) (by decide) (by decide) (r0 := ("StyleCourt$Reader", xF1, 3)) rfl ⟨by decide, by decide, by decide +kernel⟩ w_633 w_70 w_748 w_631 w_632) ?_
  refine xA (ok_bipush hC (show decode prog_11_method_3_code 19 = .ok (.bipush 125, 2) by decide +kernel) (by decide)) ?_
  refine xA (ok_iceq hC (show decode prog_11_method_3_code 21 = .ok (.if_icmp .eq 22, 3) by decide +kernel) (by decide)) ?_
  refine xA (ok_aload_n hC (show decode prog_11_method_3_code 24 = .ok (.aload_n 2, 1) by decide +kernel) rfl) ?_
  refine xA (ok_get hC (show decode prog_11_method_3_code 25 = .ok (.getfield 62, 3) by decide +kernel) (by decide) (r0 := ("StyleCourt$Rule", xF10, 2)) rfl (by decide) rfl w_738) ?_
  refine xA (ok_aload_n hC (show decode prog_11_method_3_code 28 = .ok (.aload_n 0, 1) by decide +kernel) rfl) ?_
  refine xA (ok_aload_n hC (show decode prog_11_method_3_code 29 = .ok (.aload_n 1, 1) by decide +kernel) rfl) ?_
  refine xA (ok_callV hC hnh (show decode prog_11_method_3_code 30 = .ok (.invokevirtual 65, 3) by decide +kernel) (by decide) (by decide) (by decide) (r0 := ("StyleCourt$Style", xF11, 4)) rfl ⟨by decide, by decide, by decide +kernel⟩ w_907 w_82 w_904 w_906 w_16) ?_
  refine xA (ok_callV hC hnh (show decode prog_11_method_3_code 33 = .ok (.invokevirtual 51, 3) by decide +kernel) (by decide) (by decide) (by decide) (r0 := ("java/util/ArrayList", xF12, 3)) rfl ⟨by decide, by decide, by decide +kernel⟩ w_315 w_77 w_898 w_313 w_314) ?_
  refine xA (ok_pop hC (show decode prog_11_method_3_code 36 = .ok (.pop, 1) by decide +kernel)) ?_
  refine xA (ok_iinc hC (show decode prog_11_method_3_code 37 = .ok (.iinc 3 1, 3) by decide +kernel) (by decide) (by decide)) ?_
  refine xA (ok_goto hC (show decode prog_11_method_3_code 40 = .ok (.goto (-32), 3) by decide +kernel) (by decide)) ?_
  refine xA (ok_aload_n hC (show decode prog_11_method_3_code 43 = .ok (.aload_n 1, 1) by decide +kernel) rfl) ?_
  refine xA (ok_bipush hC (show decode prog_11_method_3_code 44 = .ok (.bipush 125, 2) by decide +kernel) (by decide)) ?_
  refine xA (ok_callV hC hnh (show decode prog_11_method_3_code 46 = .ok (.invokevirtual 58, 3) by decide +kernel) (by decide) (by decide) (by decide) (r0 := ("StyleCourt$Reader", xF1, 3)) rfl ⟨by decide, by decide, by decide +kernel⟩ w_629 w_70 w_903 w_627 w_628) ?_
  refine xA (ok_aload_n hC (show decode prog_11_method_3_code 49 = .ok (.aload_n 0, 1) by decide +kernel) rfl) ?_
  refine xA (ok_get hC (show decode prog_11_method_3_code 50 = .ok (.getfield 12, 3) by decide +kernel) (by decide) (r0 := ("StyleCourt$Style", xF11, 4)) rfl (by decide) rfl w_398) ?_
  refine xA (ok_aload_n hC (show decode prog_11_method_3_code 53 = .ok (.aload_n 2, 1) by decide +kernel) rfl) ?_
  refine xA (ok_callV hC hnh (show decode prog_11_method_3_code 54 = .ok (.invokevirtual 51, 3) by decide +kernel) (by decide) (by decide) (by decide) (r0 := ("java/util/ArrayList", xF12, 3)) rfl ⟨by decide, by decide, by decide +kernel⟩ w_315 w_77 w_898 w_313 w_314) ?_
  refine xA (ok_pop hC (show decode prog_11_method_3_code 57 = .ok (.pop, 1) by decide +kernel)) ?_
  refine xA (ok_vret hC hr (show decode prog_11_method_3_code 58 = .ok (.return_, 1) by decide +kernel)) ?_
  exact trivial

def tb_Sy_readTold (X : xX) : List (Nat × xOp) := [(0, o_ald 1 1),
  (1, o_callV X.l X.D X.P 1 7 1 y_Rd_readName 4),
  (4, o_ast 2 5),
  (5, o_ald 0 6),
  (6, o_ald 2 7),
  (7, o_callV X.l X.D X.P 11 3 2 y_Sy_numberOfName 10),
  (10, o_ist 3 11),
  (11, o_ild 3 12),
  (12, o_ifge 32 15),
  (15, o_ald 0 16),
  (16, o_get 11 2 19),
  (19, o_callV X.l X.D X.P 12 0 1 y_AL_size 22),
  (22, o_ist 3 23),
  (23, o_ald 0 24),
  (24, o_get 11 2 27),
  (27, o_ald 2 28),
  (28, o_callV X.l X.D X.P 12 6 2 y_AL_add 31),
  (31, o_pop 32),
  (32, o_ald 0 33),
  (33, o_get 11 3 36),
  (36, o_ic 600 39),
  (39, o_icge 54 42),
  (42, o_ald 0 43),
  (43, o_get 11 2 46),
  (46, o_callV X.l X.D X.P 12 0 1 y_AL_size 49),
  (49, o_ic 30 51),
  (51, o_icle 62 54),
  (54, o_ald 1 55),
  (55, o_ald 2 56),
  (56, o_get 2 1 59),
  (59, o_callV X.l X.D X.P 1 6 2 y_Rd_failAt 62),
  (62, o_ald 1 63),
  (63, o_ic 58 65),
  (65, o_callV X.l X.D X.P 1 7 2 y_Rd_expectSign 68),
  (68, o_new 9 7 [.int 0, .int 0, .int 0, .null, .int 0, .int 0, .int 0] 71),
  (71, o_dup 72),
  (72, o_ald 0 73),
  (73, o_get 11 3 76),
  (76, o_ild 3 77),
  (77, o_callI X.l X.D X.P 1 3 y_To_init 80),
  (80, o_ast 4 82),
  (82, o_ald 0 83),
  (83, o_dup 84),
  (84, o_get 11 3 87),
  (87, o_ic 1 88),
  (88, o_iadd 89),
  (89, o_put 11 3 (.int) 92),
  (92, o_ald 4 94),
  (94, o_ald 1 95),
  (95, o_callV X.l X.D X.P 9 9 2 y_To_readValue 98),
  (98, o_ald 1 99),
  (99, o_ic 59 101),
  (101, o_callV X.l X.D X.P 1 7 2 y_Rd_expectSign 104),
  (104, o_ald 4 106),
  (106, o_aret X.P)]
theorem tk_Sy_readTold {X : xX} (hC : xCx X prog_11_method_4_code "StyleCourt$Style" 5 10) (hr : X.meth.sig.returnType = (some (.object "StyleCourt$Told"))) (hnh : X.c.exceptionTable.isEmpty = true) (hin : X.meth.name = "readTold") : xAll X (tb_Sy_readTold X) := by
  refine xA (ok_aload_n hC (show decode prog_11_method_4_code 0 = .ok (.aload_n 1, 1) by decide +kernel) rfl) ?_
  refine xA (ok_callV hC hnh (show decode prog_11_method_4_code 1 = .ok (.invokevirtual 69, 3) by decide +kernel) (by decide) (by decide) (by decide) (r0 := ("StyleCourt$Reader", xF1, 3)) rfl ⟨by decide, by decide, by decide +kernel⟩ w_611 w_70 w_908 w_609 w_610) ?_
  refine xA (ok_astore_n hC (show decode prog_11_method_4_code 4 = .ok (.astore_n 2, 1) by decide +kernel) rfl (by decide)) ?_
  refine xA (ok_aload_n hC (show decode prog_11_method_4_code 5 = .ok (.aload_n 0, 1) by decide +kernel) rfl) ?_
  refine xA (ok_aload_n hC (show decode prog_11_method_4_code 6 = .ok (.aload_n 2, 1) by decide +kernel) rfl) ?_
  refine xA (ok_callV hC hnh (show decode prog_11_method_4_code 7 = .ok (.invokevirtual 73, 3) by decide +kernel) (by decide) (by decide) (by decide) (r0 := ("StyleCourt$Style", xF11, 4)) rfl ⟨by decide, by decide, by decide +kernel⟩ w_912 w_82 w_909 w_910 w_911) ?_
  refine xA (ok_istore_n hC (show decode prog_11_method_4_code 10 = .ok (.istore_n 3, 1) by decide +kernel) rfl (by decide)) ?_
  refine xA (ok_iload_n hC (show decode prog_11_method_4_code 11 = .ok (.iload_n 3, 1) by decide +kernel) rfl) ?_
  refine xA (ok_ifge hC (show decode prog_11_method_4_code 12 = .ok (.ifCond .ge 20, 3) by decide +kernel) (by decide)) ?_
  refine xA (ok_aload_n hC (show decode prog_11_method_4_code 15 = .ok (.aload_n 0, 1) by decide +kernel) rfl) ?_
  refine xA (ok_get hC (show decode prog_11_method_4_code 16 = .ok (.getfield 21, 3) by decide +kernel) (by decide) (r0 := ("StyleCourt$Style", xF11, 4)) rfl (by decide) rfl w_401) ?_
  refine xA (ok_callV hC hnh (show decode prog_11_method_4_code 19 = .ok (.invokevirtual 34, 3) by decide +kernel) (by decide) (by decide) (by decide) (r0 := ("java/util/ArrayList", xF12, 3)) rfl ⟨by decide, by decide, by decide +kernel⟩ w_644 w_77 w_749 w_642 w_643) ?_
  refine xA (ok_istore_n hC (show decode prog_11_method_4_code 22 = .ok (.istore_n 3, 1) by decide +kernel) rfl (by decide)) ?_
  refine xA (ok_aload_n hC (show decode prog_11_method_4_code 23 = .ok (.aload_n 0, 1) by decide +kernel) rfl) ?_
  refine xA (ok_get hC (show decode prog_11_method_4_code 24 = .ok (.getfield 21, 3) by decide +kernel) (by decide) (r0 := ("StyleCourt$Style", xF11, 4)) rfl (by decide) rfl w_401) ?_
  refine xA (ok_aload_n hC (show decode prog_11_method_4_code 27 = .ok (.aload_n 2, 1) by decide +kernel) rfl) ?_
  refine xA (ok_callV hC hnh (show decode prog_11_method_4_code 28 = .ok (.invokevirtual 51, 3) by decide +kernel) (by decide) (by decide) (by decide) (r0 := ("java/util/ArrayList", xF12, 3)) rfl ⟨by decide, by decide, by decide +kernel⟩ w_315 w_77 w_898 w_313 w_314) ?_
  refine xA (ok_pop hC (show decode prog_11_method_4_code 31 = .ok (.pop, 1) by decide +kernel)) ?_
  refine xA (ok_aload_n hC (show decode prog_11_method_4_code 32 = .ok (.aload_n 0, 1) by decide +kernel) rfl) ?_
  refine xA (ok_get hC (show decode prog_11_method_4_code 33 = .ok (.getfield 24, 3) by decide +kernel) (by decide) (r0 := ("StyleCourt$Style", xF11, 4)) rfl (by decide) rfl w_402) ?_
  refine xA (ok_sipush hC (show decode prog_11_method_4_code 36 = .ok (.sipush 600, 3) by decide +kernel) (by decide)) ?_
  refine xA (ok_icge hC (show decode prog_11_method_4_code 39 = .ok (.if_icmp .ge 15, 3) by decide +kernel) (by decide)) ?_
  refine xA (ok_aload_n hC (show decode prog_11_method_4_code 42 = .ok (.aload_n 0, 1) by decide +kernel) rfl) ?_
  refine xA (ok_get hC (show decode prog_11_method_4_code 43 = .ok (.getfield 21, 3) by decide +kernel) (by decide) (r0 := ("StyleCourt$Style", xF11, 4)) rfl (by decide) rfl w_401) ?_
  refine xA (ok_callV hC hnh (show decode prog_11_method_4_code 46 = .ok (.invokevirtual 34, 3) by decide +kernel) (by decide) (by decide) (by decide) (r0 := ("java/util/ArrayList", xF12, 3)) rfl ⟨by decide, by decide, by decide +kernel⟩ w_644 w_77 w_749 w_642 w_643) ?_
  refine xA (ok_bipush hC (show decode prog_11_method_4_code 49 = .ok (.bipush 30, 2) by decide +kernel) (by decide)) ?_
  refine xA (ok_icle hC (show decode prog_11_method_4_code 51 = .ok (.if_icmp .le 11, 3) by decide +kernel) (by decide)) ?_
  refine xA (ok_aload_n hC (show decode prog_11_method_4_code 54 = .ok (.aload_n 1, 1) by decide +kernel) rfl) ?_
  refine xA (ok_aload_n hC (show decode prog_11_method_4_code 55 = .ok (.aload_n 2, 1) by decide +kernel) rfl) ?_
  refine xA (ok_get hC (show decode prog_11_method_4_code 56 = .ok (.getfield 77, 3) by decide +kernel) (by decide) (r0 := ("StyleCourt$Slice", xF2, 3)) rfl (by decide) rfl w_198) ?_
  refine xA (ok_callV hC hnh (show decode prog_11_method_4_code 59 = .ok (.invokevirtual 40, 3) by decide +kernel) (by decide) (by decide) (by decide) (r0 := ("StyleCourt$Reader", xF1, 3)) rfl ⟨by decide, by decide, by decide +kernel⟩ w_591 w_70 w_750 w_589 w_590) ?_
  refine xA (ok_aload_n hC (show decode prog_11_method_4_code 62 = .ok (.aload_n 1, 1) by decide +kernel) rfl) ?_
  refine xA (ok_bipush hC (show decode prog_11_method_4_code 63 = .ok (.bipush 58, 2) by decide +kernel) (by decide)) ?_
  refine xA (ok_callV hC hnh (show decode prog_11_method_4_code 65 = .ok (.invokevirtual 58, 3) by decide +kernel) (by decide) (by decide) (by decide) (r0 := ("StyleCourt$Reader", xF1, 3)) rfl ⟨by decide, by decide, by decide +kernel⟩ w_629 w_70 w_903 w_627 w_628) ?_
  refine xA (ok_new hC (show decode prog_11_method_4_code 68 = .ok (.new 82, 3) by decide +kernel) (by decide) (r0 := ("StyleCourt$Told", xF9, 7)) rfl (by decide) w_916 w_917 w_99) ?_
  refine xA (ok_dup hC (show decode prog_11_method_4_code 71 = .ok (.dup, 1) by decide +kernel)) ?_
  refine xA (ok_aload_n hC (show decode prog_11_method_4_code 72 = .ok (.aload_n 0, 1) by decide +kernel) rfl) ?_
  refine xA (ok_get hC (show decode prog_11_method_4_code 73 = .ok (.getfield 24, 3) by decide +kernel) (by decide) (r0 := ("StyleCourt$Style", xF11, 4)) rfl (by decide) rfl w_402) ?_
  refine xA (ok_iload_n hC (show decode prog_11_method_4_code 76 = .ok (.iload_n 3, 1) by decide +kernel) rfl) ?_
  refine xA (ok_callI hC hnh (show decode prog_11_method_4_code 77 = .ok (.invokespecial 84, 3) by decide +kernel) (by decide) (by decide) ⟨by decide, by decide, by decide +kernel⟩ rfl w_920 w_99 w_918 w_919) ?_
  refine xA (ok_astore hC (show decode prog_11_method_4_code 80 = .ok (.astore 4, 2) by decide +kernel) (by decide)) ?_
  refine xA (ok_aload_n hC (show decode prog_11_method_4_code 82 = .ok (.aload_n 0, 1) by decide +kernel) rfl) ?_
  refine xA (ok_dup hC (show decode prog_11_method_4_code 83 = .ok (.dup, 1) by decide +kernel)) ?_
  refine xA (ok_get hC (show decode prog_11_method_4_code 84 = .ok (.getfield 24, 3) by decide +kernel) (by decide) (r0 := ("StyleCourt$Style", xF11, 4)) rfl (by decide) rfl w_402) ?_
  refine xA (ok_iconst hC (show decode prog_11_method_4_code 87 = .ok (.iconst 1, 1) by decide +kernel) (by decide)) ?_
  refine xA (ok_iadd hC (show decode prog_11_method_4_code 88 = .ok (.iadd, 1) by decide +kernel)) ?_
  refine xA (ok_put hC (show decode prog_11_method_4_code 89 = .ok (.putfield 24, 3) by decide +kernel) (by decide) (r0 := ("StyleCourt$Style", xF11, 4)) rfl (by decide) rfl (by decide +kernel) w_402) ?_
  refine xA (ok_aload hC (show decode prog_11_method_4_code 92 = .ok (.aload 4, 2) by decide +kernel)) ?_
  refine xA (ok_aload_n hC (show decode prog_11_method_4_code 94 = .ok (.aload_n 1, 1) by decide +kernel) rfl) ?_
  refine xA (ok_callV hC hnh (show decode prog_11_method_4_code 95 = .ok (.invokevirtual 87, 3) by decide +kernel) (by decide) (by decide) (by decide) (r0 := ("StyleCourt$Told", xF9, 7)) rfl ⟨by decide, by decide, by decide +kernel⟩ w_955 w_99 w_952 w_953 w_954) ?_
  refine xA (ok_aload_n hC (show decode prog_11_method_4_code 98 = .ok (.aload_n 1, 1) by decide +kernel) rfl) ?_
  refine xA (ok_bipush hC (show decode prog_11_method_4_code 99 = .ok (.bipush 59, 2) by decide +kernel) (by decide)) ?_
  refine xA (ok_callV hC hnh (show decode prog_11_method_4_code 101 = .ok (.invokevirtual 58, 3) by decide +kernel) (by decide) (by decide) (by decide) (r0 := ("StyleCourt$Reader", xF1, 3)) rfl ⟨by decide, by decide, by decide +kernel⟩ w_629 w_70 w_903 w_627 w_628) ?_
  refine xA (ok_aload hC (show decode prog_11_method_4_code 104 = .ok (.aload 4, 2) by decide +kernel)) ?_
  refine xA (ok_aret hC hr (Or.inl ⟨_, rfl⟩) (show decode prog_11_method_4_code 106 = .ok (.areturn, 1) by decide +kernel)) ?_
  exact trivial

def tb_Sy_numberOfName (X : xX) : List (Nat × xOp) := [(0, o_ic 0 1),
  (1, o_ist 2 2),
  (2, o_ild 2 3),
  (3, o_ald 0 4),
  (4, o_get 11 2 7),
  (7, o_callV X.l X.D X.P 12 0 1 y_AL_size 10),
  (10, o_icge 39 13),
  (13, o_ald 0 14),
  (14, o_get 11 2 17),
  (17, o_ild 2 18),
  (18, o_callV X.l X.D X.P 12 2 2 y_AL_get 21),
  (21, o_cast (Nat.beq 2) 24),
  (24, o_ald 1 25),
  (25, o_callV X.l X.D X.P 2 0 2 y_Sl_sameAs 28),
  (28, o_ifeq 33 31),
  (31, o_ild 2 32),
  (32, o_iret X.P),
  (33, o_inc 2 1 36),
  (36, o_goto 2),
  (39, o_ic (-1) 40),
  (40, o_iret X.P)]
theorem tk_Sy_numberOfName {X : xX} (hC : xCx X prog_11_method_5_code "StyleCourt$Style" 3 3) (hr : X.meth.sig.returnType = (some .int)) (hnh : X.c.exceptionTable.isEmpty = true) (hin : X.meth.name = "numberOfName") : xAll X (tb_Sy_numberOfName X) := by
  refine xA (ok_iconst hC (show decode prog_11_method_5_code 0 = .ok (.iconst 0, 1) by decide +kernel) (by decide)) ?_
  refine xA (ok_istore_n hC (show decode prog_11_method_5_code 1 = .ok (.istore_n 2, 1) by decide +kernel) rfl (by decide)) ?_
  refine xA (ok_iload_n hC (show decode prog_11_method_5_code 2 = .ok (.iload_n 2, 1) by decide +kernel) rfl) ?_
  refine xA (ok_aload_n hC (show decode prog_11_method_5_code 3 = .ok (.aload_n 0, 1) by decide +kernel) rfl) ?_
  refine xA (ok_get hC (show decode prog_11_method_5_code 4 = .ok (.getfield 21, 3) by decide +kernel) (by decide) (r0 := ("StyleCourt$Style", xF11, 4)) rfl (by decide) rfl w_401) ?_
  refine xA (ok_callV hC hnh (show decode prog_11_method_5_code 7 = .ok (.invokevirtual 34, 3) by decide +kernel) (by decide) (by decide) (by decide) (r0 := ("java/util/ArrayList", xF12, 3)) rfl ⟨by decide, by decide, by decide +kernel⟩ w_644 w_77 w_749 w_642 w_643) ?_
  refine xA (ok_icge hC (show decode prog_11_method_5_code 10 = .ok (.if_icmp .ge 29, 3) by decide +kernel) (by decide)) ?_
  refine xA (ok_aload_n hC (show decode prog_11_method_5_code 13 = .ok (.aload_n 0, 1) by decide +kernel) rfl) ?_
  refine xA (ok_get hC (show decode prog_11_method_5_code 14 = .ok (.getfield 21, 3) by decide +kernel) (by decide) (r0 := ("StyleCourt$Style", xF11, 4)) rfl (by decide) rfl w_401) ?_
  refine xA (ok_iload_n hC (show decode prog_11_method_5_code 17 = .ok (.iload_n 2, 1) by decide +kernel) rfl) ?_
  refine xA (ok_callV hC hnh (show decode prog_11_method_5_code 18 = .ok (.invokevirtual 90, 3) by decide +kernel) (by decide) (by decide) (by decide) (r0 := ("java/util/ArrayList", xF12, 3)) rfl ⟨by decide, by decide, by decide +kernel⟩ w_662 w_77 w_913 w_660 w_661) ?_
  refine xA (ok_cast hC (show decode prog_11_method_5_code 21 = .ok (.checkcast 78, 3) by decide +kernel) w_914 (xcast_ok (r0 := ("StyleCourt$Slice", xF2, 3)) (by decide) rfl rfl)) ?_
  refine xA (ok_aload_n hC (show decode prog_11_method_5_code 24 = .ok (.aload_n 1, 1) by decide +kernel) rfl) ?_
  refine xA (ok_callV hC hnh (show decode prog_11_method_5_code 25 = .ok (.invokevirtual 94, 3) by decide +kernel) (by decide) (by decide) (by decide) (r0 := ("StyleCourt$Slice", xF2, 3)) rfl ⟨by decide, by decide, by decide +kernel⟩ w_625 w_79 w_915 w_623 w_624) ?_
  refine xA (ok_ifeq hC (show decode prog_11_method_5_code 28 = .ok (.ifCond .eq 5, 3) by decide +kernel) (by decide)) ?_
  refine xA (ok_iload_n hC (show decode prog_11_method_5_code 31 = .ok (.iload_n 2, 1) by decide +kernel) rfl) ?_
  refine xA (ok_iret hC hr (show decode prog_11_method_5_code 32 = .ok (.ireturn, 1) by decide +kernel)) ?_
  refine xA (ok_iinc hC (show decode prog_11_method_5_code 33 = .ok (.iinc 2 1, 3) by decide +kernel) (by decide) (by decide)) ?_
  refine xA (ok_goto hC (show decode prog_11_method_5_code 36 = .ok (.goto (-34), 3) by decide +kernel) (by decide)) ?_
  refine xA (ok_iconst hC (show decode prog_11_method_5_code 39 = .ok (.iconst (-1), 1) by decide +kernel) (by decide)) ?_
  refine xA (ok_iret hC hr (show decode prog_11_method_5_code 40 = .ok (.ireturn, 1) by decide +kernel)) ?_
  exact trivial

def tb_Sy_countingFor (X : xX) : List (Nat × xOp) := [(0, o_null 1),
  (1, o_ast 4 3),
  (3, o_ic 0 4),
  (4, o_ist 5 6),
  (6, o_ic 0 7),
  (7, o_ist 6 9),
  (9, o_ald 1 10),
  (10, o_get 4 1 13),
  (13, o_nul 112 16),
  (16, o_ild 6 18),
  (18, o_ald 0 19),
  (19, o_get 11 0 22),
  (22, o_callV X.l X.D X.P 12 0 1 y_AL_size 25),
  (25, o_icge 112 28),
  (28, o_ald 0 29),
  (29, o_get 11 0 32),
  (32, o_ild 6 34),
  (34, o_callV X.l X.D X.P 12 2 2 y_AL_get 37),
  (37, o_cast (Nat.beq 10) 40),
  (40, o_ild 2 41),
  (41, o_callV X.l X.D X.P 10 3 2 y_Ru_leading 44),
  (44, o_ast 7 46),
  (46, o_ald 7 48),
  (48, o_nul 51 55),
  (51, o_ic (-1) 52),
  (52, o_goto 72),
  (55, o_ald 0 56),
  (56, o_get 11 0 59),
  (59, o_ild 6 61),
  (61, o_callV X.l X.D X.P 12 2 2 y_AL_get 64),
  (64, o_cast (Nat.beq 10) 67),
  (67, o_ald 1 68),
  (68, o_ald 3 69),
  (69, o_callV X.l X.D X.P 10 7 3 y_Ru_weightFor 72),
  (72, o_ist 8 74),
  (74, o_ild 8 76),
  (76, o_iflt 106 79),
  (79, o_ald 4 81),
  (81, o_nul 98 84),
  (84, o_ald 7 86),
  (86, o_ild 8 88),
  (88, o_ald 4 90),
  (90, o_ild 5 92),
  (92, o_callS X.l X.D X.P 0 4 y_Sy_isAhead 95),
  (95, o_ifeq 106 98),
  (98, o_ald 7 100),
  (100, o_ast 4 102),
  (102, o_ild 8 104),
  (104, o_ist 5 106),
  (106, o_inc 6 1 109),
  (109, o_goto 9),
  (112, o_ald 4 114),
  (114, o_aret X.P)]
theorem tk_Sy_countingFor {X : xX} (hC : xCx X prog_11_method_6_code "StyleCourt$Style" 9 8) (hr : X.meth.sig.returnType = (some (.object "StyleCourt$Told"))) (hnh : X.c.exceptionTable.isEmpty = true) (hin : X.meth.name = "countingFor") : xAll X (tb_Sy_countingFor X) := by
  refine xA (ok_null hC (show decode prog_11_method_6_code 0 = .ok (.aconst_null, 1) by decide +kernel)) ?_
  refine xA (ok_astore hC (show decode prog_11_method_6_code 1 = .ok (.astore 4, 2) by decide +kernel) (by decide)) ?_
  refine xA (ok_iconst hC (show decode prog_11_method_6_code 3 = .ok (.iconst 0, 1) by decide +kernel) (by decide)) ?_
  refine xA (ok_istore hC (show decode prog_11_method_6_code 4 = .ok (.istore 5, 2) by decide +kernel) (by decide)) ?_
  refine xA (ok_iconst hC (show decode prog_11_method_6_code 6 = .ok (.iconst 0, 1) by decide +kernel) (by decide)) ?_
  refine xA (ok_istore hC (show decode prog_11_method_6_code 7 = .ok (.istore 6, 2) by decide +kernel) (by decide)) ?_
  refine xA (ok_aload_n hC (show decode prog_11_method_6_code 9 = .ok (.aload_n 1, 1) by decide +kernel) rfl) ?_
  refine xA (ok_get hC (show decode prog_11_method_6_code 10 = .ok (.getfield 98, 3) by decide +kernel) (by decide) (r0 := ("StyleCourt$Element", xF4, 15)) rfl (by decide) rfl w_223) ?_
  refine xA (ok_ifnull hC (show decode prog_11_method_6_code 13 = .ok (.ifnull 99, 3) by decide +kernel) (by decide)) ?_
  refine xA (ok_iload hC (show decode prog_11_method_6_code 16 = .ok (.iload 6, 2) by decide +kernel)) ?_
  refine xA (ok_aload_n hC (show decode prog_11_method_6_code 18 = .ok (.aload_n 0, 1) by decide +kernel) rfl) ?_
  refine xA (ok_get hC (show decode prog_11_method_6_code 19 = .ok (.getfield 12, 3) by decide +kernel) (by decide) (r0 := ("StyleCourt$Style", xF11, 4)) rfl (by decide) rfl w_398) ?_
  refine xA (ok_callV hC hnh (show decode prog_11_method_6_code 22 = .ok (.invokevirtual 34, 3) by decide +kernel) (by decide) (by decide) (by decide) (r0 := ("java/util/ArrayList", xF12, 3)) rfl ⟨by decide, by decide, by decide +kernel⟩ w_644 w_77 w_749 w_642 w_643) ?_
  refine xA (ok_icge hC (show decode prog_11_method_6_code 25 = .ok (.if_icmp .ge 87, 3) by decide +kernel) (by decide)) ?_
  refine xA (ok_aload_n hC (show decode prog_11_method_6_code 28 = .ok (.aload_n 0, 1) by decide +kernel) rfl) ?_
  refine xA (ok_get hC (show decode prog_11_method_6_code 29 = .ok (.getfield 12, 3) by decide +kernel) (by decide) (r0 := ("StyleCourt$Style", xF11, 4)) rfl (by decide) rfl w_398) ?_
  refine xA (ok_iload hC (show decode prog_11_method_6_code 32 = .ok (.iload 6, 2) by decide +kernel)) ?_
  refine xA (ok_callV hC hnh (show decode prog_11_method_6_code 34 = .ok (.invokevirtual 90, 3) by decide +kernel) (by decide) (by decide) (by decide) (r0 := ("java/util/ArrayList", xF12, 3)) rfl ⟨by decide, by decide, by decide +kernel⟩ w_662 w_77 w_913 w_660 w_661) ?_
  refine xA (ok_cast hC (show decode prog_11_method_6_code 37 = .ok (.checkcast 56, 3) by decide +kernel) w_989 (xcast_ok (r0 := ("StyleCourt$Rule", xF10, 2)) (by decide) rfl rfl)) ?_
  refine xA (ok_iload_n hC (show decode prog_11_method_6_code 40 = .ok (.iload_n 2, 1) by decide +kernel) rfl) ?_
  refine xA (ok_callV hC hnh (show decode prog_11_method_6_code 41 = .ok (.invokevirtual 104, 3) by decide +kernel) (by decide) (by decide) (by decide) (r0 := ("StyleCourt$Rule", xF10, 2)) rfl ⟨by decide, by decide, by decide +kernel⟩ w_993 w_92 w_990 w_991 w_992) ?_
  refine xA (ok_astore hC (show decode prog_11_method_6_code 44 = .ok (.astore 7, 2) by decide +kernel) (by decide)) ?_
  refine xA (ok_aload hC (show decode prog_11_method_6_code 46 = .ok (.aload 7, 2) by decide +kernel)) ?_
  refine xA (ok_ifnonnull hC (show decode prog_11_method_6_code 48 = .ok (.ifnonnull 7, 3) by decide +kernel) (by decide)) ?_
  refine xA (ok_iconst hC (show decode prog_11_method_6_code 51 = .ok (.iconst (-1), 1) by decide +kernel) (by decide)) ?_
  refine xA (ok_goto hC (show decode prog_11_method_6_code 52 = .ok (.goto 20, 3) by decide +kernel) (by decide)) ?_
  refine xA (ok_aload_n hC (show decode prog_11_method_6_code 55 = .ok (.aload_n 0, 1) by decide +kernel) rfl) ?_
  refine xA (ok_get hC (show decode prog_11_method_6_code 56 = .ok (.getfield 12, 3) by decide +kernel) (by decide) (r0 := ("StyleCourt$Style", xF11, 4)) rfl (by decide) rfl w_398) ?_
  refine xA (ok_iload hC (show decode prog_11_method_6_code 59 = .ok (.iload 6, 2) by decide +kernel)) ?_
  refine xA (ok_callV hC hnh (show decode prog_11_method_6_code 61 = .ok (.invokevirtual 90, 3) by decide +kernel) (by decide) (by decide) (by decide) (r0 := ("java/util/ArrayList", xF12, 3)) rfl ⟨by decide, by decide, by decide +kernel⟩ w_662 w_77 w_913 w_660 w_661) ?_
  refine xA (ok_cast hC (show decode prog_11_method_6_code 64 = .ok (.checkcast 56, 3) by decide +kernel) w_989 (xcast_ok (r0 := ("StyleCourt$Rule", xF10, 2)) (by decide) rfl rfl)) ?_
  refine xA (ok_aload_n hC (show decode prog_11_method_6_code 67 = .ok (.aload_n 1, 1) by decide +kernel) rfl) ?_
  refine xA (ok_aload_n hC (show decode prog_11_method_6_code 68 = .ok (.aload_n 3, 1) by decide +kernel) rfl) ?_
  refine xA (ok_callV hC hnh (show decode prog_11_method_6_code 69 = .ok (.invokevirtual 108, 3) by decide +kernel) (by decide) (by decide) (by decide) (r0 := ("StyleCourt$Rule", xF10, 2)) rfl ⟨by decide, by decide, by decide +kernel⟩ w_1000 w_92 w_997 w_998 w_999) ?_
  refine xA (ok_istore hC (show decode prog_11_method_6_code 72 = .ok (.istore 8, 2) by decide +kernel) (by decide)) ?_
  refine xA (ok_iload hC (show decode prog_11_method_6_code 74 = .ok (.iload 8, 2) by decide +kernel)) ?_
  refine xA (ok_iflt hC (show decode prog_11_method_6_code 76 = .ok (.ifCond .lt 30, 3) by decide +kernel) (by decide)) ?_
  refine xA (ok_aload hC (show decode prog_11_method_6_code 79 = .ok (.aload 4, 2) by decide +kernel)) ?_
  refine xA (ok_ifnull hC (show decode prog_11_method_6_code 81 = .ok (.ifnull 17, 3) by decide +kernel) (by decide)) ?_
  refine xA (ok_aload hC (show decode prog_11_method_6_code 84 = .ok (.aload 7, 2) by decide +kernel)) ?_
  refine xA (ok_iload hC (show decode prog_11_method_6_code 86 = .ok (.iload 8, 2) by decide +kernel)) ?_
  refine xA (ok_aload hC (show decode prog_11_method_6_code 88 = .ok (.aload 4, 2) by decide +kernel)) ?_
  refine xA (ok_iload hC (show decode prog_11_method_6_code 90 = .ok (.iload 5, 2) by decide +kernel)) ?_
  refine xA (ok_callS (hh := []) hC hnh (show decode prog_11_method_6_code 92 = .ok (.invokestatic 112, 3) by decide +kernel) (by decide) (by decide) ⟨by decide, by decide, by decide +kernel⟩ (Or.inl w_1034) w_82 w_1032 w_1033) ?_
  refine xA (ok_ifeq hC (show decode prog_11_method_6_code 95 = .ok (.ifCond .eq 11, 3) by decide +kernel) (by decide)) ?_
  refine xA (ok_aload hC (show decode prog_11_method_6_code 98 = .ok (.aload 7, 2) by decide +kernel)) ?_
  refine xA (ok_astore hC (show decode prog_11_method_6_code 100 = .ok (.astore 4, 2) by decide +kernel) (by decide)) ?_
  refine xA (ok_iload hC (show decode prog_11_method_6_code 102 = .ok (.iload 8, 2) by decide +kernel)) ?_
  refine xA (ok_istore hC (show decode prog_11_method_6_code 104 = .ok (.istore 5, 2) by decide +kernel) (by decide)) ?_
  refine xA (ok_iinc hC (show decode prog_11_method_6_code 106 = .ok (.iinc 6 1, 3) by decide +kernel) (by decide) (by decide)) ?_
  refine xA (ok_goto hC (show decode prog_11_method_6_code 109 = .ok (.goto (-100), 3) by decide +kernel) (by decide)) ?_
  refine xA (ok_aload hC (show decode prog_11_method_6_code 112 = .ok (.aload 4, 2) by decide +kernel)) ?_
  refine xA (ok_aret hC hr (Or.inl ⟨_, rfl⟩) (show decode prog_11_method_6_code 114 = .ok (.areturn, 1) by decide +kernel)) ?_
  exact trivial

def tb_Sy_isAhead (X : xX) : List (Nat × xOp) := [(0, o_ald 0 1),
  (1, o_get 9 6 4),
  (4, o_ald 2 5),
  (5, o_get 9 6 8),
  (8, o_icne 24 11),
  (11, o_ild 1 12),
  (12, o_ild 3 13),
  (13, o_iclt 20 16),
  (16, o_ic 1 17),
  (17, o_goto 28),
  (20, o_ic 0 21),
  (21, o_goto 28),
  (24, o_ald 0 25),
  (25, o_get 9 6 28),
  (28, o_zret .boolean X.P)]
theorem tk_Sy_isAhead {X : xX} (hC : xCx X prog_11_method_7_code "StyleCourt$Style" 4 0) (hr : X.meth.sig.returnType = (some .boolean)) (hnh : X.c.exceptionTable.isEmpty = true) (hin : X.meth.name = "isAhead") : xAll X (tb_Sy_isAhead X) := by
  refine xA (ok_aload_n hC (show decode prog_11_method_7_code 0 = .ok (.aload_n 0, 1) by decide +kernel) rfl) ?_
  refine xA (ok_get hC (show decode prog_11_method_7_code 1 = .ok (.getfield 116, 3) by decide +kernel) (by decide) (r0 := ("StyleCourt$Told", xF9, 7)) rfl (by decide) rfl w_936) ?_
  refine xA (ok_aload_n hC (show decode prog_11_method_7_code 4 = .ok (.aload_n 2, 1) by decide +kernel) rfl) ?_
  refine xA (ok_get hC (show decode prog_11_method_7_code 5 = .ok (.getfield 116, 3) by decide +kernel) (by decide) (r0 := ("StyleCourt$Told", xF9, 7)) rfl (by decide) rfl w_936) ?_
  refine xA (ok_icne hC (show decode prog_11_method_7_code 8 = .ok (.if_icmp .ne 16, 3) by decide +kernel) (by decide)) ?_
  refine xA (ok_iload_n hC (show decode prog_11_method_7_code 11 = .ok (.iload_n 1, 1) by decide +kernel) rfl) ?_
  refine xA (ok_iload_n hC (show decode prog_11_method_7_code 12 = .ok (.iload_n 3, 1) by decide +kernel) rfl) ?_
  refine xA (ok_iclt hC (show decode prog_11_method_7_code 13 = .ok (.if_icmp .lt 7, 3) by decide +kernel) (by decide)) ?_
  refine xA (ok_iconst hC (show decode prog_11_method_7_code 16 = .ok (.iconst 1, 1) by decide +kernel) (by decide)) ?_
  refine xA (ok_goto hC (show decode prog_11_method_7_code 17 = .ok (.goto 11, 3) by decide +kernel) (by decide)) ?_
  refine xA (ok_iconst hC (show decode prog_11_method_7_code 20 = .ok (.iconst 0, 1) by decide +kernel) (by decide)) ?_
  refine xA (ok_goto hC (show decode prog_11_method_7_code 21 = .ok (.goto 7, 3) by decide +kernel) (by decide)) ?_
  refine xA (ok_aload_n hC (show decode prog_11_method_7_code 24 = .ok (.aload_n 0, 1) by decide +kernel) rfl) ?_
  refine xA (ok_get hC (show decode prog_11_method_7_code 25 = .ok (.getfield 116, 3) by decide +kernel) (by decide) (r0 := ("StyleCourt$Told", xF9, 7)) rfl (by decide) rfl w_936) ?_
  refine xA (ok_zret hC hr (show decode prog_11_method_7_code 28 = .ok (.ireturn, 1) by decide +kernel)) ?_
  exact trivial

def tb_Sc_init (X : xX) : List (Nat × xOp) := [(0, o_ald 0 1),
  (1, o_obj 4),
  (4, o_ald 0 5),
  (5, o_ic 8192 8),
  (8, o_newa 1 (.int 0) 10),
  (10, o_put 0 0 (.array .byte) 13),
  (13, o_ald 0 14),
  (14, o_ic 0 15),
  (15, o_put 0 1 (.int) 18),
  (18, o_ald 0 19),
  (19, o_ic 16384 22),
  (22, o_newa 1 (.int 0) 24),
  (24, o_put 0 2 (.array .byte) 27),
  (27, o_ald 0 28),
  (28, o_ic 0 29),
  (29, o_put 0 3 (.int) 32),
  (32, o_ald 0 33),
  (33, o_ic 500 36),
  (36, o_newa 0 (.int 0) 38),
  (38, o_put 0 4 (.array .int) 41),
  (41, o_ald 0 42),
  (42, o_ic 0 43),
  (43, o_put 0 5 (.int) 46),
  (46, o_ald 0 47),
  (47, o_ic 0 48),
  (48, o_put 0 6 (.int) 51),
  (51, o_ald 0 52),
  (52, o_new 1 3 [.null, .int 0, .int 0] 55),
  (55, o_dup 56),
  (56, o_gets X.D 0 59),
  (59, o_ic 0 60),
  (60, o_callI X.l X.D X.P 2 3 y_Rd_init 63),
  (63, o_put 0 7 (.object "StyleCourt$Reader") 66),
  (66, o_ald 0 67),
  (67, o_new 5 5 [.null, .null, .null, .null, .null] 70),
  (70, o_dup 71),
  (71, o_callI X.l X.D X.P 7 1 y_So_init 74),
  (74, o_put 0 8 (.object "StyleCourt$Source") 77),
  (77, o_ald 0 78),
  (78, o_new 11 4 [.null, .null, .null, .int 0] 81),
  (81, o_dup 82),
  (82, o_callI X.l X.D X.P 4 1 y_Sy_init 85),
  (85, o_put 0 9 (.object "StyleCourt$Style") 88),
  (88, o_ald 0 89),
  (89, o_ic 20 91),
  (91, o_anew 5 94),
  (94, o_put 0 10 (.array (.object "StyleCourt$Element")) 97),
  (97, o_ald 0 98),
  (98, o_ic 20 100),
  (100, o_newa 0 (.int 0) 102),
  (102, o_put 0 11 (.array .int) 105),
  (105, o_vret X.P)]
theorem tk_Sc_init {X : xX} (hC : xCx X prog_1_method_1_code "StyleCourt" 1 8) (hr : X.meth.sig.returnType = none) (hnh : X.c.exceptionTable.isEmpty = true) (hin : X.meth.name = "<init>") : xAll X (tb_Sc_init X) := by
  refine xA (ok_aload_n hC (show decode prog_1_method_1_code 0 = .ok (.aload_n 0, 1) by decide +kernel) rfl) ?_
  refine xA (ok_obj hC (by decide) (show decode prog_1_method_1_code 1 = .ok (.invokespecial 1, 3) by decide +kernel) w_105 w_106 w_107) ?_
  refine xA (ok_aload_n hC (show decode prog_1_method_1_code 4 = .ok (.aload_n 0, 1) by decide +kernel) rfl) ?_
  refine xA (ok_sipush hC (show decode prog_1_method_1_code 5 = .ok (.sipush 8192, 3) by decide +kernel) (by decide)) ?_
  refine xA (ok_newa hC (show decode prog_1_method_1_code 8 = .ok (.newarray .byte, 2) by decide +kernel) (by decide) (ty := .byte) rfl rfl rfl (by decide) w_152 (fun _ z => by cases z)) ?_
  refine xA (ok_putF hC hin (show decode prog_1_method_1_code 10 = .ok (.putfield 9, 3) by decide +kernel) (by decide) (r0 := ("StyleCourt", xF0, 12)) rfl (by decide) rfl (by decide +kernel) w_415) ?_
  refine xA (ok_aload_n hC (show decode prog_1_method_1_code 13 = .ok (.aload_n 0, 1) by decide +kernel) rfl) ?_
  refine xA (ok_iconst hC (show decode prog_1_method_1_code 14 = .ok (.iconst 0, 1) by decide +kernel) (by decide)) ?_
  refine xA (ok_put hC (show decode prog_1_method_1_code 15 = .ok (.putfield 13, 3) by decide +kernel) (by decide) (r0 := ("StyleCourt", xF0, 12)) rfl (by decide) rfl (by decide +kernel) w_416) ?_
  refine xA (ok_aload_n hC (show decode prog_1_method_1_code 18 = .ok (.aload_n 0, 1) by decide +kernel) rfl) ?_
  refine xA (ok_sipush hC (show decode prog_1_method_1_code 19 = .ok (.sipush 16384, 3) by decide +kernel) (by decide)) ?_
  refine xA (ok_newa hC (show decode prog_1_method_1_code 22 = .ok (.newarray .byte, 2) by decide +kernel) (by decide) (ty := .byte) rfl rfl rfl (by decide) w_152 (fun _ z => by cases z)) ?_
  refine xA (ok_putF hC hin (show decode prog_1_method_1_code 24 = .ok (.putfield 17, 3) by decide +kernel) (by decide) (r0 := ("StyleCourt", xF0, 12)) rfl (by decide) rfl (by decide +kernel) w_417) ?_
  refine xA (ok_aload_n hC (show decode prog_1_method_1_code 27 = .ok (.aload_n 0, 1) by decide +kernel) rfl) ?_
  refine xA (ok_iconst hC (show decode prog_1_method_1_code 28 = .ok (.iconst 0, 1) by decide +kernel) (by decide)) ?_
  refine xA (ok_put hC (show decode prog_1_method_1_code 29 = .ok (.putfield 20, 3) by decide +kernel) (by decide) (r0 := ("StyleCourt", xF0, 12)) rfl (by decide) rfl (by decide +kernel) w_418) ?_
  refine xA (ok_aload_n hC (show decode prog_1_method_1_code 32 = .ok (.aload_n 0, 1) by decide +kernel) rfl) ?_
  refine xA (ok_sipush hC (show decode prog_1_method_1_code 33 = .ok (.sipush 500, 3) by decide +kernel) (by decide)) ?_
  refine xA (ok_newa hC (show decode prog_1_method_1_code 36 = .ok (.newarray .int, 2) by decide +kernel) (by decide) (ty := .int) rfl rfl rfl (by decide) w_153 (fun _ z => by cases z)) ?_
  refine xA (ok_putF hC hin (show decode prog_1_method_1_code 38 = .ok (.putfield 23, 3) by decide +kernel) (by decide) (r0 := ("StyleCourt", xF0, 12)) rfl (by decide) rfl (by decide +kernel) w_419) ?_
  refine xA (ok_aload_n hC (show decode prog_1_method_1_code 41 = .ok (.aload_n 0, 1) by decide +kernel) rfl) ?_
  refine xA (ok_iconst hC (show decode prog_1_method_1_code 42 = .ok (.iconst 0, 1) by decide +kernel) (by decide)) ?_
  refine xA (ok_put hC (show decode prog_1_method_1_code 43 = .ok (.putfield 27, 3) by decide +kernel) (by decide) (r0 := ("StyleCourt", xF0, 12)) rfl (by decide) rfl (by decide +kernel) w_420) ?_
  refine xA (ok_aload_n hC (show decode prog_1_method_1_code 46 = .ok (.aload_n 0, 1) by decide +kernel) rfl) ?_
  refine xA (ok_iconst hC (show decode prog_1_method_1_code 47 = .ok (.iconst 0, 1) by decide +kernel) (by decide)) ?_
  refine xA (ok_put hC (show decode prog_1_method_1_code 48 = .ok (.putfield 30, 3) by decide +kernel) (by decide) (r0 := ("StyleCourt", xF0, 12)) rfl (by decide) rfl (by decide +kernel) w_421) ?_
  refine xA (ok_aload_n hC (show decode prog_1_method_1_code 51 = .ok (.aload_n 0, 1) by decide +kernel) rfl) ?_
  refine xA (ok_new hC (show decode prog_1_method_1_code 52 = .ok (.new 33, 3) by decide +kernel) (by decide) (r0 := ("StyleCourt$Reader", xF1, 3)) rfl (by decide) w_108 w_109 w_70) ?_
  refine xA (ok_dup hC (show decode prog_1_method_1_code 55 = .ok (.dup, 1) by decide +kernel)) ?_
  refine xA (ok_gets hC (show decode prog_1_method_1_code 56 = .ok (.getstatic 35, 3) by decide +kernel) (i := 0) rfl w_110) ?_
  refine xA (ok_iconst hC (show decode prog_1_method_1_code 59 = .ok (.iconst 0, 1) by decide +kernel) (by decide)) ?_
  refine xA (ok_callI hC hnh (show decode prog_1_method_1_code 60 = .ok (.invokespecial 38, 3) by decide +kernel) (by decide) (by decide) ⟨by decide, by decide, by decide +kernel⟩ rfl w_114 w_70 w_112 w_113) ?_
  refine xA (ok_put hC (show decode prog_1_method_1_code 63 = .ok (.putfield 41, 3) by decide +kernel) (by decide) (r0 := ("StyleCourt", xF0, 12)) rfl (by decide) rfl (by decide +kernel) w_422) ?_
  refine xA (ok_aload_n hC (show decode prog_1_method_1_code 66 = .ok (.aload_n 0, 1) by decide +kernel) rfl) ?_
  refine xA (ok_new hC (show decode prog_1_method_1_code 67 = .ok (.new 45, 3) by decide +kernel) (by decide) (r0 := ("StyleCourt$Source", xF5, 5)) rfl (by decide) w_154 w_155 w_74) ?_
  refine xA (ok_dup hC (show decode prog_1_method_1_code 70 = .ok (.dup, 1) by decide +kernel)) ?_
  refine xA (ok_callI hC hnh (show decode prog_1_method_1_code 71 = .ok (.invokespecial 47, 3) by decide +kernel) (by decide) (by decide) ⟨by decide, by decide, by decide +kernel⟩ rfl w_158 w_74 w_156 w_157) ?_
  refine xA (ok_put hC (show decode prog_1_method_1_code 74 = .ok (.putfield 48, 3) by decide +kernel) (by decide) (r0 := ("StyleCourt", xF0, 12)) rfl (by decide) rfl (by decide +kernel) w_423) ?_
  refine xA (ok_aload_n hC (show decode prog_1_method_1_code 77 = .ok (.aload_n 0, 1) by decide +kernel) rfl) ?_
  refine xA (ok_new hC (show decode prog_1_method_1_code 78 = .ok (.new 52, 3) by decide +kernel) (by decide) (r0 := ("StyleCourt$Style", xF11, 4)) rfl (by decide) w_390 w_391 w_82) ?_
  refine xA (ok_dup hC (show decode prog_1_method_1_code 81 = .ok (.dup, 1) by decide +kernel)) ?_
  refine xA (ok_callIN hC hnh (show decode prog_1_method_1_code 82 = .ok (.invokespecial 54, 3) by decide +kernel) (by decide) (by decide) ⟨by decide, by decide, by decide +kernel⟩ rfl w_394 w_82 w_392 w_393) ?_
  refine xA (ok_put hC (show decode prog_1_method_1_code 85 = .ok (.putfield 55, 3) by decide +kernel) (by decide) (r0 := ("StyleCourt", xF0, 12)) rfl (by decide) rfl (by decide +kernel) w_424) ?_
  refine xA (ok_aload_n hC (show decode prog_1_method_1_code 88 = .ok (.aload_n 0, 1) by decide +kernel) rfl) ?_
  refine xA (ok_bipush hC (show decode prog_1_method_1_code 89 = .ok (.bipush 20, 2) by decide +kernel) (by decide)) ?_
  refine xA (ok_anew hC (show decode prog_1_method_1_code 91 = .ok (.anewarray 59, 3) by decide +kernel) (by decide) (C := "StyleCourt$Element") rfl w_413 w_414) ?_
  refine xA (ok_putF hC hin (show decode prog_1_method_1_code 94 = .ok (.putfield 61, 3) by decide +kernel) (by decide) (r0 := ("StyleCourt", xF0, 12)) rfl (by decide) rfl (by decide +kernel) w_425) ?_
  refine xA (ok_aload_n hC (show decode prog_1_method_1_code 97 = .ok (.aload_n 0, 1) by decide +kernel) rfl) ?_
  refine xA (ok_bipush hC (show decode prog_1_method_1_code 98 = .ok (.bipush 20, 2) by decide +kernel) (by decide)) ?_
  refine xA (ok_newa hC (show decode prog_1_method_1_code 100 = .ok (.newarray .int, 2) by decide +kernel) (by decide) (ty := .int) rfl rfl rfl (by decide) w_153 (fun _ z => by cases z)) ?_
  refine xA (ok_putF hC hin (show decode prog_1_method_1_code 102 = .ok (.putfield 65, 3) by decide +kernel) (by decide) (r0 := ("StyleCourt", xF0, 12)) rfl (by decide) rfl (by decide +kernel) w_426) ?_
  refine xA (ok_vret hC hr (show decode prog_1_method_1_code 105 = .ok (.return_, 1) by decide +kernel)) ?_
  exact trivial

def tb_Sc_place (X : xX) : List (Nat × xOp) := [(0, o_ald 0 1),
  (1, o_get 0 7 4),
  (4, o_get 1 2 7),
  (7, o_iret X.P)]
theorem tk_Sc_place {X : xX} (hC : xCx X prog_1_method_6_code "StyleCourt" 1 0) (hr : X.meth.sig.returnType = (some .int)) (hnh : X.c.exceptionTable.isEmpty = true) (hin : X.meth.name = "place") : xAll X (tb_Sc_place X) := by
  refine xA (ok_aload_n hC (show decode prog_1_method_6_code 0 = .ok (.aload_n 0, 1) by decide +kernel) rfl) ?_
  refine xA (ok_get hC (show decode prog_1_method_6_code 1 = .ok (.getfield 41, 3) by decide +kernel) (by decide) (r0 := ("StyleCourt", xF0, 12)) rfl (by decide) rfl w_422) ?_
  refine xA (ok_get hC (show decode prog_1_method_6_code 4 = .ok (.getfield 134, 3) by decide +kernel) (by decide) (r0 := ("StyleCourt$Reader", xF1, 3)) rfl (by decide) rfl w_144) ?_
  refine xA (ok_iret hC hr (show decode prog_1_method_6_code 7 = .ok (.ireturn, 1) by decide +kernel)) ?_
  exact trivial

def tb_Sc_feed (X : xX) : List (Nat × xOp) := [(0, o_ald 0 1),
  (1, o_get 0 1 4),
  (4, o_ic 8172 7),
  (7, o_icle 20 10),
  (10, o_throw X.P 14),
  (20, o_ald 0 21),
  (21, o_ild 1 22),
  (22, o_callV X.l X.D X.P 0 0 2 y_Sc_putOnTape 25),
  (25, o_ald 0 26),
  (26, o_ild 2 27),
  (27, o_callV X.l X.D X.P 0 0 2 y_Sc_putOnTape 30),
  (30, o_ald 0 31),
  (31, o_ild 3 32),
  (32, o_callV X.l X.D X.P 0 0 2 y_Sc_putOnTape 35),
  (35, o_ald 0 36),
  (36, o_ild 4 38),
  (38, o_callV X.l X.D X.P 0 0 2 y_Sc_putOnTape 41),
  (41, o_ald 0 42),
  (42, o_ild 5 44),
  (44, o_callV X.l X.D X.P 0 0 2 y_Sc_putOnTape 47),
  (47, o_ald 0 48),
  (48, o_get 0 1 51),
  (51, o_iret X.P)]
theorem tk_Sc_feed {X : xX} (hC : xCx X prog_1_method_2_code "StyleCourt" 6 6) (hr : X.meth.sig.returnType = (some .int)) (hnh : X.c.exceptionTable.isEmpty = true) (hin : X.meth.name = "feed") : xAll X (tb_Sc_feed X) := by
  refine xA (ok_aload_n hC (show decode prog_1_method_2_code 0 = .ok (.aload_n 0, 1) by decide +kernel) rfl) ?_
  refine xA (ok_get hC (show decode prog_1_method_2_code 1 = .ok (.getfield 13, 3) by decide +kernel) (by decide) (r0 := ("StyleCourt", xF0, 12)) rfl (by decide) rfl w_416) ?_
  refine xA (ok_sipush hC (show decode prog_1_method_2_code 4 = .ok (.sipush 8172, 3) by decide +kernel) (by decide)) ?_
  refine xA (ok_icle hC (show decode prog_1_method_2_code 7 = .ok (.if_icmp .le 13, 3) by decide +kernel) (by decide)) ?_
  refine xA (ok_throw hC hnh ["java/lang/RuntimeException", "java/lang/Exception"] (show decode prog_1_method_2_code 10 = .ok (.new 68, 3) by decide +kernel) (show decode prog_1_method_2_code 13 = .ok (.dup, 1) by decide +kernel) (show decode prog_1_method_2_code 14 = .ok (.ldc 70, 2) by decide +kernel) (show decode prog_1_method_2_code 16 = .ok (.invokespecial 72, 3) by decide +kernel) (show decode prog_1_method_2_code 19 = .ok (.athrow, 1) by decide +kernel) (by decide) (r0 := ("java/lang/IndexOutOfBoundsException", xF14, 0)) rfl rfl w_464 w_87 (j := 0) rfl (by decide +kernel) (by decide +kernel) (ow_Sc_72 ) (by decide) (by decide)) ?_
  refine xA (ok_aload_n hC (show decode prog_1_method_2_code 20 = .ok (.aload_n 0, 1) by decide +kernel) rfl) ?_
  refine xA (ok_iload_n hC (show decode prog_1_method_2_code 21 = .ok (.iload_n 1, 1) by decide +kernel) rfl) ?_
  refine xA (ok_callV hC hnh (show decode prog_1_method_2_code 22 = .ok (.invokevirtual 75, 3) by decide +kernel) (by decide) (by decide) (by decide) (r0 := ("StyleCourt", xF0, 12)) rfl ⟨by decide, by decide, by decide +kernel⟩ w_534 w_69 w_531 w_533 w_4) ?_
  refine xA (ok_aload_n hC (show decode prog_1_method_2_code 25 = .ok (.aload_n 0, 1) by decide +kernel) rfl) ?_
  refine xA (ok_iload_n hC (show decode prog_1_method_2_code 26 = .ok (.iload_n 2, 1) by decide +kernel) rfl) ?_
  refine xA (ok_callV hC hnh (show decode prog_1_method_2_code 27 = .ok (.invokevirtual 75, 3) by decide +kernel) (by decide) (by decide) (by decide) (r0 := ("StyleCourt", xF0, 12)) rfl ⟨by decide, by decide, by decide +kernel⟩ w_534 w_69 w_531 w_533 w_4) ?_
  refine xA (ok_aload_n hC (show decode prog_1_method_2_code 30 = .ok (.aload_n 0, 1) by decide +kernel) rfl) ?_
  refine xA (ok_iload_n hC (show decode prog_1_method_2_code 31 = .ok (.iload_n 3, 1) by decide +kernel) rfl) ?_
  refine xA (ok_callV hC hnh (show decode prog_1_method_2_code 32 = .ok (.invokevirtual 75, 3) by decide +kernel) (by decide) (by decide) (by decide) (r0 := ("StyleCourt", xF0, 12)) rfl ⟨by decide, by decide, by decide +kernel⟩ w_534 w_69 w_531 w_533 w_4) ?_
  refine xA (ok_aload_n hC (show decode prog_1_method_2_code 35 = .ok (.aload_n 0, 1) by decide +kernel) rfl) ?_
  refine xA (ok_iload hC (show decode prog_1_method_2_code 36 = .ok (.iload 4, 2) by decide +kernel)) ?_
  refine xA (ok_callV hC hnh (show decode prog_1_method_2_code 38 = .ok (.invokevirtual 75, 3) by decide +kernel) (by decide) (by decide) (by decide) (r0 := ("StyleCourt", xF0, 12)) rfl ⟨by decide, by decide, by decide +kernel⟩ w_534 w_69 w_531 w_533 w_4) ?_
  refine xA (ok_aload_n hC (show decode prog_1_method_2_code 41 = .ok (.aload_n 0, 1) by decide +kernel) rfl) ?_
  refine xA (ok_iload hC (show decode prog_1_method_2_code 42 = .ok (.iload 5, 2) by decide +kernel)) ?_
  refine xA (ok_callV hC hnh (show decode prog_1_method_2_code 44 = .ok (.invokevirtual 75, 3) by decide +kernel) (by decide) (by decide) (by decide) (r0 := ("StyleCourt", xF0, 12)) rfl ⟨by decide, by decide, by decide +kernel⟩ w_534 w_69 w_531 w_533 w_4) ?_
  refine xA (ok_aload_n hC (show decode prog_1_method_2_code 47 = .ok (.aload_n 0, 1) by decide +kernel) rfl) ?_
  refine xA (ok_get hC (show decode prog_1_method_2_code 48 = .ok (.getfield 13, 3) by decide +kernel) (by decide) (r0 := ("StyleCourt", xF0, 12)) rfl (by decide) rfl w_416) ?_
  refine xA (ok_iret hC hr (show decode prog_1_method_2_code 51 = .ok (.ireturn, 1) by decide +kernel)) ?_
  exact trivial

def tb_Sc_putOnTape (X : xX) : List (Nat × xOp) := [(0, o_ic 24 2),
  (2, o_ist 2 3),
  (3, o_ild 2 4),
  (4, o_iflt 36 7),
  (7, o_ald 0 8),
  (8, o_get 0 0 11),
  (11, o_ald 0 12),
  (12, o_get 0 1 15),
  (15, o_ild 1 16),
  (16, o_ild 2 17),
  (17, o_ishr 18),
  (18, o_i2b 19),
  (19, o_bast 1 20),
  (20, o_ald 0 21),
  (21, o_dup 22),
  (22, o_get 0 1 25),
  (25, o_ic 1 26),
  (26, o_iadd 27),
  (27, o_put 0 1 (.int) 30),
  (30, o_inc 2 (-8) 33),
  (33, o_goto 3),
  (36, o_vret X.P)]
theorem tk_Sc_putOnTape {X : xX} (hC : xCx X prog_1_method_16_code "StyleCourt" 3 0) (hr : X.meth.sig.returnType = none) (hnh : X.c.exceptionTable.isEmpty = true) (hin : X.meth.name = "putOnTape") : xAll X (tb_Sc_putOnTape X) := by
  refine xA (ok_bipush hC (show decode prog_1_method_16_code 0 = .ok (.bipush 24, 2) by decide +kernel) (by decide)) ?_
  refine xA (ok_istore_n hC (show decode prog_1_method_16_code 2 = .ok (.istore_n 2, 1) by decide +kernel) rfl (by decide)) ?_
  refine xA (ok_iload_n hC (show decode prog_1_method_16_code 3 = .ok (.iload_n 2, 1) by decide +kernel) rfl) ?_
  refine xA (ok_iflt hC (show decode prog_1_method_16_code 4 = .ok (.ifCond .lt 32, 3) by decide +kernel) (by decide)) ?_
  refine xA (ok_aload_n hC (show decode prog_1_method_16_code 7 = .ok (.aload_n 0, 1) by decide +kernel) rfl) ?_
  refine xA (ok_get hC (show decode prog_1_method_16_code 8 = .ok (.getfield 9, 3) by decide +kernel) (by decide) (r0 := ("StyleCourt", xF0, 12)) rfl (by decide) rfl w_415) ?_
  refine xA (ok_aload_n hC (show decode prog_1_method_16_code 11 = .ok (.aload_n 0, 1) by decide +kernel) rfl) ?_
  refine xA (ok_get hC (show decode prog_1_method_16_code 12 = .ok (.getfield 13, 3) by decide +kernel) (by decide) (r0 := ("StyleCourt", xF0, 12)) rfl (by decide) rfl w_416) ?_
  refine xA (ok_iload_n hC (show decode prog_1_method_16_code 15 = .ok (.iload_n 1, 1) by decide +kernel) rfl) ?_
  refine xA (ok_iload_n hC (show decode prog_1_method_16_code 16 = .ok (.iload_n 2, 1) by decide +kernel) rfl) ?_
  refine xA (ok_ishr hC (show decode prog_1_method_16_code 17 = .ok (.ishr, 1) by decide +kernel)) ?_
  refine xA (ok_i2b hC (show decode prog_1_method_16_code 18 = .ok (.i2b, 1) by decide +kernel)) ?_
  refine xA (ok_bast hC (show decode prog_1_method_16_code 19 = .ok (.bastore, 1) by decide +kernel) (by decide) rfl) ?_
  refine xA (ok_aload_n hC (show decode prog_1_method_16_code 20 = .ok (.aload_n 0, 1) by decide +kernel) rfl) ?_
  refine xA (ok_dup hC (show decode prog_1_method_16_code 21 = .ok (.dup, 1) by decide +kernel)) ?_
  refine xA (ok_get hC (show decode prog_1_method_16_code 22 = .ok (.getfield 13, 3) by decide +kernel) (by decide) (r0 := ("StyleCourt", xF0, 12)) rfl (by decide) rfl w_416) ?_
  refine xA (ok_iconst hC (show decode prog_1_method_16_code 25 = .ok (.iconst 1, 1) by decide +kernel) (by decide)) ?_
  refine xA (ok_iadd hC (show decode prog_1_method_16_code 26 = .ok (.iadd, 1) by decide +kernel)) ?_
  refine xA (ok_put hC (show decode prog_1_method_16_code 27 = .ok (.putfield 13, 3) by decide +kernel) (by decide) (r0 := ("StyleCourt", xF0, 12)) rfl (by decide) rfl (by decide +kernel) w_416) ?_
  refine xA (ok_iinc hC (show decode prog_1_method_16_code 30 = .ok (.iinc 2 (-8), 3) by decide +kernel) (by decide) (by decide)) ?_
  refine xA (ok_goto hC (show decode prog_1_method_16_code 33 = .ok (.goto (-30), 3) by decide +kernel) (by decide)) ?_
  refine xA (ok_vret hC hr (show decode prog_1_method_16_code 36 = .ok (.return_, 1) by decide +kernel)) ?_
  exact trivial

def tb_Sc_end (X : xX) : List (Nat × xOp) := [(0, o_ild 1 1),
  (1, o_iflt 12 4),
  (4, o_ild 1 5),
  (5, o_ald 0 6),
  (6, o_get 0 1 9),
  (9, o_icle 22 12),
  (12, o_throw X.P 15),
  (22, o_ald 0 23),
  (23, o_ild 1 24),
  (24, o_put 0 1 (.int) 27),
  (27, o_ild 1 28),
  (28, o_iret X.P)]
theorem tk_Sc_end {X : xX} (hC : xCx X prog_1_method_3_code "StyleCourt" 2 6) (hr : X.meth.sig.returnType = (some .int)) (hnh : X.c.exceptionTable.isEmpty = true) (hin : X.meth.name = "end") : xAll X (tb_Sc_end X) := by
  refine xA (ok_iload_n hC (show decode prog_1_method_3_code 0 = .ok (.iload_n 1, 1) by decide +kernel) rfl) ?_
  refine xA (ok_iflt hC (show decode prog_1_method_3_code 1 = .ok (.ifCond .lt 11, 3) by decide +kernel) (by decide)) ?_
  refine xA (ok_iload_n hC (show decode prog_1_method_3_code 4 = .ok (.iload_n 1, 1) by decide +kernel) rfl) ?_
  refine xA (ok_aload_n hC (show decode prog_1_method_3_code 5 = .ok (.aload_n 0, 1) by decide +kernel) rfl) ?_
  refine xA (ok_get hC (show decode prog_1_method_3_code 6 = .ok (.getfield 13, 3) by decide +kernel) (by decide) (r0 := ("StyleCourt", xF0, 12)) rfl (by decide) rfl w_416) ?_
  refine xA (ok_icle hC (show decode prog_1_method_3_code 9 = .ok (.if_icmp .le 13, 3) by decide +kernel) (by decide)) ?_
  refine xA (ok_throw hC hnh ["java/lang/RuntimeException", "java/lang/Exception"] (show decode prog_1_method_3_code 12 = .ok (.new 79, 3) by decide +kernel) (show decode prog_1_method_3_code 15 = .ok (.dup, 1) by decide +kernel) (show decode prog_1_method_3_code 16 = .ok (.ldc 81, 2) by decide +kernel) (show decode prog_1_method_3_code 18 = .ok (.invokespecial 83, 3) by decide +kernel) (show decode prog_1_method_3_code 21 = .ok (.athrow, 1) by decide +kernel) (by decide) (r0 := ("java/lang/IllegalArgumentException", xF15, 0)) rfl rfl w_543 w_88 (j := 1) rfl (by decide +kernel) (by decide +kernel) (ow_Sc_83 ) (by decide) (by decide)) ?_
  refine xA (ok_aload_n hC (show decode prog_1_method_3_code 22 = .ok (.aload_n 0, 1) by decide +kernel) rfl) ?_
  refine xA (ok_iload_n hC (show decode prog_1_method_3_code 23 = .ok (.iload_n 1, 1) by decide +kernel) rfl) ?_
  refine xA (ok_put hC (show decode prog_1_method_3_code 24 = .ok (.putfield 13, 3) by decide +kernel) (by decide) (r0 := ("StyleCourt", xF0, 12)) rfl (by decide) rfl (by decide +kernel) w_416) ?_
  refine xA (ok_iload_n hC (show decode prog_1_method_3_code 27 = .ok (.iload_n 1, 1) by decide +kernel) rfl) ?_
  refine xA (ok_iret hC hr (show decode prog_1_method_3_code 28 = .ok (.ireturn, 1) by decide +kernel)) ?_
  exact trivial

def tb_Sc_source (X : xX) : List (Nat × xOp) := [(0, o_ald 0 1),
  (1, o_callV X.l X.D X.P 0 3 1 y_Sc_takeTape 4),
  (4, o_ast 1 5),
  (5, o_new 5 5 [.null, .null, .null, .null, .null] 8),
  (8, o_dup 9),
  (9, o_callI X.l X.D X.P 7 1 y_So_init 12),
  (12, o_ast 2 13),
  (13, o_ic 0 14),
  (14, o_ist 3 15),
  (15, o_ild 3 16),
  (16, o_ald 1 17),
  (17, o_get 1 0 20),
  (20, o_len 21),
  (21, o_icge 43 24),
  (24, o_ald 1 25),
  (25, o_callV X.l X.D X.P 1 0 1 y_Rd_here 28),
  (28, o_ic (-1) 29),
  (29, o_iceq 43 32),
  (32, o_ald 2 33),
  (33, o_ald 1 34),
  (34, o_callV X.l X.D X.P 5 11 2 y_So_readPiece 37),
  (37, o_inc 3 1 40),
  (40, o_goto 15),
  (43, o_ald 2 44),
  (44, o_get 5 4 47),
  (47, o_ald 2 48),
  (48, o_get 5 3 51),
  (51, o_acm 63 54),
  (54, o_ald 1 55),
  (55, o_ald 1 56),
  (56, o_get 1 0 59),
  (59, o_len 60),
  (60, o_callV X.l X.D X.P 1 6 2 y_Rd_failAt 63),
  (63, o_ald 0 64),
  (64, o_ald 2 65),
  (65, o_put 0 8 (.object "StyleCourt$Source") 68),
  (68, o_ald 0 69),
  (69, o_ic 0 70),
  (70, o_put 0 5 (.int) 73),
  (73, o_ald 2 74),
  (74, o_get 5 0 77),
  (77, o_callV X.l X.D X.P 12 0 1 y_AL_size 80),
  (80, o_iret X.P)]
theorem tk_Sc_source {X : xX} (hC : xCx X prog_1_method_4_code "StyleCourt" 4 12) (hr : X.meth.sig.returnType = (some .int)) (hnh : X.c.exceptionTable.isEmpty = true) (hin : X.meth.name = "source") : xAll X (tb_Sc_source X) := by
  refine xA (ok_aload_n hC (show decode prog_1_method_4_code 0 = .ok (.aload_n 0, 1) by decide +kernel) rfl) ?_
  refine xA (ok_callV hC hnh (show decode prog_1_method_4_code 1 = .ok (.invokevirtual 84, 3) by decide +kernel) (by decide) (by decide) (by decide) (r0 := ("StyleCourt", xF0, 12)) rfl ⟨by decide, by decide, by decide +kernel⟩ w_570 w_69 w_567 w_569 w_5) ?_
  refine xA (ok_astore_n hC (show decode prog_1_method_4_code 4 = .ok (.astore_n 1, 1) by decide +kernel) rfl (by decide)) ?_
  refine xA (ok_new hC (show decode prog_1_method_4_code 5 = .ok (.new 45, 3) by decide +kernel) (by decide) (r0 := ("StyleCourt$Source", xF5, 5)) rfl (by decide) w_154 w_155 w_74) ?_
  refine xA (ok_dup hC (show decode prog_1_method_4_code 8 = .ok (.dup, 1) by decide +kernel)) ?_
  refine xA (ok_callI hC hnh (show decode prog_1_method_4_code 9 = .ok (.invokespecial 47, 3) by decide +kernel) (by decide) (by decide) ⟨by decide, by decide, by decide +kernel⟩ rfl w_158 w_74 w_156 w_157) ?_
  refine xA (ok_astore_n hC (show decode prog_1_method_4_code 12 = .ok (.astore_n 2, 1) by decide +kernel) rfl (by decide)) ?_
  refine xA (ok_iconst hC (show decode prog_1_method_4_code 13 = .ok (.iconst 0, 1) by decide +kernel) (by decide)) ?_
  refine xA (ok_istore_n hC (show decode prog_1_method_4_code 14 = .ok (.istore_n 3, 1) by decide +kernel) rfl (by decide)) ?_
  refine xA (ok_iload_n hC (show decode prog_1_method_4_code 15 = .ok (.iload_n 3, 1) by decide +kernel) rfl) ?_
  refine xA (ok_aload_n hC (show decode prog_1_method_4_code 16 = .ok (.aload_n 1, 1) by decide +kernel) rfl) ?_
  refine xA (ok_get hC (show decode prog_1_method_4_code 17 = .ok (.getfield 88, 3) by decide +kernel) (by decide) (r0 := ("StyleCourt$Reader", xF1, 3)) rfl (by decide) rfl w_134) ?_
  refine xA (ok_len hC (show decode prog_1_method_4_code 20 = .ok (.arraylength, 1) by decide +kernel)) ?_
  refine xA (ok_icge hC (show decode prog_1_method_4_code 21 = .ok (.if_icmp .ge 22, 3) by decide +kernel) (by decide)) ?_
  refine xA (ok_aload_n hC (show decode prog_1_method_4_code 24 = .ok (.aload_n 1, 1) by decide +kernel) rfl) ?_
  refine xA (ok_callV hC hnh (show decode prog_1_method_4_code 25 = .ok (.invokevirtual 91, 3) by decide +kernel) (by decide) (by decide) (by decide) (r0 := ("StyleCourt$Reader", xF1, 3)) rfl ⟨by decide, by decide, by decide +kernel⟩ w_574 w_70 w_571 w_572 w_573) ?_
  refine xA (ok_iconst hC (show decode prog_1_method_4_code 28 = .ok (.iconst (-1), 1) by decide +kernel) (by decide)) ?_
  refine xA (ok_iceq hC (show decode prog_1_method_4_code 29 = .ok (.if_icmp .eq 14, 3) by decide +kernel) (by decide)) ?_
  refine xA (ok_aload_n hC (show decode prog_1_method_4_code 32 = .ok (.aload_n 2, 1) by decide +kernel) rfl) ?_
  refine xA (ok_aload_n hC (show decode prog_1_method_4_code 33 = .ok (.aload_n 1, 1) by decide +kernel) rfl) ?_
  refine xA (ok_callV hC hnh (show decode prog_1_method_4_code 34 = .ok (.invokevirtual 95, 3) by decide +kernel) (by decide) (by decide) (by decide) (r0 := ("StyleCourt$Source", xF5, 5)) rfl ⟨by decide, by decide, by decide +kernel⟩ w_578 w_74 w_575 w_576 w_577) ?_
  refine xA (ok_iinc hC (show decode prog_1_method_4_code 37 = .ok (.iinc 3 1, 3) by decide +kernel) (by decide) (by decide)) ?_
  refine xA (ok_goto hC (show decode prog_1_method_4_code 40 = .ok (.goto (-25), 3) by decide +kernel) (by decide)) ?_
  refine xA (ok_aload_n hC (show decode prog_1_method_4_code 43 = .ok (.aload_n 2, 1) by decide +kernel) rfl) ?_
  refine xA (ok_get hC (show decode prog_1_method_4_code 44 = .ok (.getfield 99, 3) by decide +kernel) (by decide) (r0 := ("StyleCourt$Source", xF5, 5)) rfl (by decide) rfl w_378) ?_
  refine xA (ok_aload_n hC (show decode prog_1_method_4_code 47 = .ok (.aload_n 2, 1) by decide +kernel) rfl) ?_
  refine xA (ok_get hC (show decode prog_1_method_4_code 48 = .ok (.getfield 103, 3) by decide +kernel) (by decide) (r0 := ("StyleCourt$Source", xF5, 5)) rfl (by decide) rfl w_376) ?_
  refine xA (ok_acmpeq hC (show decode prog_1_method_4_code 51 = .ok (.if_acmp .eq 12, 3) by decide +kernel) (by decide)) ?_
  refine xA (ok_aload_n hC (show decode prog_1_method_4_code 54 = .ok (.aload_n 1, 1) by decide +kernel) rfl) ?_
  refine xA (ok_aload_n hC (show decode prog_1_method_4_code 55 = .ok (.aload_n 1, 1) by decide +kernel) rfl) ?_
  refine xA (ok_get hC (show decode prog_1_method_4_code 56 = .ok (.getfield 88, 3) by decide +kernel) (by decide) (r0 := ("StyleCourt$Reader", xF1, 3)) rfl (by decide) rfl w_134) ?_
  refine xA (ok_len hC (show decode prog_1_method_4_code 59 = .ok (.arraylength, 1) by decide +kernel)) ?_
  refine xA (ok_callV hC hnh (show decode prog_1_method_4_code 60 = .ok (.invokevirtual 106, 3) by decide +kernel) (by decide) (by decide) (by decide) (r0 := ("StyleCourt$Reader", xF1, 3)) rfl ⟨by decide, by decide, by decide +kernel⟩ w_591 w_70 w_718 w_589 w_590) ?_
  refine xA (ok_aload_n hC (show decode prog_1_method_4_code 63 = .ok (.aload_n 0, 1) by decide +kernel) rfl) ?_
  refine xA (ok_aload_n hC (show decode prog_1_method_4_code 64 = .ok (.aload_n 2, 1) by decide +kernel) rfl) ?_
  refine xA (ok_put hC (show decode prog_1_method_4_code 65 = .ok (.putfield 48, 3) by decide +kernel) (by decide) (r0 := ("StyleCourt", xF0, 12)) rfl (by decide) rfl (by decide +kernel) w_423) ?_
  refine xA (ok_aload_n hC (show decode prog_1_method_4_code 68 = .ok (.aload_n 0, 1) by decide +kernel) rfl) ?_
  refine xA (ok_iconst hC (show decode prog_1_method_4_code 69 = .ok (.iconst 0, 1) by decide +kernel) (by decide)) ?_
  refine xA (ok_put hC (show decode prog_1_method_4_code 70 = .ok (.putfield 27, 3) by decide +kernel) (by decide) (r0 := ("StyleCourt", xF0, 12)) rfl (by decide) rfl (by decide +kernel) w_420) ?_
  refine xA (ok_aload_n hC (show decode prog_1_method_4_code 73 = .ok (.aload_n 2, 1) by decide +kernel) rfl) ?_
  refine xA (ok_get hC (show decode prog_1_method_4_code 74 = .ok (.getfield 109, 3) by decide +kernel) (by decide) (r0 := ("StyleCourt$Source", xF5, 5)) rfl (by decide) rfl w_371) ?_
  refine xA (ok_callV hC hnh (show decode prog_1_method_4_code 77 = .ok (.invokevirtual 113, 3) by decide +kernel) (by decide) (by decide) (by decide) (r0 := ("java/util/ArrayList", xF12, 3)) rfl ⟨by decide, by decide, by decide +kernel⟩ w_644 w_77 w_658 w_642 w_643) ?_
  refine xA (ok_iret hC hr (show decode prog_1_method_4_code 80 = .ok (.ireturn, 1) by decide +kernel)) ?_
  exact trivial

def tb_Sc_takeTape (X : xX) : List (Nat × xOp) := [(0, o_ald 0 1),
  (1, o_new 1 3 [.null, .int 0, .int 0] 4),
  (4, o_dup 5),
  (5, o_ald 0 6),
  (6, o_get 0 0 9),
  (9, o_ald 0 10),
  (10, o_get 0 1 13),
  (13, o_callI X.l X.D X.P 2 3 y_Rd_init 16),
  (16, o_put 0 7 (.object "StyleCourt$Reader") 19),
  (19, o_ald 0 20),
  (20, o_ic 0 21),
  (21, o_put 0 1 (.int) 24),
  (24, o_ald 0 25),
  (25, o_get 0 7 28),
  (28, o_aret X.P)]
theorem tk_Sc_takeTape {X : xX} (hC : xCx X prog_1_method_17_code "StyleCourt" 1 3) (hr : X.meth.sig.returnType = (some (.object "StyleCourt$Reader"))) (hnh : X.c.exceptionTable.isEmpty = true) (hin : X.meth.name = "takeTape") : xAll X (tb_Sc_takeTape X) := by
  refine xA (ok_aload_n hC (show decode prog_1_method_17_code 0 = .ok (.aload_n 0, 1) by decide +kernel) rfl) ?_
  refine xA (ok_new hC (show decode prog_1_method_17_code 1 = .ok (.new 33, 3) by decide +kernel) (by decide) (r0 := ("StyleCourt$Reader", xF1, 3)) rfl (by decide) w_108 w_109 w_70) ?_
  refine xA (ok_dup hC (show decode prog_1_method_17_code 4 = .ok (.dup, 1) by decide +kernel)) ?_
  refine xA (ok_aload_n hC (show decode prog_1_method_17_code 5 = .ok (.aload_n 0, 1) by decide +kernel) rfl) ?_
  refine xA (ok_get hC (show decode prog_1_method_17_code 6 = .ok (.getfield 9, 3) by decide +kernel) (by decide) (r0 := ("StyleCourt", xF0, 12)) rfl (by decide) rfl w_415) ?_
  refine xA (ok_aload_n hC (show decode prog_1_method_17_code 9 = .ok (.aload_n 0, 1) by decide +kernel) rfl) ?_
  refine xA (ok_get hC (show decode prog_1_method_17_code 10 = .ok (.getfield 13, 3) by decide +kernel) (by decide) (r0 := ("StyleCourt", xF0, 12)) rfl (by decide) rfl w_416) ?_
  refine xA (ok_callI hC hnh (show decode prog_1_method_17_code 13 = .ok (.invokespecial 38, 3) by decide +kernel) (by decide) (by decide) ⟨by decide, by decide, by decide +kernel⟩ rfl w_114 w_70 w_112 w_113) ?_
  refine xA (ok_put hC (show decode prog_1_method_17_code 16 = .ok (.putfield 41, 3) by decide +kernel) (by decide) (r0 := ("StyleCourt", xF0, 12)) rfl (by decide) rfl (by decide +kernel) w_422) ?_
  refine xA (ok_aload_n hC (show decode prog_1_method_17_code 19 = .ok (.aload_n 0, 1) by decide +kernel) rfl) ?_
  refine xA (ok_iconst hC (show decode prog_1_method_17_code 20 = .ok (.iconst 0, 1) by decide +kernel) (by decide)) ?_
  refine xA (ok_put hC (show decode prog_1_method_17_code 21 = .ok (.putfield 13, 3) by decide +kernel) (by decide) (r0 := ("StyleCourt", xF0, 12)) rfl (by decide) rfl (by decide +kernel) w_416) ?_
  refine xA (ok_aload_n hC (show decode prog_1_method_17_code 24 = .ok (.aload_n 0, 1) by decide +kernel) rfl) ?_
  refine xA (ok_get hC (show decode prog_1_method_17_code 25 = .ok (.getfield 41, 3) by decide +kernel) (by decide) (r0 := ("StyleCourt", xF0, 12)) rfl (by decide) rfl w_422) ?_
  refine xA (ok_aret hC hr (Or.inl ⟨_, rfl⟩) (show decode prog_1_method_17_code 28 = .ok (.areturn, 1) by decide +kernel)) ?_
  exact trivial

def tb_Sc_isSmall (X : xX) : List (Nat × xOp) := [(0, o_ild 0 1),
  (1, o_ic 97 3),
  (3, o_iclt 16 6),
  (6, o_ild 0 7),
  (7, o_ic 122 9),
  (9, o_icgt 16 12),
  (12, o_ic 1 13),
  (13, o_goto 17),
  (16, o_ic 0 17),
  (17, o_zret .boolean X.P)]
theorem tk_Sc_isSmall {X : xX} (hC : xCx X prog_1_method_24_code "StyleCourt" 1 0) (hr : X.meth.sig.returnType = (some .boolean)) (hnh : X.c.exceptionTable.isEmpty = true) (hin : X.meth.name = "isSmall") : xAll X (tb_Sc_isSmall X) := by
  refine xA (ok_iload_n hC (show decode prog_1_method_24_code 0 = .ok (.iload_n 0, 1) by decide +kernel) rfl) ?_
  refine xA (ok_bipush hC (show decode prog_1_method_24_code 1 = .ok (.bipush 97, 2) by decide +kernel) (by decide)) ?_
  refine xA (ok_iclt hC (show decode prog_1_method_24_code 3 = .ok (.if_icmp .lt 13, 3) by decide +kernel) (by decide)) ?_
  refine xA (ok_iload_n hC (show decode prog_1_method_24_code 6 = .ok (.iload_n 0, 1) by decide +kernel) rfl) ?_
  refine xA (ok_bipush hC (show decode prog_1_method_24_code 7 = .ok (.bipush 122, 2) by decide +kernel) (by decide)) ?_
  refine xA (ok_icgt hC (show decode prog_1_method_24_code 9 = .ok (.if_icmp .gt 7, 3) by decide +kernel) (by decide)) ?_
  refine xA (ok_iconst hC (show decode prog_1_method_24_code 12 = .ok (.iconst 1, 1) by decide +kernel) (by decide)) ?_
  refine xA (ok_goto hC (show decode prog_1_method_24_code 13 = .ok (.goto 4, 3) by decide +kernel) (by decide)) ?_
  refine xA (ok_iconst hC (show decode prog_1_method_24_code 16 = .ok (.iconst 0, 1) by decide +kernel) (by decide)) ?_
  refine xA (ok_zret hC hr (show decode prog_1_method_24_code 17 = .ok (.ireturn, 1) by decide +kernel)) ?_
  exact trivial

def tb_Sc_isDigit (X : xX) : List (Nat × xOp) := [(0, o_ild 0 1),
  (1, o_ic 48 3),
  (3, o_iclt 16 6),
  (6, o_ild 0 7),
  (7, o_ic 57 9),
  (9, o_icgt 16 12),
  (12, o_ic 1 13),
  (13, o_goto 17),
  (16, o_ic 0 17),
  (17, o_zret .boolean X.P)]
theorem tk_Sc_isDigit {X : xX} (hC : xCx X prog_1_method_25_code "StyleCourt" 1 0) (hr : X.meth.sig.returnType = (some .boolean)) (hnh : X.c.exceptionTable.isEmpty = true) (hin : X.meth.name = "isDigit") : xAll X (tb_Sc_isDigit X) := by
  refine xA (ok_iload_n hC (show decode prog_1_method_25_code 0 = .ok (.iload_n 0, 1) by decide +kernel) rfl) ?_
  refine xA (ok_bipush hC (show decode prog_1_method_25_code 1 = .ok (.bipush 48, 2) by decide +kernel) (by decide)) ?_
  refine xA (ok_iclt hC (show decode prog_1_method_25_code 3 = .ok (.if_icmp .lt 13, 3) by decide +kernel) (by decide)) ?_
  refine xA (ok_iload_n hC (show decode prog_1_method_25_code 6 = .ok (.iload_n 0, 1) by decide +kernel) rfl) ?_
  refine xA (ok_bipush hC (show decode prog_1_method_25_code 7 = .ok (.bipush 57, 2) by decide +kernel) (by decide)) ?_
  refine xA (ok_icgt hC (show decode prog_1_method_25_code 9 = .ok (.if_icmp .gt 7, 3) by decide +kernel) (by decide)) ?_
  refine xA (ok_iconst hC (show decode prog_1_method_25_code 12 = .ok (.iconst 1, 1) by decide +kernel) (by decide)) ?_
  refine xA (ok_goto hC (show decode prog_1_method_25_code 13 = .ok (.goto 4, 3) by decide +kernel) (by decide)) ?_
  refine xA (ok_iconst hC (show decode prog_1_method_25_code 16 = .ok (.iconst 0, 1) by decide +kernel) (by decide)) ?_
  refine xA (ok_zret hC hr (show decode prog_1_method_25_code 17 = .ok (.ireturn, 1) by decide +kernel)) ?_
  exact trivial

def tb_Sc_isBlank (X : xX) : List (Nat × xOp) := [(0, o_ild 0 1),
  (1, o_ic 10 3),
  (3, o_iceq 12 6),
  (6, o_ild 0 7),
  (7, o_ic 32 9),
  (9, o_icne 16 12),
  (12, o_ic 1 13),
  (13, o_goto 17),
  (16, o_ic 0 17),
  (17, o_zret .boolean X.P)]
theorem tk_Sc_isBlank {X : xX} (hC : xCx X prog_1_method_26_code "StyleCourt" 1 0) (hr : X.meth.sig.returnType = (some .boolean)) (hnh : X.c.exceptionTable.isEmpty = true) (hin : X.meth.name = "isBlank") : xAll X (tb_Sc_isBlank X) := by
  refine xA (ok_iload_n hC (show decode prog_1_method_26_code 0 = .ok (.iload_n 0, 1) by decide +kernel) rfl) ?_
  refine xA (ok_bipush hC (show decode prog_1_method_26_code 1 = .ok (.bipush 10, 2) by decide +kernel) (by decide)) ?_
  refine xA (ok_iceq hC (show decode prog_1_method_26_code 3 = .ok (.if_icmp .eq 9, 3) by decide +kernel) (by decide)) ?_
  refine xA (ok_iload_n hC (show decode prog_1_method_26_code 6 = .ok (.iload_n 0, 1) by decide +kernel) rfl) ?_
  refine xA (ok_bipush hC (show decode prog_1_method_26_code 7 = .ok (.bipush 32, 2) by decide +kernel) (by decide)) ?_
  refine xA (ok_icne hC (show decode prog_1_method_26_code 9 = .ok (.if_icmp .ne 7, 3) by decide +kernel) (by decide)) ?_
  refine xA (ok_iconst hC (show decode prog_1_method_26_code 12 = .ok (.iconst 1, 1) by decide +kernel) (by decide)) ?_
  refine xA (ok_goto hC (show decode prog_1_method_26_code 13 = .ok (.goto 4, 3) by decide +kernel) (by decide)) ?_
  refine xA (ok_iconst hC (show decode prog_1_method_26_code 16 = .ok (.iconst 0, 1) by decide +kernel) (by decide)) ?_
  refine xA (ok_zret hC hr (show decode prog_1_method_26_code 17 = .ok (.ireturn, 1) by decide +kernel)) ?_
  exact trivial

def tb_Sc_findNamed (X : xX) : List (Nat × xOp) := [(0, o_ic 0 1),
  (1, o_ist 2 2),
  (2, o_ild 2 3),
  (3, o_ald 0 4),
  (4, o_callV X.l X.D X.P 12 0 1 y_AL_size 7),
  (7, o_icge 43 10),
  (10, o_ald 0 11),
  (11, o_ild 2 12),
  (12, o_callV X.l X.D X.P 12 2 2 y_AL_get 15),
  (15, o_cast (Nat.beq 3) 18),
  (18, o_get 3 0 21),
  (21, o_ald 1 22),
  (22, o_callV X.l X.D X.P 2 0 2 y_Sl_sameAs 25),
  (25, o_ifeq 37 28),
  (28, o_ald 0 29),
  (29, o_ild 2 30),
  (30, o_callV X.l X.D X.P 12 2 2 y_AL_get 33),
  (33, o_cast (Nat.beq 3) 36),
  (36, o_aret X.P),
  (37, o_inc 2 1 40),
  (40, o_goto 2),
  (43, o_null 44),
  (44, o_aret X.P)]
theorem tk_Sc_findNamed {X : xX} (hC : xCx X prog_1_method_28_code "StyleCourt" 3 3) (hr : X.meth.sig.returnType = (some (.object "StyleCourt$Named"))) (hnh : X.c.exceptionTable.isEmpty = true) (hin : X.meth.name = "findNamed") : xAll X (tb_Sc_findNamed X) := by
  refine xA (ok_iconst hC (show decode prog_1_method_28_code 0 = .ok (.iconst 0, 1) by decide +kernel) (by decide)) ?_
  refine xA (ok_istore_n hC (show decode prog_1_method_28_code 1 = .ok (.istore_n 2, 1) by decide +kernel) rfl (by decide)) ?_
  refine xA (ok_iload_n hC (show decode prog_1_method_28_code 2 = .ok (.iload_n 2, 1) by decide +kernel) rfl) ?_
  refine xA (ok_aload_n hC (show decode prog_1_method_28_code 3 = .ok (.aload_n 0, 1) by decide +kernel) rfl) ?_
  refine xA (ok_callV hC hnh (show decode prog_1_method_28_code 4 = .ok (.invokevirtual 113, 3) by decide +kernel) (by decide) (by decide) (by decide) (r0 := ("java/util/ArrayList", xF12, 3)) rfl ⟨by decide, by decide, by decide +kernel⟩ w_644 w_77 w_658 w_642 w_643) ?_
  refine xA (ok_icge hC (show decode prog_1_method_28_code 7 = .ok (.if_icmp .ge 36, 3) by decide +kernel) (by decide)) ?_
  refine xA (ok_aload_n hC (show decode prog_1_method_28_code 10 = .ok (.aload_n 0, 1) by decide +kernel) rfl) ?_
  refine xA (ok_iload_n hC (show decode prog_1_method_28_code 11 = .ok (.iload_n 2, 1) by decide +kernel) rfl) ?_
  refine xA (ok_callV hC hnh (show decode prog_1_method_28_code 12 = .ok (.invokevirtual 184, 3) by decide +kernel) (by decide) (by decide) (by decide) (r0 := ("java/util/ArrayList", xF12, 3)) rfl ⟨by decide, by decide, by decide +kernel⟩ w_662 w_77 w_659 w_660 w_661) ?_
  refine xA (ok_cast hC (show decode prog_1_method_28_code 15 = .ok (.checkcast 236, 3) by decide +kernel) w_673 (xcast_ok (r0 := ("StyleCourt$Named", xF3, 2)) (by decide) rfl rfl)) ?_
  refine xA (ok_get hC (show decode prog_1_method_28_code 18 = .ok (.getfield 238, 3) by decide +kernel) (by decide) (r0 := ("StyleCourt$Named", xF3, 2)) rfl (by decide) rfl w_302) ?_
  refine xA (ok_aload_n hC (show decode prog_1_method_28_code 21 = .ok (.aload_n 1, 1) by decide +kernel) rfl) ?_
  refine xA (ok_callV hC hnh (show decode prog_1_method_28_code 22 = .ok (.invokevirtual 295, 3) by decide +kernel) (by decide) (by decide) (by decide) (r0 := ("StyleCourt$Slice", xF2, 3)) rfl ⟨by decide, by decide, by decide +kernel⟩ w_625 w_79 w_674 w_623 w_624) ?_
  refine xA (ok_ifeq hC (show decode prog_1_method_28_code 25 = .ok (.ifCond .eq 12, 3) by decide +kernel) (by decide)) ?_
  refine xA (ok_aload_n hC (show decode prog_1_method_28_code 28 = .ok (.aload_n 0, 1) by decide +kernel) rfl) ?_
  refine xA (ok_iload_n hC (show decode prog_1_method_28_code 29 = .ok (.iload_n 2, 1) by decide +kernel) rfl) ?_
  refine xA (ok_callV hC hnh (show decode prog_1_method_28_code 30 = .ok (.invokevirtual 184, 3) by decide +kernel) (by decide) (by decide) (by decide) (r0 := ("java/util/ArrayList", xF12, 3)) rfl ⟨by decide, by decide, by decide +kernel⟩ w_662 w_77 w_659 w_660 w_661) ?_
  refine xA (ok_cast hC (show decode prog_1_method_28_code 33 = .ok (.checkcast 236, 3) by decide +kernel) w_673 (xcast_ok (r0 := ("StyleCourt$Named", xF3, 2)) (by decide) rfl rfl)) ?_
  refine xA (ok_aret hC hr (Or.inl ⟨_, rfl⟩) (show decode prog_1_method_28_code 36 = .ok (.areturn, 1) by decide +kernel)) ?_
  refine xA (ok_iinc hC (show decode prog_1_method_28_code 37 = .ok (.iinc 2 1, 3) by decide +kernel) (by decide) (by decide)) ?_
  refine xA (ok_goto hC (show decode prog_1_method_28_code 40 = .ok (.goto (-38), 3) by decide +kernel) (by decide)) ?_
  refine xA (ok_null hC (show decode prog_1_method_28_code 43 = .ok (.aconst_null, 1) by decide +kernel)) ?_
  refine xA (ok_aret hC hr (Or.inl ⟨_, rfl⟩) (show decode prog_1_method_28_code 44 = .ok (.areturn, 1) by decide +kernel)) ?_
  exact trivial

def tb_Sc_isPrinted (X : xX) : List (Nat × xOp) := [(0, o_ild 0 1),
  (1, o_ic 32 3),
  (3, o_iclt 16 6),
  (6, o_ild 0 7),
  (7, o_ic 126 9),
  (9, o_icgt 16 12),
  (12, o_ic 1 13),
  (13, o_goto 17),
  (16, o_ic 0 17),
  (17, o_zret .boolean X.P)]
theorem tk_Sc_isPrinted {X : xX} (hC : xCx X prog_1_method_27_code "StyleCourt" 1 0) (hr : X.meth.sig.returnType = (some .boolean)) (hnh : X.c.exceptionTable.isEmpty = true) (hin : X.meth.name = "isPrinted") : xAll X (tb_Sc_isPrinted X) := by
  refine xA (ok_iload_n hC (show decode prog_1_method_27_code 0 = .ok (.iload_n 0, 1) by decide +kernel) rfl) ?_
  refine xA (ok_bipush hC (show decode prog_1_method_27_code 1 = .ok (.bipush 32, 2) by decide +kernel) (by decide)) ?_
  refine xA (ok_iclt hC (show decode prog_1_method_27_code 3 = .ok (.if_icmp .lt 13, 3) by decide +kernel) (by decide)) ?_
  refine xA (ok_iload_n hC (show decode prog_1_method_27_code 6 = .ok (.iload_n 0, 1) by decide +kernel) rfl) ?_
  refine xA (ok_bipush hC (show decode prog_1_method_27_code 7 = .ok (.bipush 126, 2) by decide +kernel) (by decide)) ?_
  refine xA (ok_icgt hC (show decode prog_1_method_27_code 9 = .ok (.if_icmp .gt 7, 3) by decide +kernel) (by decide)) ?_
  refine xA (ok_iconst hC (show decode prog_1_method_27_code 12 = .ok (.iconst 1, 1) by decide +kernel) (by decide)) ?_
  refine xA (ok_goto hC (show decode prog_1_method_27_code 13 = .ok (.goto 4, 3) by decide +kernel) (by decide)) ?_
  refine xA (ok_iconst hC (show decode prog_1_method_27_code 16 = .ok (.iconst 0, 1) by decide +kernel) (by decide)) ?_
  refine xA (ok_zret hC hr (show decode prog_1_method_27_code 17 = .ok (.ireturn, 1) by decide +kernel)) ?_
  exact trivial

def tb_Sc_style (X : xX) : List (Nat × xOp) := [(0, o_ald 0 1),
  (1, o_callV X.l X.D X.P 0 3 1 y_Sc_takeTape 4),
  (4, o_ast 1 5),
  (5, o_new 11 4 [.null, .null, .null, .int 0] 8),
  (8, o_dup 9),
  (9, o_callI X.l X.D X.P 4 1 y_Sy_init 12),
  (12, o_ast 2 13),
  (13, o_ic 0 14),
  (14, o_ist 3 15),
  (15, o_ild 3 16),
  (16, o_ald 1 17),
  (17, o_get 1 0 20),
  (20, o_len 21),
  (21, o_icge 61 24),
  (24, o_ald 1 25),
  (25, o_callV X.l X.D X.P 1 1 1 y_Rd_nextSign 28),
  (28, o_ic (-1) 29),
  (29, o_iceq 61 32),
  (32, o_new 10 2 [.null, .null] 35),
  (35, o_dup 36),
  (36, o_callI X.l X.D X.P 4 1 y_Ru_init 39),
  (39, o_ast 4 41),
  (41, o_ald 2 42),
  (42, o_ald 1 43),
  (43, o_ald 4 45),
  (45, o_callV X.l X.D X.P 11 11 3 y_Sy_readSelectors 48),
  (48, o_ald 2 49),
  (49, o_ald 1 50),
  (50, o_ald 4 52),
  (52, o_callV X.l X.D X.P 11 11 3 y_Sy_readBody 55),
  (55, o_inc 3 1 58),
  (58, o_goto 15),
  (61, o_ald 0 62),
  (62, o_ald 2 63),
  (63, o_put 0 9 (.object "StyleCourt$Style") 66),
  (66, o_ald 2 67),
  (67, o_get 11 1 70),
  (70, o_callV X.l X.D X.P 12 0 1 y_AL_size 73),
  (73, o_iret X.P)]
theorem tk_Sc_style {X : xX} (hC : xCx X prog_1_method_5_code "StyleCourt" 5 12) (hr : X.meth.sig.returnType = (some .int)) (hnh : X.c.exceptionTable.isEmpty = true) (hin : X.meth.name = "style") : xAll X (tb_Sc_style X) := by
  refine xA (ok_aload_n hC (show decode prog_1_method_5_code 0 = .ok (.aload_n 0, 1) by decide +kernel) rfl) ?_
  refine xA (ok_callV hC hnh (show decode prog_1_method_5_code 1 = .ok (.invokevirtual 84, 3) by decide +kernel) (by decide) (by decide) (by decide) (r0 := ("StyleCourt", xF0, 12)) rfl ⟨by decide, by decide, by decide +kernel⟩ w_570 w_69 w_567 w_569 w_5) ?_
  refine xA (ok_astore_n hC (show decode prog_1_method_5_code 4 = .ok (.astore_n 1, 1) by decide +kernel) rfl (by decide)) ?_
  refine xA (ok_new hC (show decode prog_1_method_5_code 5 = .ok (.new 52, 3) by decide +kernel) (by decide) (r0 := ("StyleCourt$Style", xF11, 4)) rfl (by decide) w_390 w_391 w_82) ?_
  refine xA (ok_dup hC (show decode prog_1_method_5_code 8 = .ok (.dup, 1) by decide +kernel)) ?_
  refine xA (ok_callIN hC hnh (show decode prog_1_method_5_code 9 = .ok (.invokespecial 54, 3) by decide +kernel) (by decide) (by decide) ⟨by decide, by decide, by decide +kernel⟩ rfl w_394 w_82 w_392 w_393) ?_
  refine xA (ok_astore_n hC (show decode prog_1_method_5_code 12 = .ok (.astore_n 2, 1) by decide +kernel) rfl (by decide)) ?_
  refine xA (ok_iconst hC (show decode prog_1_method_5_code 13 = .ok (.iconst 0, 1) by decide +kernel) (by decide)) ?_
  refine xA (ok_istore_n hC (show decode prog_1_method_5_code 14 = .ok (.istore_n 3, 1) by decide +kernel) rfl (by decide)) ?_
  refine xA (ok_iload_n hC (show decode prog_1_method_5_code 15 = .ok (.iload_n 3, 1) by decide +kernel) rfl) ?_
  refine xA (ok_aload_n hC (show decode prog_1_method_5_code 16 = .ok (.aload_n 1, 1) by decide +kernel) rfl) ?_
  refine xA (ok_get hC (show decode prog_1_method_5_code 17 = .ok (.getfield 88, 3) by decide +kernel) (by decide) (r0 := ("StyleCourt$Reader", xF1, 3)) rfl (by decide) rfl w_134) ?_
  refine xA (ok_len hC (show decode prog_1_method_5_code 20 = .ok (.arraylength, 1) by decide +kernel)) ?_
  refine xA (ok_icge hC (show decode prog_1_method_5_code 21 = .ok (.if_icmp .ge 40, 3) by decide +kernel) (by decide)) ?_
  refine xA (ok_aload_n hC (show decode prog_1_method_5_code 24 = .ok (.aload_n 1, 1) by decide +kernel) rfl) ?_
  refine xA (ok_callV hC hnh (show decode prog_1_method_5_code 25 = .ok (.invokevirtual 118, 3) by decide +kernel) (by decide) (by decide) (by decide) (r0 := ("StyleCourt$Reader", xF1, 3)) rfl ⟨by decide, by decide, by decide +kernel⟩ w_633 w_70 w_726 w_631 w_632) ?_
  refine xA (ok_iconst hC (show decode prog_1_method_5_code 28 = .ok (.iconst (-1), 1) by decide +kernel) (by decide)) ?_
  refine xA (ok_iceq hC (show decode prog_1_method_5_code 29 = .ok (.if_icmp .eq 32, 3) by decide +kernel) (by decide)) ?_
  refine xA (ok_new hC (show decode prog_1_method_5_code 32 = .ok (.new 121, 3) by decide +kernel) (by decide) (r0 := ("StyleCourt$Rule", xF10, 2)) rfl (by decide) w_727 w_728 w_92) ?_
  refine xA (ok_dup hC (show decode prog_1_method_5_code 35 = .ok (.dup, 1) by decide +kernel)) ?_
  refine xA (ok_callIN hC hnh (show decode prog_1_method_5_code 36 = .ok (.invokespecial 123, 3) by decide +kernel) (by decide) (by decide) ⟨by decide, by decide, by decide +kernel⟩ rfl w_731 w_92 w_729 w_730) ?_
  refine xA (ok_astore hC (show decode prog_1_method_5_code 39 = .ok (.astore 4, 2) by decide +kernel) (by decide)) ?_
  refine xA (ok_aload_n hC (show decode prog_1_method_5_code 41 = .ok (.aload_n 2, 1) by decide +kernel) rfl) ?_
  refine xA (ok_aload_n hC (show decode prog_1_method_5_code 42 = .ok (.aload_n 1, 1) by decide +kernel) rfl) ?_
  refine xA (ok_aload hC (show decode prog_1_method_5_code 43 = .ok (.aload 4, 2) by decide +kernel)) ?_
  refine xA (ok_callV hC hnh (show decode prog_1_method_5_code 45 = .ok (.invokevirtual 124, 3) by decide +kernel) (by decide) (by decide) (by decide) (r0 := ("StyleCourt$Style", xF11, 4)) rfl ⟨by decide, by decide, by decide +kernel⟩ w_747 w_82 w_744 w_745 w_746) ?_
  refine xA (ok_aload_n hC (show decode prog_1_method_5_code 48 = .ok (.aload_n 2, 1) by decide +kernel) rfl) ?_
  refine xA (ok_aload_n hC (show decode prog_1_method_5_code 49 = .ok (.aload_n 1, 1) by decide +kernel) rfl) ?_
  refine xA (ok_aload hC (show decode prog_1_method_5_code 50 = .ok (.aload 4, 2) by decide +kernel)) ?_
  refine xA (ok_callV hC hnh (show decode prog_1_method_5_code 52 = .ok (.invokevirtual 128, 3) by decide +kernel) (by decide) (by decide) (by decide) (r0 := ("StyleCourt$Style", xF11, 4)) rfl ⟨by decide, by decide, by decide +kernel⟩ w_902 w_82 w_899 w_900 w_901) ?_
  refine xA (ok_iinc hC (show decode prog_1_method_5_code 55 = .ok (.iinc 3 1, 3) by decide +kernel) (by decide) (by decide)) ?_
  refine xA (ok_goto hC (show decode prog_1_method_5_code 58 = .ok (.goto (-43), 3) by decide +kernel) (by decide)) ?_
  refine xA (ok_aload_n hC (show decode prog_1_method_5_code 61 = .ok (.aload_n 0, 1) by decide +kernel) rfl) ?_
  refine xA (ok_aload_n hC (show decode prog_1_method_5_code 62 = .ok (.aload_n 2, 1) by decide +kernel) rfl) ?_
  refine xA (ok_put hC (show decode prog_1_method_5_code 63 = .ok (.putfield 55, 3) by decide +kernel) (by decide) (r0 := ("StyleCourt", xF0, 12)) rfl (by decide) rfl (by decide +kernel) w_424) ?_
  refine xA (ok_aload_n hC (show decode prog_1_method_5_code 66 = .ok (.aload_n 2, 1) by decide +kernel) rfl) ?_
  refine xA (ok_get hC (show decode prog_1_method_5_code 67 = .ok (.getfield 131, 3) by decide +kernel) (by decide) (r0 := ("StyleCourt$Style", xF11, 4)) rfl (by decide) rfl w_400) ?_
  refine xA (ok_callV hC hnh (show decode prog_1_method_5_code 70 = .ok (.invokevirtual 113, 3) by decide +kernel) (by decide) (by decide) (by decide) (r0 := ("java/util/ArrayList", xF12, 3)) rfl ⟨by decide, by decide, by decide +kernel⟩ w_644 w_77 w_658 w_642 w_643) ?_
  refine xA (ok_iret hC hr (show decode prog_1_method_5_code 73 = .ok (.ireturn, 1) by decide +kernel)) ?_
  exact trivial

def tb_Sc_property (X : xX) : List (Nat × xOp) := [(0, o_ald 0 1),
  (1, o_callV X.l X.D X.P 0 2 1 y_Sc_takeName 4),
  (4, o_ast 2 5),
  (5, o_ald 0 6),
  (6, o_ild 1 7),
  (7, o_callV X.l X.D X.P 0 6 2 y_Sc_elementAt 10),
  (10, o_ast 3 11),
  (11, o_ald 0 12),
  (12, o_get 0 9 15),
  (15, o_ald 2 16),
  (16, o_callV X.l X.D X.P 11 3 2 y_Sy_numberOfName 19),
  (19, o_ist 4 21),
  (21, o_ic 0 22),
  (22, o_ist 5 24),
  (24, o_ald 0 25),
  (25, o_get 0 9 28),
  (28, o_ald 3 29),
  (29, o_ild 4 31),
  (31, o_ald 0 32),
  (32, o_get 0 10 35),
  (35, o_callV X.l X.D X.P 11 8 4 y_Sy_countingFor 38),
  (38, o_ast 6 40),
  (40, o_ic 0 41),
  (41, o_ist 7 43),
  (43, o_ild 7 45),
  (45, o_ic 20 47),
  (47, o_icge 113 50),
  (50, o_ald 6 52),
  (52, o_nul 113 55),
  (55, o_ald 6 57),
  (57, o_callV X.l X.D X.P 9 6 1 y_To_leansOnOuter 60),
  (60, o_ifeq 113 63),
  (63, o_ald 6 65),
  (65, o_get 9 5 68),
  (68, o_ifle 86 71),
  (71, o_ald 0 72),
  (72, o_get 0 11 75),
  (75, o_ild 5 77),
  (77, o_ald 6 79),
  (79, o_get 9 5 82),
  (82, o_iast 0 83),
  (83, o_inc 5 1 86),
  (86, o_ald 3 87),
  (87, o_get 4 1 90),
  (90, o_ast 3 91),
  (91, o_ald 0 92),
  (92, o_get 0 9 95),
  (95, o_ald 3 96),
  (96, o_ild 4 98),
  (98, o_ald 0 99),
  (99, o_get 0 10 102),
  (102, o_callV X.l X.D X.P 11 8 4 y_Sy_countingFor 105),
  (105, o_ast 6 107),
  (107, o_inc 7 1 110),
  (110, o_goto 43),
  (113, o_ald 0 114),
  (114, o_ald 6 116),
  (116, o_ild 5 118),
  (118, o_callV X.l X.D X.P 0 3 3 y_Sc_putValue 121),
  (121, o_iret X.P)]
theorem tk_Sc_property {X : xX} (hC : xCx X prog_1_method_7_code "StyleCourt" 8 9) (hr : X.meth.sig.returnType = (some .int)) (hnh : X.c.exceptionTable.isEmpty = true) (hin : X.meth.name = "property") : xAll X (tb_Sc_property X) := by
  refine xA (ok_aload_n hC (show decode prog_1_method_7_code 0 = .ok (.aload_n 0, 1) by decide +kernel) rfl) ?_
  refine xA (ok_callV hC hnh (show decode prog_1_method_7_code 1 = .ok (.invokevirtual 137, 3) by decide +kernel) (by decide) (by decide) (by decide) (r0 := ("StyleCourt", xF0, 12)) rfl ⟨by decide, by decide, by decide +kernel⟩ w_976 w_69 w_973 w_975 w_18) ?_
  refine xA (ok_astore_n hC (show decode prog_1_method_7_code 4 = .ok (.astore_n 2, 1) by decide +kernel) rfl (by decide)) ?_
  refine xA (ok_aload_n hC (show decode prog_1_method_7_code 5 = .ok (.aload_n 0, 1) by decide +kernel) rfl) ?_
  refine xA (ok_iload_n hC (show decode prog_1_method_7_code 6 = .ok (.iload_n 1, 1) by decide +kernel) rfl) ?_
  refine xA (ok_callV hC hnh (show decode prog_1_method_7_code 7 = .ok (.invokevirtual 141, 3) by decide +kernel) (by decide) (by decide) (by decide) (r0 := ("StyleCourt", xF0, 12)) rfl ⟨by decide, by decide, by decide +kernel⟩ w_982 w_69 w_979 w_981 w_19) ?_
  refine xA (ok_astore_n hC (show decode prog_1_method_7_code 10 = .ok (.astore_n 3, 1) by decide +kernel) rfl (by decide)) ?_
  refine xA (ok_aload_n hC (show decode prog_1_method_7_code 11 = .ok (.aload_n 0, 1) by decide +kernel) rfl) ?_
  refine xA (ok_get hC (show decode prog_1_method_7_code 12 = .ok (.getfield 55, 3) by decide +kernel) (by decide) (r0 := ("StyleCourt", xF0, 12)) rfl (by decide) rfl w_424) ?_
  refine xA (ok_aload_n hC (show decode prog_1_method_7_code 15 = .ok (.aload_n 2, 1) by decide +kernel) rfl) ?_
  refine xA (ok_callV hC hnh (show decode prog_1_method_7_code 16 = .ok (.invokevirtual 145, 3) by decide +kernel) (by decide) (by decide) (by decide) (r0 := ("StyleCourt$Style", xF11, 4)) rfl ⟨by decide, by decide, by decide +kernel⟩ w_912 w_82 w_984 w_910 w_911) ?_
  refine xA (ok_istore hC (show decode prog_1_method_7_code 19 = .ok (.istore 4, 2) by decide +kernel) (by decide)) ?_
  refine xA (ok_iconst hC (show decode prog_1_method_7_code 21 = .ok (.iconst 0, 1) by decide +kernel) (by decide)) ?_
  refine xA (ok_istore hC (show decode prog_1_method_7_code 22 = .ok (.istore 5, 2) by decide +kernel) (by decide)) ?_
  refine xA (ok_aload_n hC (show decode prog_1_method_7_code 24 = .ok (.aload_n 0, 1) by decide +kernel) rfl) ?_
  refine xA (ok_get hC (show decode prog_1_method_7_code 25 = .ok (.getfield 55, 3) by decide +kernel) (by decide) (r0 := ("StyleCourt", xF0, 12)) rfl (by decide) rfl w_424) ?_
  refine xA (ok_aload_n hC (show decode prog_1_method_7_code 28 = .ok (.aload_n 3, 1) by decide +kernel) rfl) ?_
  refine xA (ok_iload hC (show decode prog_1_method_7_code 29 = .ok (.iload 4, 2) by decide +kernel)) ?_
  refine xA (ok_aload_n hC (show decode prog_1_method_7_code 31 = .ok (.aload_n 0, 1) by decide +kernel) rfl) ?_
  refine xA (ok_get hC (show decode prog_1_method_7_code 32 = .ok (.getfield 61, 3) by decide +kernel) (by decide) (r0 := ("StyleCourt", xF0, 12)) rfl (by decide) rfl w_425) ?_
  refine xA (ok_callV hC hnh (show decode prog_1_method_7_code 35 = .ok (.invokevirtual 149, 3) by decide +kernel) (by decide) (by decide) (by decide) (r0 := ("StyleCourt$Style", xF11, 4)) rfl ⟨by decide, by decide, by decide +kernel⟩ w_988 w_82 w_985 w_986 w_987) ?_
  refine xA (ok_astore hC (show decode prog_1_method_7_code 38 = .ok (.astore 6, 2) by decide +kernel) (by decide)) ?_
  refine xA (ok_iconst hC (show decode prog_1_method_7_code 40 = .ok (.iconst 0, 1) by decide +kernel) (by decide)) ?_
  refine xA (ok_istore hC (show decode prog_1_method_7_code 41 = .ok (.istore 7, 2) by decide +kernel) (by decide)) ?_
  refine xA (ok_iload hC (show decode prog_1_method_7_code 43 = .ok (.iload 7, 2) by decide +kernel)) ?_
  refine xA (ok_bipush hC (show decode prog_1_method_7_code 45 = .ok (.bipush 20, 2) by decide +kernel) (by decide)) ?_
  refine xA (ok_icge hC (show decode prog_1_method_7_code 47 = .ok (.if_icmp .ge 66, 3) by decide +kernel) (by decide)) ?_
  refine xA (ok_aload hC (show decode prog_1_method_7_code 50 = .ok (.aload 6, 2) by decide +kernel)) ?_
  refine xA (ok_ifnull hC (show decode prog_1_method_7_code 52 = .ok (.ifnull 61, 3) by decide +kernel) (by decide)) ?_
  refine xA (ok_aload hC (show decode prog_1_method_7_code 55 = .ok (.aload 6, 2) by decide +kernel)) ?_
  refine xA (ok_callV hC hnh (show decode prog_1_method_7_code 57 = .ok (.invokevirtual 153, 3) by decide +kernel) (by decide) (by decide) (by decide) (r0 := ("StyleCourt$Told", xF9, 7)) rfl ⟨by decide, by decide, by decide +kernel⟩ w_1038 w_99 w_1035 w_1036 w_1037) ?_
  refine xA (ok_ifeq hC (show decode prog_1_method_7_code 60 = .ok (.ifCond .eq 53, 3) by decide +kernel) (by decide)) ?_
  refine xA (ok_aload hC (show decode prog_1_method_7_code 63 = .ok (.aload 6, 2) by decide +kernel)) ?_
  refine xA (ok_get hC (show decode prog_1_method_7_code 65 = .ok (.getfield 159, 3) by decide +kernel) (by decide) (r0 := ("StyleCourt$Told", xF9, 7)) rfl (by decide) rfl w_933) ?_
  refine xA (ok_ifle hC (show decode prog_1_method_7_code 68 = .ok (.ifCond .le 18, 3) by decide +kernel) (by decide)) ?_
  refine xA (ok_aload_n hC (show decode prog_1_method_7_code 71 = .ok (.aload_n 0, 1) by decide +kernel) rfl) ?_
  refine xA (ok_get hC (show decode prog_1_method_7_code 72 = .ok (.getfield 65, 3) by decide +kernel) (by decide) (r0 := ("StyleCourt", xF0, 12)) rfl (by decide) rfl w_426) ?_
  refine xA (ok_iload hC (show decode prog_1_method_7_code 75 = .ok (.iload 5, 2) by decide +kernel)) ?_
  refine xA (ok_aload hC (show decode prog_1_method_7_code 77 = .ok (.aload 6, 2) by decide +kernel)) ?_
  refine xA (ok_get hC (show decode prog_1_method_7_code 79 = .ok (.getfield 159, 3) by decide +kernel) (by decide) (r0 := ("StyleCourt$Told", xF9, 7)) rfl (by decide) rfl w_933) ?_
  refine xA (ok_iast hC (show decode prog_1_method_7_code 82 = .ok (.iastore, 1) by decide +kernel) (by decide) rfl) ?_
  refine xA (ok_iinc hC (show decode prog_1_method_7_code 83 = .ok (.iinc 5 1, 3) by decide +kernel) (by decide) (by decide)) ?_
  refine xA (ok_aload_n hC (show decode prog_1_method_7_code 86 = .ok (.aload_n 3, 1) by decide +kernel) rfl) ?_
  refine xA (ok_get hC (show decode prog_1_method_7_code 87 = .ok (.getfield 162, 3) by decide +kernel) (by decide) (r0 := ("StyleCourt$Element", xF4, 15)) rfl (by decide) rfl w_224) ?_
  refine xA (ok_astore_n hC (show decode prog_1_method_7_code 90 = .ok (.astore_n 3, 1) by decide +kernel) rfl (by decide)) ?_
  refine xA (ok_aload_n hC (show decode prog_1_method_7_code 91 = .ok (.aload_n 0, 1) by decide +kernel) rfl) ?_
  refine xA (ok_get hC (show decode prog_1_method_7_code 92 = .ok (.getfield 55, 3) by decide +kernel) (by decide) (r0 := ("StyleCourt", xF0, 12)) rfl (by decide) rfl w_424) ?_
  refine xA (ok_aload_n hC (show decode prog_1_method_7_code 95 = .ok (.aload_n 3, 1) by decide +kernel) rfl) ?_
  refine xA (ok_iload hC (show decode prog_1_method_7_code 96 = .ok (.iload 4, 2) by decide +kernel)) ?_
  refine xA (ok_aload_n hC (show decode prog_1_method_7_code 98 = .ok (.aload_n 0, 1) by decide +kernel) rfl) ?_
  refine xA (ok_get hC (show decode prog_1_method_7_code 99 = .ok (.getfield 61, 3) by decide +kernel) (by decide) (r0 := ("StyleCourt", xF0, 12)) rfl (by decide) rfl w_425) ?_
  refine xA (ok_callV hC hnh (show decode prog_1_method_7_code 102 = .ok (.invokevirtual 149, 3) by decide +kernel) (by decide) (by decide) (by decide) (r0 := ("StyleCourt$Style", xF11, 4)) rfl ⟨by decide, by decide, by decide +kernel⟩ w_988 w_82 w_985 w_986 w_987) ?_
  refine xA (ok_astore hC (show decode prog_1_method_7_code 105 = .ok (.astore 6, 2) by decide +kernel) (by decide)) ?_
  refine xA (ok_iinc hC (show decode prog_1_method_7_code 107 = .ok (.iinc 7 1, 3) by decide +kernel) (by decide) (by decide)) ?_
  refine xA (ok_goto hC (show decode prog_1_method_7_code 110 = .ok (.goto (-67), 3) by decide +kernel) (by decide)) ?_
  refine xA (ok_aload_n hC (show decode prog_1_method_7_code 113 = .ok (.aload_n 0, 1) by decide +kernel) rfl) ?_
  refine xA (ok_aload hC (show decode prog_1_method_7_code 114 = .ok (.aload 6, 2) by decide +kernel)) ?_
  refine xA (ok_iload hC (show decode prog_1_method_7_code 116 = .ok (.iload 5, 2) by decide +kernel)) ?_
  refine xA (ok_callV hC hnh (show decode prog_1_method_7_code 118 = .ok (.invokevirtual 165, 3) by decide +kernel) (by decide) (by decide) (by decide) (r0 := ("StyleCourt", xF0, 12)) rfl ⟨by decide, by decide, by decide +kernel⟩ w_1044 w_69 w_1041 w_1043 w_21) ?_
  refine xA (ok_iret hC hr (show decode prog_1_method_7_code 121 = .ok (.ireturn, 1) by decide +kernel)) ?_
  exact trivial

def tb_Sc_takeName (X : xX) : List (Nat × xOp) := [(0, o_new 2 3 [.null, .int 0, .int 0] 3),
  (3, o_dup 4),
  (4, o_ald 0 5),
  (5, o_get 0 0 8),
  (8, o_ic 0 9),
  (9, o_ald 0 10),
  (10, o_get 0 1 13),
  (13, o_callI X.l X.D X.P 1 4 y_Sl_init 16),
  (16, o_ast 1 17),
  (17, o_ald 0 18),
  (18, o_ic 0 19),
  (19, o_put 0 1 (.int) 22),
  (22, o_ald 1 23),
  (23, o_aret X.P)]
theorem tk_Sc_takeName {X : xX} (hC : xCx X prog_1_method_18_code "StyleCourt" 2 2) (hr : X.meth.sig.returnType = (some (.object "StyleCourt$Slice"))) (hnh : X.c.exceptionTable.isEmpty = true) (hin : X.meth.name = "takeName") : xAll X (tb_Sc_takeName X) := by
  refine xA (ok_new hC (show decode prog_1_method_18_code 0 = .ok (.new 249, 3) by decide +kernel) (by decide) (r0 := ("StyleCourt$Slice", xF2, 3)) rfl (by decide) w_977 w_189 w_79) ?_
  refine xA (ok_dup hC (show decode prog_1_method_18_code 3 = .ok (.dup, 1) by decide +kernel)) ?_
  refine xA (ok_aload_n hC (show decode prog_1_method_18_code 4 = .ok (.aload_n 0, 1) by decide +kernel) rfl) ?_
  refine xA (ok_get hC (show decode prog_1_method_18_code 5 = .ok (.getfield 9, 3) by decide +kernel) (by decide) (r0 := ("StyleCourt", xF0, 12)) rfl (by decide) rfl w_415) ?_
  refine xA (ok_iconst hC (show decode prog_1_method_18_code 8 = .ok (.iconst 0, 1) by decide +kernel) (by decide)) ?_
  refine xA (ok_aload_n hC (show decode prog_1_method_18_code 9 = .ok (.aload_n 0, 1) by decide +kernel) rfl) ?_
  refine xA (ok_get hC (show decode prog_1_method_18_code 10 = .ok (.getfield 13, 3) by decide +kernel) (by decide) (r0 := ("StyleCourt", xF0, 12)) rfl (by decide) rfl w_416) ?_
  refine xA (ok_callI hC hnh (show decode prog_1_method_18_code 13 = .ok (.invokespecial 251, 3) by decide +kernel) (by decide) (by decide) ⟨by decide, by decide, by decide +kernel⟩ rfl w_193 w_79 w_978 w_192) ?_
  refine xA (ok_astore_n hC (show decode prog_1_method_18_code 16 = .ok (.astore_n 1, 1) by decide +kernel) rfl (by decide)) ?_
  refine xA (ok_aload_n hC (show decode prog_1_method_18_code 17 = .ok (.aload_n 0, 1) by decide +kernel) rfl) ?_
  refine xA (ok_iconst hC (show decode prog_1_method_18_code 18 = .ok (.iconst 0, 1) by decide +kernel) (by decide)) ?_
  refine xA (ok_put hC (show decode prog_1_method_18_code 19 = .ok (.putfield 13, 3) by decide +kernel) (by decide) (r0 := ("StyleCourt", xF0, 12)) rfl (by decide) rfl (by decide +kernel) w_416) ?_
  refine xA (ok_aload_n hC (show decode prog_1_method_18_code 22 = .ok (.aload_n 1, 1) by decide +kernel) rfl) ?_
  refine xA (ok_aret hC hr (Or.inl ⟨_, rfl⟩) (show decode prog_1_method_18_code 23 = .ok (.areturn, 1) by decide +kernel)) ?_
  exact trivial

def tb_Sc_elementAt (X : xX) : List (Nat × xOp) := [(0, o_ild 1 1),
  (1, o_iflt 18 4),
  (4, o_ild 1 5),
  (5, o_ald 0 6),
  (6, o_get 0 8 9),
  (9, o_get 5 0 12),
  (12, o_callV X.l X.D X.P 12 0 1 y_AL_size 15),
  (15, o_iclt 28 18),
  (18, o_throw X.P 15),
  (28, o_ald 0 29),
  (29, o_get 0 8 32),
  (32, o_get 5 0 35),
  (35, o_ild 1 36),
  (36, o_callV X.l X.D X.P 12 2 2 y_AL_get 39),
  (39, o_cast (Nat.beq 4) 42),
  (42, o_aret X.P)]
theorem tk_Sc_elementAt {X : xX} (hC : xCx X prog_1_method_19_code "StyleCourt" 2 6) (hr : X.meth.sig.returnType = (some (.object "StyleCourt$Element"))) (hnh : X.c.exceptionTable.isEmpty = true) (hin : X.meth.name = "elementAt") : xAll X (tb_Sc_elementAt X) := by
  refine xA (ok_iload_n hC (show decode prog_1_method_19_code 0 = .ok (.iload_n 1, 1) by decide +kernel) rfl) ?_
  refine xA (ok_iflt hC (show decode prog_1_method_19_code 1 = .ok (.ifCond .lt 17, 3) by decide +kernel) (by decide)) ?_
  refine xA (ok_iload_n hC (show decode prog_1_method_19_code 4 = .ok (.iload_n 1, 1) by decide +kernel) rfl) ?_
  refine xA (ok_aload_n hC (show decode prog_1_method_19_code 5 = .ok (.aload_n 0, 1) by decide +kernel) rfl) ?_
  refine xA (ok_get hC (show decode prog_1_method_19_code 6 = .ok (.getfield 48, 3) by decide +kernel) (by decide) (r0 := ("StyleCourt", xF0, 12)) rfl (by decide) rfl w_423) ?_
  refine xA (ok_get hC (show decode prog_1_method_19_code 9 = .ok (.getfield 109, 3) by decide +kernel) (by decide) (r0 := ("StyleCourt$Source", xF5, 5)) rfl (by decide) rfl w_371) ?_
  refine xA (ok_callV hC hnh (show decode prog_1_method_19_code 12 = .ok (.invokevirtual 113, 3) by decide +kernel) (by decide) (by decide) (by decide) (r0 := ("java/util/ArrayList", xF12, 3)) rfl ⟨by decide, by decide, by decide +kernel⟩ w_644 w_77 w_658 w_642 w_643) ?_
  refine xA (ok_iclt hC (show decode prog_1_method_19_code 15 = .ok (.if_icmp .lt 13, 3) by decide +kernel) (by decide)) ?_
  refine xA (ok_throw hC hnh ["java/lang/RuntimeException", "java/lang/Exception"] (show decode prog_1_method_19_code 18 = .ok (.new 79, 3) by decide +kernel) (show decode prog_1_method_19_code 21 = .ok (.dup, 1) by decide +kernel) (show decode prog_1_method_19_code 22 = .ok (.ldc 254, 2) by decide +kernel) (show decode prog_1_method_19_code 24 = .ok (.invokespecial 83, 3) by decide +kernel) (show decode prog_1_method_19_code 27 = .ok (.athrow, 1) by decide +kernel) (by decide) (r0 := ("java/lang/IllegalArgumentException", xF15, 0)) rfl rfl w_543 w_88 (j := 8) rfl (by decide +kernel) (by decide +kernel) (ow_Sc_83 ) (by decide) (by decide)) ?_
  refine xA (ok_aload_n hC (show decode prog_1_method_19_code 28 = .ok (.aload_n 0, 1) by decide +kernel) rfl) ?_
  refine xA (ok_get hC (show decode prog_1_method_19_code 29 = .ok (.getfield 48, 3) by decide +kernel) (by decide) (r0 := ("StyleCourt", xF0, 12)) rfl (by decide) rfl w_423) ?_
  refine xA (ok_get hC (show decode prog_1_method_19_code 32 = .ok (.getfield 109, 3) by decide +kernel) (by decide) (r0 := ("StyleCourt$Source", xF5, 5)) rfl (by decide) rfl w_371) ?_
  refine xA (ok_iload_n hC (show decode prog_1_method_19_code 35 = .ok (.iload_n 1, 1) by decide +kernel) rfl) ?_
  refine xA (ok_callV hC hnh (show decode prog_1_method_19_code 36 = .ok (.invokevirtual 184, 3) by decide +kernel) (by decide) (by decide) (by decide) (r0 := ("java/util/ArrayList", xF12, 3)) rfl ⟨by decide, by decide, by decide +kernel⟩ w_662 w_77 w_659 w_660 w_661) ?_
  refine xA (ok_cast hC (show decode prog_1_method_19_code 39 = .ok (.checkcast 59, 3) by decide +kernel) w_413 (xcast_ok (r0 := ("StyleCourt$Element", xF4, 15)) (by decide) rfl rfl)) ?_
  refine xA (ok_aret hC hr (Or.inl ⟨_, rfl⟩) (show decode prog_1_method_19_code 42 = .ok (.areturn, 1) by decide +kernel)) ?_
  exact trivial

def tb_Sc_putValue (X : xX) : List (Nat × xOp) := [(0, o_ald 0 1),
  (1, o_ic 0 2),
  (2, o_put 0 3 (.int) 5),
  (5, o_ald 1 6),
  (6, o_nul 21 9),
  (9, o_ild 2 10),
  (10, o_ifle 23 13),
  (13, o_ald 1 14),
  (14, o_get 9 2 17),
  (17, o_ic 2 18),
  (18, o_iceq 23 21),
  (21, o_ic 0 22),
  (22, o_iret X.P),
  (23, o_ald 1 24),
  (24, o_get 9 2 27),
  (27, o_ic 2 28),
  (28, o_iceq 45 31),
  (31, o_ald 0 32),
  (32, o_ald 1 33),
  (33, o_get 9 3 36),
  (36, o_callV X.l X.D X.P 0 2 2 y_Sc_putSlice 39),
  (39, o_pop 40),
  (40, o_ald 1 41),
  (41, o_get 9 2 44),
  (44, o_iret X.P),
  (45, o_ald 1 46),
  (46, o_get 9 4 49),
  (49, o_i2l 50),
  (50, o_lst 3 51),
  (51, o_ild 2 52),
  (52, o_ic 1 53),
  (53, o_isub 54),
  (54, o_ist 5 56),
  (56, o_ild 5 58),
  (58, o_iflt 88 61),
  (61, o_lld 3 62),
  (62, o_ald 0 63),
  (63, o_get 0 11 66),
  (66, o_ild 5 68),
  (68, o_ld 0 69),
  (69, o_i2l 70),
  (70, o_lmul 71),
  (71, o_lc 100 74),
  (74, o_ldiv 75),
  (75, o_lc 9999999 78),
  (78, o_minL 81),
  (81, o_lst 3 82),
  (82, o_inc 5 (-1) 85),
  (85, o_goto 56),
  (88, o_ald 0 89),
  (89, o_lld 3 90),
  (90, o_l2i 91),
  (91, o_callV X.l X.D X.P 0 0 2 y_Sc_putNumber 94),
  (94, o_ic 2 95),
  (95, o_iret X.P)]
theorem tk_Sc_putValue {X : xX} (hC : xCx X prog_1_method_20_code "StyleCourt" 6 3) (hr : X.meth.sig.returnType = (some .int)) (hnh : X.c.exceptionTable.isEmpty = true) (hin : X.meth.name = "putValue") : xAll X (tb_Sc_putValue X) := by
  refine xA (ok_aload_n hC (show decode prog_1_method_20_code 0 = .ok (.aload_n 0, 1) by decide +kernel) rfl) ?_
  refine xA (ok_iconst hC (show decode prog_1_method_20_code 1 = .ok (.iconst 0, 1) by decide +kernel) (by decide)) ?_
  refine xA (ok_put hC (show decode prog_1_method_20_code 2 = .ok (.putfield 20, 3) by decide +kernel) (by decide) (r0 := ("StyleCourt", xF0, 12)) rfl (by decide) rfl (by decide +kernel) w_418) ?_
  refine xA (ok_aload_n hC (show decode prog_1_method_20_code 5 = .ok (.aload_n 1, 1) by decide +kernel) rfl) ?_
  refine xA (ok_ifnull hC (show decode prog_1_method_20_code 6 = .ok (.ifnull 15, 3) by decide +kernel) (by decide)) ?_
  refine xA (ok_iload_n hC (show decode prog_1_method_20_code 9 = .ok (.iload_n 2, 1) by decide +kernel) rfl) ?_
  refine xA (ok_ifle hC (show decode prog_1_method_20_code 10 = .ok (.ifCond .le 13, 3) by decide +kernel) (by decide)) ?_
  refine xA (ok_aload_n hC (show decode prog_1_method_20_code 13 = .ok (.aload_n 1, 1) by decide +kernel) rfl) ?_
  refine xA (ok_get hC (show decode prog_1_method_20_code 14 = .ok (.getfield 256, 3) by decide +kernel) (by decide) (r0 := ("StyleCourt$Told", xF9, 7)) rfl (by decide) rfl w_927) ?_
  refine xA (ok_iconst hC (show decode prog_1_method_20_code 17 = .ok (.iconst 2, 1) by decide +kernel) (by decide)) ?_
  refine xA (ok_iceq hC (show decode prog_1_method_20_code 18 = .ok (.if_icmp .eq 5, 3) by decide +kernel) (by decide)) ?_
  refine xA (ok_iconst hC (show decode prog_1_method_20_code 21 = .ok (.iconst 0, 1) by decide +kernel) (by decide)) ?_
  refine xA (ok_iret hC hr (show decode prog_1_method_20_code 22 = .ok (.ireturn, 1) by decide +kernel)) ?_
  refine xA (ok_aload_n hC (show decode prog_1_method_20_code 23 = .ok (.aload_n 1, 1) by decide +kernel) rfl) ?_
  refine xA (ok_get hC (show decode prog_1_method_20_code 24 = .ok (.getfield 256, 3) by decide +kernel) (by decide) (r0 := ("StyleCourt$Told", xF9, 7)) rfl (by decide) rfl w_927) ?_
  refine xA (ok_iconst hC (show decode prog_1_method_20_code 27 = .ok (.iconst 2, 1) by decide +kernel) (by decide)) ?_
  refine xA (ok_iceq hC (show decode prog_1_method_20_code 28 = .ok (.if_icmp .eq 17, 3) by decide +kernel) (by decide)) ?_
  refine xA (ok_aload_n hC (show decode prog_1_method_20_code 31 = .ok (.aload_n 0, 1) by decide +kernel) rfl) ?_
  refine xA (ok_aload_n hC (show decode prog_1_method_20_code 32 = .ok (.aload_n 1, 1) by decide +kernel) rfl) ?_
  refine xA (ok_get hC (show decode prog_1_method_20_code 33 = .ok (.getfield 259, 3) by decide +kernel) (by decide) (r0 := ("StyleCourt$Told", xF9, 7)) rfl (by decide) rfl w_929) ?_
  refine xA (ok_callV hC hnh (show decode prog_1_method_20_code 36 = .ok (.invokevirtual 233, 3) by decide +kernel) (by decide) (by decide) (by decide) (r0 := ("StyleCourt", xF0, 12)) rfl ⟨by decide, by decide, by decide +kernel⟩ w_1048 w_69 w_1045 w_1047 w_22) ?_
  refine xA (ok_pop hC (show decode prog_1_method_20_code 39 = .ok (.pop, 1) by decide +kernel)) ?_
  refine xA (ok_aload_n hC (show decode prog_1_method_20_code 40 = .ok (.aload_n 1, 1) by decide +kernel) rfl) ?_
  refine xA (ok_get hC (show decode prog_1_method_20_code 41 = .ok (.getfield 256, 3) by decide +kernel) (by decide) (r0 := ("StyleCourt$Told", xF9, 7)) rfl (by decide) rfl w_927) ?_
  refine xA (ok_iret hC hr (show decode prog_1_method_20_code 44 = .ok (.ireturn, 1) by decide +kernel)) ?_
  refine xA (ok_aload_n hC (show decode prog_1_method_20_code 45 = .ok (.aload_n 1, 1) by decide +kernel) rfl) ?_
  refine xA (ok_get hC (show decode prog_1_method_20_code 46 = .ok (.getfield 260, 3) by decide +kernel) (by decide) (r0 := ("StyleCourt$Told", xF9, 7)) rfl (by decide) rfl w_931) ?_
  refine xA (ok_i2l hC (show decode prog_1_method_20_code 49 = .ok (.i2l, 1) by decide +kernel)) ?_
  refine xA (ok_lstore_n hC (show decode prog_1_method_20_code 50 = .ok (.lstore_n 3, 1) by decide +kernel) rfl (by decide)) ?_
  refine xA (ok_iload_n hC (show decode prog_1_method_20_code 51 = .ok (.iload_n 2, 1) by decide +kernel) rfl) ?_
  refine xA (ok_iconst hC (show decode prog_1_method_20_code 52 = .ok (.iconst 1, 1) by decide +kernel) (by decide)) ?_
  refine xA (ok_isub hC (show decode prog_1_method_20_code 53 = .ok (.isub, 1) by decide +kernel)) ?_
  refine xA (ok_istore hC (show decode prog_1_method_20_code 54 = .ok (.istore 5, 2) by decide +kernel) (by decide)) ?_
  refine xA (ok_iload hC (show decode prog_1_method_20_code 56 = .ok (.iload 5, 2) by decide +kernel)) ?_
  refine xA (ok_iflt hC (show decode prog_1_method_20_code 58 = .ok (.ifCond .lt 30, 3) by decide +kernel) (by decide)) ?_
  refine xA (ok_lload_n hC (show decode prog_1_method_20_code 61 = .ok (.lload_n 3, 1) by decide +kernel) rfl) ?_
  refine xA (ok_aload_n hC (show decode prog_1_method_20_code 62 = .ok (.aload_n 0, 1) by decide +kernel) rfl) ?_
  refine xA (ok_get hC (show decode prog_1_method_20_code 63 = .ok (.getfield 65, 3) by decide +kernel) (by decide) (r0 := ("StyleCourt", xF0, 12)) rfl (by decide) rfl w_426) ?_
  refine xA (ok_iload hC (show decode prog_1_method_20_code 66 = .ok (.iload 5, 2) by decide +kernel)) ?_
  refine xA (ok_iald hC (show decode prog_1_method_20_code 68 = .ok (.iaload, 1) by decide +kernel) (by decide) rfl) ?_
  refine xA (ok_i2l hC (show decode prog_1_method_20_code 69 = .ok (.i2l, 1) by decide +kernel)) ?_
  refine xA (ok_lmul hC (show decode prog_1_method_20_code 70 = .ok (.lmul, 1) by decide +kernel)) ?_
  refine xA (ok_ldc2 hC (show decode prog_1_method_20_code 71 = .ok (.ldc2_w 261, 3) by decide +kernel) w_1056) ?_
  refine xA (ok_ldiv hC (show decode prog_1_method_20_code 74 = .ok (.ldiv, 1) by decide +kernel)) ?_
  refine xA (ok_ldc2 hC (show decode prog_1_method_20_code 75 = .ok (.ldc2_w 263, 3) by decide +kernel) w_1057) ?_
  refine xA (ok_minL hC (by decide) (show decode prog_1_method_20_code 78 = .ok (.invokestatic 265, 3) by decide +kernel) w_1058 w_1059 w_72 w_1060) ?_
  refine xA (ok_lstore_n hC (show decode prog_1_method_20_code 81 = .ok (.lstore_n 3, 1) by decide +kernel) rfl (by decide)) ?_
  refine xA (ok_iinc hC (show decode prog_1_method_20_code 82 = .ok (.iinc 5 (-1), 3) by decide +kernel) (by decide) (by decide)) ?_
  refine xA (ok_goto hC (show decode prog_1_method_20_code 85 = .ok (.goto (-29), 3) by decide +kernel) (by decide)) ?_
  refine xA (ok_aload_n hC (show decode prog_1_method_20_code 88 = .ok (.aload_n 0, 1) by decide +kernel) rfl) ?_
  refine xA (ok_lload_n hC (show decode prog_1_method_20_code 89 = .ok (.lload_n 3, 1) by decide +kernel) rfl) ?_
  refine xA (ok_l2i hC (show decode prog_1_method_20_code 90 = .ok (.l2i, 1) by decide +kernel)) ?_
  refine xA (ok_callV hC hnh (show decode prog_1_method_20_code 91 = .ok (.invokevirtual 271, 3) by decide +kernel) (by decide) (by decide) (by decide) (r0 := ("StyleCourt", xF0, 12)) rfl ⟨by decide, by decide, by decide +kernel⟩ w_1064 w_69 w_1061 w_1063 w_23) ?_
  refine xA (ok_iconst hC (show decode prog_1_method_20_code 94 = .ok (.iconst 2, 1) by decide +kernel) (by decide)) ?_
  refine xA (ok_iret hC hr (show decode prog_1_method_20_code 95 = .ok (.ireturn, 1) by decide +kernel)) ?_
  exact trivial

def tb_Sc_putSlice (X : xX) : List (Nat × xOp) := [(0, o_ald 0 1),
  (1, o_ald 1 2),
  (2, o_ald 0 3),
  (3, o_get 0 2 6),
  (6, o_ic 0 7),
  (7, o_callV X.l X.D X.P 2 1 3 y_Sl_copyTo 10),
  (10, o_put 0 3 (.int) 13),
  (13, o_ald 0 14),
  (14, o_get 0 3 17),
  (17, o_iret X.P)]
theorem tk_Sc_putSlice {X : xX} (hC : xCx X prog_1_method_22_code "StyleCourt" 2 2) (hr : X.meth.sig.returnType = (some .int)) (hnh : X.c.exceptionTable.isEmpty = true) (hin : X.meth.name = "putSlice") : xAll X (tb_Sc_putSlice X) := by
  refine xA (ok_aload_n hC (show decode prog_1_method_22_code 0 = .ok (.aload_n 0, 1) by decide +kernel) rfl) ?_
  refine xA (ok_aload_n hC (show decode prog_1_method_22_code 1 = .ok (.aload_n 1, 1) by decide +kernel) rfl) ?_
  refine xA (ok_aload_n hC (show decode prog_1_method_22_code 2 = .ok (.aload_n 0, 1) by decide +kernel) rfl) ?_
  refine xA (ok_get hC (show decode prog_1_method_22_code 3 = .ok (.getfield 17, 3) by decide +kernel) (by decide) (r0 := ("StyleCourt", xF0, 12)) rfl (by decide) rfl w_417) ?_
  refine xA (ok_iconst hC (show decode prog_1_method_22_code 6 = .ok (.iconst 0, 1) by decide +kernel) (by decide)) ?_
  refine xA (ok_callV hC hnh (show decode prog_1_method_22_code 7 = .ok (.invokevirtual 274, 3) by decide +kernel) (by decide) (by decide) (by decide) (r0 := ("StyleCourt$Slice", xF2, 3)) rfl ⟨by decide, by decide, by decide +kernel⟩ w_1052 w_79 w_1049 w_1050 w_1051) ?_
  refine xA (ok_put hC (show decode prog_1_method_22_code 10 = .ok (.putfield 20, 3) by decide +kernel) (by decide) (r0 := ("StyleCourt", xF0, 12)) rfl (by decide) rfl (by decide +kernel) w_418) ?_
  refine xA (ok_aload_n hC (show decode prog_1_method_22_code 13 = .ok (.aload_n 0, 1) by decide +kernel) rfl) ?_
  refine xA (ok_get hC (show decode prog_1_method_22_code 14 = .ok (.getfield 20, 3) by decide +kernel) (by decide) (r0 := ("StyleCourt", xF0, 12)) rfl (by decide) rfl w_418) ?_
  refine xA (ok_iret hC hr (show decode prog_1_method_22_code 17 = .ok (.ireturn, 1) by decide +kernel)) ?_
  exact trivial

def tb_Sc_putNumber (X : xX) : List (Nat × xOp) := [(0, o_ald 0 1),
  (1, o_ic 1 2),
  (2, o_put 0 3 (.int) 5),
  (5, o_ild 1 6),
  (6, o_ic 10 8),
  (8, o_idiv 9),
  (9, o_ist 2 10),
  (10, o_ild 2 11),
  (11, o_ifle 32 14),
  (14, o_ald 0 15),
  (15, o_dup 16),
  (16, o_get 0 3 19),
  (19, o_ic 1 20),
  (20, o_iadd 21),
  (21, o_put 0 3 (.int) 24),
  (24, o_ild 2 25),
  (25, o_ic 10 27),
  (27, o_idiv 28),
  (28, o_ist 2 29),
  (29, o_goto 10),
  (32, o_ild 1 33),
  (33, o_ist 2 34),
  (34, o_ald 0 35),
  (35, o_get 0 3 38),
  (38, o_ic 1 39),
  (39, o_isub 40),
  (40, o_ist 3 41),
  (41, o_ild 3 42),
  (42, o_iflt 70 45),
  (45, o_ald 0 46),
  (46, o_get 0 2 49),
  (49, o_ild 3 50),
  (50, o_ic 48 52),
  (52, o_ild 2 53),
  (53, o_ic 10 55),
  (55, o_irem 56),
  (56, o_iadd 57),
  (57, o_i2b 58),
  (58, o_bast 1 59),
  (59, o_ild 2 60),
  (60, o_ic 10 62),
  (62, o_idiv 63),
  (63, o_ist 2 64),
  (64, o_inc 3 (-1) 67),
  (67, o_goto 41),
  (70, o_vret X.P)]
theorem tk_Sc_putNumber {X : xX} (hC : xCx X prog_1_method_21_code "StyleCourt" 4 0) (hr : X.meth.sig.returnType = none) (hnh : X.c.exceptionTable.isEmpty = true) (hin : X.meth.name = "putNumber") : xAll X (tb_Sc_putNumber X) := by
  refine xA (ok_aload_n hC (show decode prog_1_method_21_code 0 = .ok (.aload_n 0, 1) by decide +kernel) rfl) ?_
  refine xA (ok_iconst hC (show decode prog_1_method_21_code 1 = .ok (.iconst 1, 1) by decide +kernel) (by decide)) ?_
  refine xA (ok_put hC (show decode prog_1_method_21_code 2 = .ok (.putfield 20, 3) by decide +kernel) (by decide) (r0 := ("StyleCourt", xF0, 12)) rfl (by decide) rfl (by decide +kernel) w_418) ?_
  refine xA (ok_iload_n hC (show decode prog_1_method_21_code 5 = .ok (.iload_n 1, 1) by decide +kernel) rfl) ?_
  refine xA (ok_bipush hC (show decode prog_1_method_21_code 6 = .ok (.bipush 10, 2) by decide +kernel) (by decide)) ?_
  refine xA (ok_idiv hC (show decode prog_1_method_21_code 8 = .ok (.idiv, 1) by decide +kernel)) ?_
  refine xA (ok_istore_n hC (show decode prog_1_method_21_code 9 = .ok (.istore_n 2, 1) by decide +kernel) rfl (by decide)) ?_
  refine xA (ok_iload_n hC (show decode prog_1_method_21_code 10 = .ok (.iload_n 2, 1) by decide +kernel) rfl) ?_
  refine xA (ok_ifle hC (show decode prog_1_method_21_code 11 = .ok (.ifCond .le 21, 3) by decide +kernel) (by decide)) ?_
  refine xA (ok_aload_n hC (show decode prog_1_method_21_code 14 = .ok (.aload_n 0, 1) by decide +kernel) rfl) ?_
  refine xA (ok_dup hC (show decode prog_1_method_21_code 15 = .ok (.dup, 1) by decide +kernel)) ?_
  refine xA (ok_get hC (show decode prog_1_method_21_code 16 = .ok (.getfield 20, 3) by decide +kernel) (by decide) (r0 := ("StyleCourt", xF0, 12)) rfl (by decide) rfl w_418) ?_
  refine xA (ok_iconst hC (show decode prog_1_method_21_code 19 = .ok (.iconst 1, 1) by decide +kernel) (by decide)) ?_
  refine xA (ok_iadd hC (show decode prog_1_method_21_code 20 = .ok (.iadd, 1) by decide +kernel)) ?_
  refine xA (ok_put hC (show decode prog_1_method_21_code 21 = .ok (.putfield 20, 3) by decide +kernel) (by decide) (r0 := ("StyleCourt", xF0, 12)) rfl (by decide) rfl (by decide +kernel) w_418) ?_
  refine xA (ok_iload_n hC (show decode prog_1_method_21_code 24 = .ok (.iload_n 2, 1) by decide +kernel) rfl) ?_
  refine xA (ok_bipush hC (show decode prog_1_method_21_code 25 = .ok (.bipush 10, 2) by decide +kernel) (by decide)) ?_
  refine xA (ok_idiv hC (show decode prog_1_method_21_code 27 = .ok (.idiv, 1) by decide +kernel)) ?_
  refine xA (ok_istore_n hC (show decode prog_1_method_21_code 28 = .ok (.istore_n 2, 1) by decide +kernel) rfl (by decide)) ?_
  refine xA (ok_goto hC (show decode prog_1_method_21_code 29 = .ok (.goto (-19), 3) by decide +kernel) (by decide)) ?_
  refine xA (ok_iload_n hC (show decode prog_1_method_21_code 32 = .ok (.iload_n 1, 1) by decide +kernel) rfl) ?_
  refine xA (ok_istore_n hC (show decode prog_1_method_21_code 33 = .ok (.istore_n 2, 1) by decide +kernel) rfl (by decide)) ?_
  refine xA (ok_aload_n hC (show decode prog_1_method_21_code 34 = .ok (.aload_n 0, 1) by decide +kernel) rfl) ?_
  refine xA (ok_get hC (show decode prog_1_method_21_code 35 = .ok (.getfield 20, 3) by decide +kernel) (by decide) (r0 := ("StyleCourt", xF0, 12)) rfl (by decide) rfl w_418) ?_
  refine xA (ok_iconst hC (show decode prog_1_method_21_code 38 = .ok (.iconst 1, 1) by decide +kernel) (by decide)) ?_
  refine xA (ok_isub hC (show decode prog_1_method_21_code 39 = .ok (.isub, 1) by decide +kernel)) ?_
  refine xA (ok_istore_n hC (show decode prog_1_method_21_code 40 = .ok (.istore_n 3, 1) by decide +kernel) rfl (by decide)) ?_
  refine xA (ok_iload_n hC (show decode prog_1_method_21_code 41 = .ok (.iload_n 3, 1) by decide +kernel) rfl) ?_
  refine xA (ok_iflt hC (show decode prog_1_method_21_code 42 = .ok (.ifCond .lt 28, 3) by decide +kernel) (by decide)) ?_
  refine xA (ok_aload_n hC (show decode prog_1_method_21_code 45 = .ok (.aload_n 0, 1) by decide +kernel) rfl) ?_
  refine xA (ok_get hC (show decode prog_1_method_21_code 46 = .ok (.getfield 17, 3) by decide +kernel) (by decide) (r0 := ("StyleCourt", xF0, 12)) rfl (by decide) rfl w_417) ?_
  refine xA (ok_iload_n hC (show decode prog_1_method_21_code 49 = .ok (.iload_n 3, 1) by decide +kernel) rfl) ?_
  refine xA (ok_bipush hC (show decode prog_1_method_21_code 50 = .ok (.bipush 48, 2) by decide +kernel) (by decide)) ?_
  refine xA (ok_iload_n hC (show decode prog_1_method_21_code 52 = .ok (.iload_n 2, 1) by decide +kernel) rfl) ?_
  refine xA (ok_bipush hC (show decode prog_1_method_21_code 53 = .ok (.bipush 10, 2) by decide +kernel) (by decide)) ?_
  refine xA (ok_irem hC (show decode prog_1_method_21_code 55 = .ok (.irem, 1) by decide +kernel)) ?_
  refine xA (ok_iadd hC (show decode prog_1_method_21_code 56 = .ok (.iadd, 1) by decide +kernel)) ?_
  refine xA (ok_i2b hC (show decode prog_1_method_21_code 57 = .ok (.i2b, 1) by decide +kernel)) ?_
  refine xA (ok_bast hC (show decode prog_1_method_21_code 58 = .ok (.bastore, 1) by decide +kernel) (by decide) rfl) ?_
  refine xA (ok_iload_n hC (show decode prog_1_method_21_code 59 = .ok (.iload_n 2, 1) by decide +kernel) rfl) ?_
  refine xA (ok_bipush hC (show decode prog_1_method_21_code 60 = .ok (.bipush 10, 2) by decide +kernel) (by decide)) ?_
  refine xA (ok_idiv hC (show decode prog_1_method_21_code 62 = .ok (.idiv, 1) by decide +kernel)) ?_
  refine xA (ok_istore_n hC (show decode prog_1_method_21_code 63 = .ok (.istore_n 2, 1) by decide +kernel) rfl (by decide)) ?_
  refine xA (ok_iinc hC (show decode prog_1_method_21_code 64 = .ok (.iinc 3 (-1), 3) by decide +kernel) (by decide) (by decide)) ?_
  refine xA (ok_goto hC (show decode prog_1_method_21_code 67 = .ok (.goto (-26), 3) by decide +kernel) (by decide)) ?_
  refine xA (ok_vret hC hr (show decode prog_1_method_21_code 70 = .ok (.return_, 1) by decide +kernel)) ?_
  exact trivial

def tb_Sc_by (X : xX) : List (Nat × xOp) := [(0, o_ald 0 1),
  (1, o_callV X.l X.D X.P 0 2 1 y_Sc_takeName 4),
  (4, o_ast 2 5),
  (5, o_ald 0 6),
  (6, o_ild 1 7),
  (7, o_callV X.l X.D X.P 0 6 2 y_Sc_elementAt 10),
  (10, o_ast 3 11),
  (11, o_ald 0 12),
  (12, o_get 0 9 15),
  (15, o_ald 3 16),
  (16, o_ald 0 17),
  (17, o_get 0 9 20),
  (20, o_ald 2 21),
  (21, o_callV X.l X.D X.P 11 3 2 y_Sy_numberOfName 24),
  (24, o_ald 0 25),
  (25, o_get 0 10 28),
  (28, o_callV X.l X.D X.P 11 8 4 y_Sy_countingFor 31),
  (31, o_ast 4 33),
  (33, o_ald 4 35),
  (35, o_nul 38 42),
  (38, o_ic (-1) 39),
  (39, o_goto 47),
  (42, o_ald 4 44),
  (44, o_get 9 0 47),
  (47, o_iret X.P)]
theorem tk_Sc_by {X : xX} (hC : xCx X prog_1_method_8_code "StyleCourt" 5 9) (hr : X.meth.sig.returnType = (some .int)) (hnh : X.c.exceptionTable.isEmpty = true) (hin : X.meth.name = "by") : xAll X (tb_Sc_by X) := by
  refine xA (ok_aload_n hC (show decode prog_1_method_8_code 0 = .ok (.aload_n 0, 1) by decide +kernel) rfl) ?_
  refine xA (ok_callV hC hnh (show decode prog_1_method_8_code 1 = .ok (.invokevirtual 137, 3) by decide +kernel) (by decide) (by decide) (by decide) (r0 := ("StyleCourt", xF0, 12)) rfl ⟨by decide, by decide, by decide +kernel⟩ w_976 w_69 w_973 w_975 w_18) ?_
  refine xA (ok_astore_n hC (show decode prog_1_method_8_code 4 = .ok (.astore_n 2, 1) by decide +kernel) rfl (by decide)) ?_
  refine xA (ok_aload_n hC (show decode prog_1_method_8_code 5 = .ok (.aload_n 0, 1) by decide +kernel) rfl) ?_
  refine xA (ok_iload_n hC (show decode prog_1_method_8_code 6 = .ok (.iload_n 1, 1) by decide +kernel) rfl) ?_
  refine xA (ok_callV hC hnh (show decode prog_1_method_8_code 7 = .ok (.invokevirtual 141, 3) by decide +kernel) (by decide) (by decide) (by decide) (r0 := ("StyleCourt", xF0, 12)) rfl ⟨by decide, by decide, by decide +kernel⟩ w_982 w_69 w_979 w_981 w_19) ?_
  refine xA (ok_astore_n hC (show decode prog_1_method_8_code 10 = .ok (.astore_n 3, 1) by decide +kernel) rfl (by decide)) ?_
  refine xA (ok_aload_n hC (show decode prog_1_method_8_code 11 = .ok (.aload_n 0, 1) by decide +kernel) rfl) ?_
  refine xA (ok_get hC (show decode prog_1_method_8_code 12 = .ok (.getfield 55, 3) by decide +kernel) (by decide) (r0 := ("StyleCourt", xF0, 12)) rfl (by decide) rfl w_424) ?_
  refine xA (ok_aload_n hC (show decode prog_1_method_8_code 15 = .ok (.aload_n 3, 1) by decide +kernel) rfl) ?_
  refine xA (ok_aload_n hC (show decode prog_1_method_8_code 16 = .ok (.aload_n 0, 1) by decide +kernel) rfl) ?_
  refine xA (ok_get hC (show decode prog_1_method_8_code 17 = .ok (.getfield 55, 3) by decide +kernel) (by decide) (r0 := ("StyleCourt", xF0, 12)) rfl (by decide) rfl w_424) ?_
  refine xA (ok_aload_n hC (show decode prog_1_method_8_code 20 = .ok (.aload_n 2, 1) by decide +kernel) rfl) ?_
  refine xA (ok_callV hC hnh (show decode prog_1_method_8_code 21 = .ok (.invokevirtual 145, 3) by decide +kernel) (by decide) (by decide) (by decide) (r0 := ("StyleCourt$Style", xF11, 4)) rfl ⟨by decide, by decide, by decide +kernel⟩ w_912 w_82 w_984 w_910 w_911) ?_
  refine xA (ok_aload_n hC (show decode prog_1_method_8_code 24 = .ok (.aload_n 0, 1) by decide +kernel) rfl) ?_
  refine xA (ok_get hC (show decode prog_1_method_8_code 25 = .ok (.getfield 61, 3) by decide +kernel) (by decide) (r0 := ("StyleCourt", xF0, 12)) rfl (by decide) rfl w_425) ?_
  refine xA (ok_callV hC hnh (show decode prog_1_method_8_code 28 = .ok (.invokevirtual 149, 3) by decide +kernel) (by decide) (by decide) (by decide) (r0 := ("StyleCourt$Style", xF11, 4)) rfl ⟨by decide, by decide, by decide +kernel⟩ w_988 w_82 w_985 w_986 w_987) ?_
  refine xA (ok_astore hC (show decode prog_1_method_8_code 31 = .ok (.astore 4, 2) by decide +kernel) (by decide)) ?_
  refine xA (ok_aload hC (show decode prog_1_method_8_code 33 = .ok (.aload 4, 2) by decide +kernel)) ?_
  refine xA (ok_ifnonnull hC (show decode prog_1_method_8_code 35 = .ok (.ifnonnull 7, 3) by decide +kernel) (by decide)) ?_
  refine xA (ok_iconst hC (show decode prog_1_method_8_code 38 = .ok (.iconst (-1), 1) by decide +kernel) (by decide)) ?_
  refine xA (ok_goto hC (show decode prog_1_method_8_code 39 = .ok (.goto 8, 3) by decide +kernel) (by decide)) ?_
  refine xA (ok_aload hC (show decode prog_1_method_8_code 42 = .ok (.aload 4, 2) by decide +kernel)) ?_
  refine xA (ok_get hC (show decode prog_1_method_8_code 44 = .ok (.getfield 169, 3) by decide +kernel) (by decide) (r0 := ("StyleCourt$Told", xF9, 7)) rfl (by decide) rfl w_923) ?_
  refine xA (ok_iret hC hr (show decode prog_1_method_8_code 47 = .ok (.ireturn, 1) by decide +kernel)) ?_
  exact trivial

def tb_Sc_select (X : xX) : List (Nat × xOp) := [(0, o_ald 0 1),
  (1, o_callV X.l X.D X.P 0 3 1 y_Sc_takeTape 4),
  (4, o_ast 1 5),
  (5, o_new 8 2 [.null, .int 0] 8),
  (8, o_dup 9),
  (9, o_callI X.l X.D X.P 4 1 y_Se_init 12),
  (12, o_ast 2 13),
  (13, o_ald 2 14),
  (14, o_ald 1 15),
  (15, o_callV X.l X.D X.P 8 10 2 y_Se_readSteps 18),
  (18, o_ald 1 19),
  (19, o_callV X.l X.D X.P 1 1 1 y_Rd_nextSign 22),
  (22, o_ic (-1) 23),
  (23, o_iceq 34 26),
  (26, o_ald 1 27),
  (27, o_ald 1 28),
  (28, o_get 1 1 31),
  (31, o_callV X.l X.D X.P 1 6 2 y_Rd_failAt 34),
  (34, o_ald 0 35),
  (35, o_ald 2 36),
  (36, o_get 8 1 39),
  (39, o_put 0 6 (.int) 42),
  (42, o_ald 0 43),
  (43, o_ic 0 44),
  (44, o_put 0 5 (.int) 47),
  (47, o_ic 0 48),
  (48, o_ist 3 49),
  (49, o_ild 3 50),
  (50, o_ald 0 51),
  (51, o_get 0 8 54),
  (54, o_get 5 0 57),
  (57, o_callV X.l X.D X.P 12 0 1 y_AL_size 60),
  (60, o_icge 126 63),
  (63, o_ald 0 64),
  (64, o_get 0 5 67),
  (67, o_ald 0 68),
  (68, o_get 0 4 71),
  (71, o_len 72),
  (72, o_icge 126 75),
  (75, o_ald 2 76),
  (76, o_ald 0 77),
  (77, o_get 0 8 80),
  (80, o_get 5 0 83),
  (83, o_ild 3 84),
  (84, o_callV X.l X.D X.P 12 2 2 y_AL_get 87),
  (87, o_cast (Nat.beq 4) 90),
  (90, o_ald 0 91),
  (91, o_get 0 10 94),
  (94, o_callV X.l X.D X.P 8 6 3 y_Se_matches 97),
  (97, o_ifeq 120 100),
  (100, o_ald 0 101),
  (101, o_get 0 4 104),
  (104, o_ald 0 105),
  (105, o_get 0 5 108),
  (108, o_ild 3 109),
  (109, o_iast 0 110),
  (110, o_ald 0 111),
  (111, o_dup 112),
  (112, o_get 0 5 115),
  (115, o_ic 1 116),
  (116, o_iadd 117),
  (117, o_put 0 5 (.int) 120),
  (120, o_inc 3 1 123),
  (123, o_goto 49),
  (126, o_ald 0 127),
  (127, o_get 0 5 130),
  (130, o_iret X.P)]
theorem tk_Sc_select {X : xX} (hC : xCx X prog_1_method_9_code "StyleCourt" 4 11) (hr : X.meth.sig.returnType = (some .int)) (hnh : X.c.exceptionTable.isEmpty = true) (hin : X.meth.name = "select") : xAll X (tb_Sc_select X) := by
  refine xA (ok_aload_n hC (show decode prog_1_method_9_code 0 = .ok (.aload_n 0, 1) by decide +kernel) rfl) ?_
  refine xA (ok_callV hC hnh (show decode prog_1_method_9_code 1 = .ok (.invokevirtual 84, 3) by decide +kernel) (by decide) (by decide) (by decide) (r0 := ("StyleCourt", xF0, 12)) rfl ⟨by decide, by decide, by decide +kernel⟩ w_570 w_69 w_567 w_569 w_5) ?_
  refine xA (ok_astore_n hC (show decode prog_1_method_9_code 4 = .ok (.astore_n 1, 1) by decide +kernel) rfl (by decide)) ?_
  refine xA (ok_new hC (show decode prog_1_method_9_code 5 = .ok (.new 172, 3) by decide +kernel) (by decide) (r0 := ("StyleCourt$Selector", xF8, 2)) rfl (by decide) w_1079 w_752 w_93) ?_
  refine xA (ok_dup hC (show decode prog_1_method_9_code 8 = .ok (.dup, 1) by decide +kernel)) ?_
  refine xA (ok_callIN hC hnh (show decode prog_1_method_9_code 9 = .ok (.invokespecial 174, 3) by decide +kernel) (by decide) (by decide) ⟨by decide, by decide, by decide +kernel⟩ rfl w_755 w_93 w_1080 w_754) ?_
  refine xA (ok_astore_n hC (show decode prog_1_method_9_code 12 = .ok (.astore_n 2, 1) by decide +kernel) rfl (by decide)) ?_
  refine xA (ok_aload_n hC (show decode prog_1_method_9_code 13 = .ok (.aload_n 2, 1) by decide +kernel) rfl) ?_
  refine xA (ok_aload_n hC (show decode prog_1_method_9_code 14 = .ok (.aload_n 1, 1) by decide +kernel) rfl) ?_
  refine xA (ok_callV hC hnh (show decode prog_1_method_9_code 15 = .ok (.invokevirtual 175, 3) by decide +kernel) (by decide) (by decide) (by decide) (r0 := ("StyleCourt$Selector", xF8, 2)) rfl ⟨by decide, by decide, by decide +kernel⟩ w_771 w_93 w_1081 w_769 w_770) ?_
  refine xA (ok_aload_n hC (show decode prog_1_method_9_code 18 = .ok (.aload_n 1, 1) by decide +kernel) rfl) ?_
  refine xA (ok_callV hC hnh (show decode prog_1_method_9_code 19 = .ok (.invokevirtual 118, 3) by decide +kernel) (by decide) (by decide) (by decide) (r0 := ("StyleCourt$Reader", xF1, 3)) rfl ⟨by decide, by decide, by decide +kernel⟩ w_633 w_70 w_726 w_631 w_632) ?_
  refine xA (ok_iconst hC (show decode prog_1_method_9_code 22 = .ok (.iconst (-1), 1) by decide +kernel) (by decide)) ?_
  refine xA (ok_iceq hC (show decode prog_1_method_9_code 23 = .ok (.if_icmp .eq 11, 3) by decide +kernel) (by decide)) ?_
  refine xA (ok_aload_n hC (show decode prog_1_method_9_code 26 = .ok (.aload_n 1, 1) by decide +kernel) rfl) ?_
  refine xA (ok_aload_n hC (show decode prog_1_method_9_code 27 = .ok (.aload_n 1, 1) by decide +kernel) rfl) ?_
  refine xA (ok_get hC (show decode prog_1_method_9_code 28 = .ok (.getfield 178, 3) by decide +kernel) (by decide) (r0 := ("StyleCourt$Reader", xF1, 3)) rfl (by decide) rfl w_142) ?_
  refine xA (ok_callV hC hnh (show decode prog_1_method_9_code 31 = .ok (.invokevirtual 106, 3) by decide +kernel) (by decide) (by decide) (by decide) (r0 := ("StyleCourt$Reader", xF1, 3)) rfl ⟨by decide, by decide, by decide +kernel⟩ w_591 w_70 w_718 w_589 w_590) ?_
  refine xA (ok_aload_n hC (show decode prog_1_method_9_code 34 = .ok (.aload_n 0, 1) by decide +kernel) rfl) ?_
  refine xA (ok_aload_n hC (show decode prog_1_method_9_code 35 = .ok (.aload_n 2, 1) by decide +kernel) rfl) ?_
  refine xA (ok_get hC (show decode prog_1_method_9_code 36 = .ok (.getfield 181, 3) by decide +kernel) (by decide) (r0 := ("StyleCourt$Selector", xF8, 2)) rfl (by decide) rfl w_762) ?_
  refine xA (ok_put hC (show decode prog_1_method_9_code 39 = .ok (.putfield 30, 3) by decide +kernel) (by decide) (r0 := ("StyleCourt", xF0, 12)) rfl (by decide) rfl (by decide +kernel) w_421) ?_
  refine xA (ok_aload_n hC (show decode prog_1_method_9_code 42 = .ok (.aload_n 0, 1) by decide +kernel) rfl) ?_
  refine xA (ok_iconst hC (show decode prog_1_method_9_code 43 = .ok (.iconst 0, 1) by decide +kernel) (by decide)) ?_
  refine xA (ok_put hC (show decode prog_1_method_9_code 44 = .ok (.putfield 27, 3) by decide +kernel) (by decide) (r0 := ("StyleCourt", xF0, 12)) rfl (by decide) rfl (by decide +kernel) w_420) ?_
  refine xA (ok_iconst hC (show decode prog_1_method_9_code 47 = .ok (.iconst 0, 1) by decide +kernel) (by decide)) ?_
  refine xA (ok_istore_n hC (show decode prog_1_method_9_code 48 = .ok (.istore_n 3, 1) by decide +kernel) rfl (by decide)) ?_
  refine xA (ok_iload_n hC (show decode prog_1_method_9_code 49 = .ok (.iload_n 3, 1) by decide +kernel) rfl) ?_
  refine xA (ok_aload_n hC (show decode prog_1_method_9_code 50 = .ok (.aload_n 0, 1) by decide +kernel) rfl) ?_
  refine xA (ok_get hC (show decode prog_1_method_9_code 51 = .ok (.getfield 48, 3) by decide +kernel) (by decide) (r0 := ("StyleCourt", xF0, 12)) rfl (by decide) rfl w_423) ?_
  refine xA (ok_get hC (show decode prog_1_method_9_code 54 = .ok (.getfield 109, 3) by decide +kernel) (by decide) (r0 := ("StyleCourt$Source", xF5, 5)) rfl (by decide) rfl w_371) ?_
  refine xA (ok_callV hC hnh (show decode prog_1_method_9_code 57 = .ok (.invokevirtual 113, 3) by decide +kernel) (by decide) (by decide) (by decide) (r0 := ("java/util/ArrayList", xF12, 3)) rfl ⟨by decide, by decide, by decide +kernel⟩ w_644 w_77 w_658 w_642 w_643) ?_
  refine xA (ok_icge hC (show decode prog_1_method_9_code 60 = .ok (.if_icmp .ge 66, 3) by decide +kernel) (by decide)) ?_
  refine xA (ok_aload_n hC (show decode prog_1_method_9_code 63 = .ok (.aload_n 0, 1) by decide +kernel) rfl) ?_
  refine xA (ok_get hC (show decode prog_1_method_9_code 64 = .ok (.getfield 27, 3) by decide +kernel) (by decide) (r0 := ("StyleCourt", xF0, 12)) rfl (by decide) rfl w_420) ?_
  refine xA (ok_aload_n hC (show decode prog_1_method_9_code 67 = .ok (.aload_n 0, 1) by decide +kernel) rfl) ?_
  refine xA (ok_get hC (show decode prog_1_method_9_code 68 = .ok (.getfield 23, 3) by decide +kernel) (by decide) (r0 := ("StyleCourt", xF0, 12)) rfl (by decide) rfl w_419) ?_
  refine xA (ok_len hC (show decode prog_1_method_9_code 71 = .ok (.arraylength, 1) by decide +kernel)) ?_
  refine xA (ok_icge hC (show decode prog_1_method_9_code 72 = .ok (.if_icmp .ge 54, 3) by decide +kernel) (by decide)) ?_
  refine xA (ok_aload_n hC (show decode prog_1_method_9_code 75 = .ok (.aload_n 2, 1) by decide +kernel) rfl) ?_
  refine xA (ok_aload_n hC (show decode prog_1_method_9_code 76 = .ok (.aload_n 0, 1) by decide +kernel) rfl) ?_
  refine xA (ok_get hC (show decode prog_1_method_9_code 77 = .ok (.getfield 48, 3) by decide +kernel) (by decide) (r0 := ("StyleCourt", xF0, 12)) rfl (by decide) rfl w_423) ?_
  refine xA (ok_get hC (show decode prog_1_method_9_code 80 = .ok (.getfield 109, 3) by decide +kernel) (by decide) (r0 := ("StyleCourt$Source", xF5, 5)) rfl (by decide) rfl w_371) ?_
  refine xA (ok_iload_n hC (show decode prog_1_method_9_code 83 = .ok (.iload_n 3, 1) by decide +kernel) rfl) ?_
  refine xA (ok_callV hC hnh (show decode prog_1_method_9_code 84 = .ok (.invokevirtual 184, 3) by decide +kernel) (by decide) (by decide) (by decide) (r0 := ("java/util/ArrayList", xF12, 3)) rfl ⟨by decide, by decide, by decide +kernel⟩ w_662 w_77 w_659 w_660 w_661) ?_
  refine xA (ok_cast hC (show decode prog_1_method_9_code 87 = .ok (.checkcast 59, 3) by decide +kernel) w_413 (xcast_ok (r0 := ("StyleCourt$Element", xF4, 15)) (by decide) rfl rfl)) ?_
  refine xA (ok_aload_n hC (show decode prog_1_method_9_code 90 = .ok (.aload_n 0, 1) by decide +kernel) rfl) ?_
  refine xA (ok_get hC (show decode prog_1_method_9_code 91 = .ok (.getfield 61, 3) by decide +kernel) (by decide) (r0 := ("StyleCourt", xF0, 12)) rfl (by decide) rfl w_425) ?_
  refine xA (ok_callV hC hnh (show decode prog_1_method_9_code 94 = .ok (.invokevirtual 188, 3) by decide +kernel) (by decide) (by decide) (by decide) (r0 := ("StyleCourt$Selector", xF8, 2)) rfl ⟨by decide, by decide, by decide +kernel⟩ w_1005 w_93 w_1082 w_1003 w_1004) ?_
  refine xA (ok_ifeq hC (show decode prog_1_method_9_code 97 = .ok (.ifCond .eq 23, 3) by decide +kernel) (by decide)) ?_
  refine xA (ok_aload_n hC (show decode prog_1_method_9_code 100 = .ok (.aload_n 0, 1) by decide +kernel) rfl) ?_
  refine xA (ok_get hC (show decode prog_1_method_9_code 101 = .ok (.getfield 23, 3) by decide +kernel) (by decide) (r0 := ("StyleCourt", xF0, 12)) rfl (by decide) rfl w_419) ?_
  refine xA (ok_aload_n hC (show decode prog_1_method_9_code 104 = .ok (.aload_n 0, 1) by decide +kernel) rfl) ?_
  refine xA (ok_get hC (show decode prog_1_method_9_code 105 = .ok (.getfield 27, 3) by decide +kernel) (by decide) (r0 := ("StyleCourt", xF0, 12)) rfl (by decide) rfl w_420) ?_
  refine xA (ok_iload_n hC (show decode prog_1_method_9_code 108 = .ok (.iload_n 3, 1) by decide +kernel) rfl) ?_
  refine xA (ok_iast hC (show decode prog_1_method_9_code 109 = .ok (.iastore, 1) by decide +kernel) (by decide) rfl) ?_
  refine xA (ok_aload_n hC (show decode prog_1_method_9_code 110 = .ok (.aload_n 0, 1) by decide +kernel) rfl) ?_
  refine xA (ok_dup hC (show decode prog_1_method_9_code 111 = .ok (.dup, 1) by decide +kernel)) ?_
  refine xA (ok_get hC (show decode prog_1_method_9_code 112 = .ok (.getfield 27, 3) by decide +kernel) (by decide) (r0 := ("StyleCourt", xF0, 12)) rfl (by decide) rfl w_420) ?_
  refine xA (ok_iconst hC (show decode prog_1_method_9_code 115 = .ok (.iconst 1, 1) by decide +kernel) (by decide)) ?_
  refine xA (ok_iadd hC (show decode prog_1_method_9_code 116 = .ok (.iadd, 1) by decide +kernel)) ?_
  refine xA (ok_put hC (show decode prog_1_method_9_code 117 = .ok (.putfield 27, 3) by decide +kernel) (by decide) (r0 := ("StyleCourt", xF0, 12)) rfl (by decide) rfl (by decide +kernel) w_420) ?_
  refine xA (ok_iinc hC (show decode prog_1_method_9_code 120 = .ok (.iinc 3 1, 3) by decide +kernel) (by decide) (by decide)) ?_
  refine xA (ok_goto hC (show decode prog_1_method_9_code 123 = .ok (.goto (-74), 3) by decide +kernel) (by decide)) ?_
  refine xA (ok_aload_n hC (show decode prog_1_method_9_code 126 = .ok (.aload_n 0, 1) by decide +kernel) rfl) ?_
  refine xA (ok_get hC (show decode prog_1_method_9_code 127 = .ok (.getfield 27, 3) by decide +kernel) (by decide) (r0 := ("StyleCourt", xF0, 12)) rfl (by decide) rfl w_420) ?_
  refine xA (ok_iret hC hr (show decode prog_1_method_9_code 130 = .ok (.ireturn, 1) by decide +kernel)) ?_
  exact trivial

def tb_Sc_found (X : xX) : List (Nat × xOp) := [(0, o_ild 1 1),
  (1, o_iflt 12 4),
  (4, o_ild 1 5),
  (5, o_ald 0 6),
  (6, o_get 0 5 9),
  (9, o_iclt 22 12),
  (12, o_throw X.P 14),
  (22, o_ald 0 23),
  (23, o_get 0 4 26),
  (26, o_ild 1 27),
  (27, o_ld 0 28),
  (28, o_iret X.P)]
theorem tk_Sc_found {X : xX} (hC : xCx X prog_1_method_10_code "StyleCourt" 2 6) (hr : X.meth.sig.returnType = (some .int)) (hnh : X.c.exceptionTable.isEmpty = true) (hin : X.meth.name = "found") : xAll X (tb_Sc_found X) := by
  refine xA (ok_iload_n hC (show decode prog_1_method_10_code 0 = .ok (.iload_n 1, 1) by decide +kernel) rfl) ?_
  refine xA (ok_iflt hC (show decode prog_1_method_10_code 1 = .ok (.ifCond .lt 11, 3) by decide +kernel) (by decide)) ?_
  refine xA (ok_iload_n hC (show decode prog_1_method_10_code 4 = .ok (.iload_n 1, 1) by decide +kernel) rfl) ?_
  refine xA (ok_aload_n hC (show decode prog_1_method_10_code 5 = .ok (.aload_n 0, 1) by decide +kernel) rfl) ?_
  refine xA (ok_get hC (show decode prog_1_method_10_code 6 = .ok (.getfield 27, 3) by decide +kernel) (by decide) (r0 := ("StyleCourt", xF0, 12)) rfl (by decide) rfl w_420) ?_
  refine xA (ok_iclt hC (show decode prog_1_method_10_code 9 = .ok (.if_icmp .lt 13, 3) by decide +kernel) (by decide)) ?_
  refine xA (ok_throw hC hnh ["java/lang/RuntimeException", "java/lang/Exception"] (show decode prog_1_method_10_code 12 = .ok (.new 68, 3) by decide +kernel) (show decode prog_1_method_10_code 15 = .ok (.dup, 1) by decide +kernel) (show decode prog_1_method_10_code 16 = .ok (.ldc 192, 2) by decide +kernel) (show decode prog_1_method_10_code 18 = .ok (.invokespecial 72, 3) by decide +kernel) (show decode prog_1_method_10_code 21 = .ok (.athrow, 1) by decide +kernel) (by decide) (r0 := ("java/lang/IndexOutOfBoundsException", xF14, 0)) rfl rfl w_464 w_87 (j := 10) rfl (by decide +kernel) (by decide +kernel) (ow_Sc_72 ) (by decide) (by decide)) ?_
  refine xA (ok_aload_n hC (show decode prog_1_method_10_code 22 = .ok (.aload_n 0, 1) by decide +kernel) rfl) ?_
  refine xA (ok_get hC (show decode prog_1_method_10_code 23 = .ok (.getfield 23, 3) by decide +kernel) (by decide) (r0 := ("StyleCourt", xF0, 12)) rfl (by decide) rfl w_419) ?_
  refine xA (ok_iload_n hC (show decode prog_1_method_10_code 26 = .ok (.iload_n 1, 1) by decide +kernel) rfl) ?_
  refine xA (ok_iald hC (show decode prog_1_method_10_code 27 = .ok (.iaload, 1) by decide +kernel) (by decide) rfl) ?_
  refine xA (ok_iret hC hr (show decode prog_1_method_10_code 28 = .ok (.ireturn, 1) by decide +kernel)) ?_
  exact trivial

def tb_Sc_fits (X : xX) : List (Nat × xOp) := [(0, o_ild 1 1),
  (1, o_iflt 18 4),
  (4, o_ild 1 5),
  (5, o_ald 0 6),
  (6, o_get 0 9 9),
  (9, o_get 11 1 12),
  (12, o_callV X.l X.D X.P 12 0 1 y_AL_size 15),
  (15, o_iclt 28 18),
  (18, o_throw X.P 15),
  (28, o_ald 0 29),
  (29, o_ild 2 30),
  (30, o_callV X.l X.D X.P 0 6 2 y_Sc_elementAt 33),
  (33, o_ast 3 34),
  (34, o_ald 0 35),
  (35, o_get 0 9 38),
  (38, o_get 11 1 41),
  (41, o_ild 1 42),
  (42, o_callV X.l X.D X.P 12 2 2 y_AL_get 45),
  (45, o_cast (Nat.beq 8) 48),
  (48, o_ald 3 49),
  (49, o_ald 0 50),
  (50, o_get 0 10 53),
  (53, o_callV X.l X.D X.P 8 6 3 y_Se_matches 56),
  (56, o_ifeq 63 59),
  (59, o_ic 1 60),
  (60, o_goto 64),
  (63, o_ic 0 64),
  (64, o_iret X.P)]
theorem tk_Sc_fits {X : xX} (hC : xCx X prog_1_method_11_code "StyleCourt" 4 7) (hr : X.meth.sig.returnType = (some .int)) (hnh : X.c.exceptionTable.isEmpty = true) (hin : X.meth.name = "fits") : xAll X (tb_Sc_fits X) := by
  refine xA (ok_iload_n hC (show decode prog_1_method_11_code 0 = .ok (.iload_n 1, 1) by decide +kernel) rfl) ?_
  refine xA (ok_iflt hC (show decode prog_1_method_11_code 1 = .ok (.ifCond .lt 17, 3) by decide +kernel) (by decide)) ?_
  refine xA (ok_iload_n hC (show decode prog_1_method_11_code 4 = .ok (.iload_n 1, 1) by decide +kernel) rfl) ?_
  refine xA (ok_aload_n hC (show decode prog_1_method_11_code 5 = .ok (.aload_n 0, 1) by decide +kernel) rfl) ?_
  refine xA (ok_get hC (show decode prog_1_method_11_code 6 = .ok (.getfield 55, 3) by decide +kernel) (by decide) (r0 := ("StyleCourt", xF0, 12)) rfl (by decide) rfl w_424) ?_
  refine xA (ok_get hC (show decode prog_1_method_11_code 9 = .ok (.getfield 131, 3) by decide +kernel) (by decide) (r0 := ("StyleCourt$Style", xF11, 4)) rfl (by decide) rfl w_400) ?_
  refine xA (ok_callV hC hnh (show decode prog_1_method_11_code 12 = .ok (.invokevirtual 113, 3) by decide +kernel) (by decide) (by decide) (by decide) (r0 := ("java/util/ArrayList", xF12, 3)) rfl ⟨by decide, by decide, by decide +kernel⟩ w_644 w_77 w_658 w_642 w_643) ?_
  refine xA (ok_iclt hC (show decode prog_1_method_11_code 15 = .ok (.if_icmp .lt 13, 3) by decide +kernel) (by decide)) ?_
  refine xA (ok_throw hC hnh ["java/lang/RuntimeException", "java/lang/Exception"] (show decode prog_1_method_11_code 18 = .ok (.new 79, 3) by decide +kernel) (show decode prog_1_method_11_code 21 = .ok (.dup, 1) by decide +kernel) (show decode prog_1_method_11_code 22 = .ok (.ldc 194, 2) by decide +kernel) (show decode prog_1_method_11_code 24 = .ok (.invokespecial 83, 3) by decide +kernel) (show decode prog_1_method_11_code 27 = .ok (.athrow, 1) by decide +kernel) (by decide) (r0 := ("java/lang/IllegalArgumentException", xF15, 0)) rfl rfl w_543 w_88 (j := 11) rfl (by decide +kernel) (by decide +kernel) (ow_Sc_83 ) (by decide) (by decide)) ?_
  refine xA (ok_aload_n hC (show decode prog_1_method_11_code 28 = .ok (.aload_n 0, 1) by decide +kernel) rfl) ?_
  refine xA (ok_iload_n hC (show decode prog_1_method_11_code 29 = .ok (.iload_n 2, 1) by decide +kernel) rfl) ?_
  refine xA (ok_callV hC hnh (show decode prog_1_method_11_code 30 = .ok (.invokevirtual 141, 3) by decide +kernel) (by decide) (by decide) (by decide) (r0 := ("StyleCourt", xF0, 12)) rfl ⟨by decide, by decide, by decide +kernel⟩ w_982 w_69 w_979 w_981 w_19) ?_
  refine xA (ok_astore_n hC (show decode prog_1_method_11_code 33 = .ok (.astore_n 3, 1) by decide +kernel) rfl (by decide)) ?_
  refine xA (ok_aload_n hC (show decode prog_1_method_11_code 34 = .ok (.aload_n 0, 1) by decide +kernel) rfl) ?_
  refine xA (ok_get hC (show decode prog_1_method_11_code 35 = .ok (.getfield 55, 3) by decide +kernel) (by decide) (r0 := ("StyleCourt", xF0, 12)) rfl (by decide) rfl w_424) ?_
  refine xA (ok_get hC (show decode prog_1_method_11_code 38 = .ok (.getfield 131, 3) by decide +kernel) (by decide) (r0 := ("StyleCourt$Style", xF11, 4)) rfl (by decide) rfl w_400) ?_
  refine xA (ok_iload_n hC (show decode prog_1_method_11_code 41 = .ok (.iload_n 1, 1) by decide +kernel) rfl) ?_
  refine xA (ok_callV hC hnh (show decode prog_1_method_11_code 42 = .ok (.invokevirtual 184, 3) by decide +kernel) (by decide) (by decide) (by decide) (r0 := ("java/util/ArrayList", xF12, 3)) rfl ⟨by decide, by decide, by decide +kernel⟩ w_662 w_77 w_659 w_660 w_661) ?_
  refine xA (ok_cast hC (show decode prog_1_method_11_code 45 = .ok (.checkcast 172, 3) by decide +kernel) w_1079 (xcast_ok (r0 := ("StyleCourt$Selector", xF8, 2)) (by decide) rfl rfl)) ?_
  refine xA (ok_aload_n hC (show decode prog_1_method_11_code 48 = .ok (.aload_n 3, 1) by decide +kernel) rfl) ?_
  refine xA (ok_aload_n hC (show decode prog_1_method_11_code 49 = .ok (.aload_n 0, 1) by decide +kernel) rfl) ?_
  refine xA (ok_get hC (show decode prog_1_method_11_code 50 = .ok (.getfield 61, 3) by decide +kernel) (by decide) (r0 := ("StyleCourt", xF0, 12)) rfl (by decide) rfl w_425) ?_
  refine xA (ok_callV hC hnh (show decode prog_1_method_11_code 53 = .ok (.invokevirtual 188, 3) by decide +kernel) (by decide) (by decide) (by decide) (r0 := ("StyleCourt$Selector", xF8, 2)) rfl ⟨by decide, by decide, by decide +kernel⟩ w_1005 w_93 w_1082 w_1003 w_1004) ?_
  refine xA (ok_ifeq hC (show decode prog_1_method_11_code 56 = .ok (.ifCond .eq 7, 3) by decide +kernel) (by decide)) ?_
  refine xA (ok_iconst hC (show decode prog_1_method_11_code 59 = .ok (.iconst 1, 1) by decide +kernel) (by decide)) ?_
  refine xA (ok_goto hC (show decode prog_1_method_11_code 60 = .ok (.goto 4, 3) by decide +kernel) (by decide)) ?_
  refine xA (ok_iconst hC (show decode prog_1_method_11_code 63 = .ok (.iconst 0, 1) by decide +kernel) (by decide)) ?_
  refine xA (ok_iret hC hr (show decode prog_1_method_11_code 64 = .ok (.ireturn, 1) by decide +kernel)) ?_
  exact trivial

def tb_Sc_element (X : xX) : List (Nat × xOp) := [(0, o_ald 0 1),
  (1, o_ild 1 2),
  (2, o_callV X.l X.D X.P 0 6 2 y_Sc_elementAt 5),
  (5, o_ast 3 6),
  (6, o_ild 2 7),
  (7, o_sw [(0, 56), (1, 61), (2, 80), (3, 99), (4, 104), (5, 109), (6, 117), (7, 130), (8, 135)] 140),
  (56, o_ald 3 57),
  (57, o_get 4 4 60),
  (60, o_iret X.P),
  (61, o_ald 3 62),
  (62, o_get 4 1 65),
  (65, o_nul 68 72),
  (68, o_ic (-1) 69),
  (69, o_goto 79),
  (72, o_ald 3 73),
  (73, o_get 4 1 76),
  (76, o_get 4 3 79),
  (79, o_iret X.P),
  (80, o_ald 3 81),
  (81, o_get 4 2 84),
  (84, o_nul 87 91),
  (87, o_ic (-1) 88),
  (88, o_goto 98),
  (91, o_ald 3 92),
  (92, o_get 4 2 95),
  (95, o_get 4 3 98),
  (98, o_iret X.P),
  (99, o_ald 3 100),
  (100, o_get 4 9 103),
  (103, o_iret X.P),
  (104, o_ald 3 105),
  (105, o_get 4 5 108),
  (108, o_iret X.P),
  (109, o_ald 3 110),
  (110, o_get 4 7 113),
  (113, o_callV X.l X.D X.P 12 0 1 y_AL_size 116),
  (116, o_iret X.P),
  (117, o_ald 3 118),
  (118, o_callV X.l X.D X.P 4 0 1 y_El_isEmpty 121),
  (121, o_ifeq 128 124),
  (124, o_ic 1 125),
  (125, o_goto 129),
  (128, o_ic 0 129),
  (129, o_iret X.P),
  (130, o_ald 3 131),
  (131, o_get 4 6 134),
  (134, o_iret X.P),
  (135, o_ald 3 136),
  (136, o_get 4 12 139),
  (139, o_iret X.P),
  (140, o_throw X.P 15)]
theorem tk_Sc_element {X : xX} (hC : xCx X prog_1_method_12_code "StyleCourt" 4 7) (hr : X.meth.sig.returnType = (some .int)) (hnh : X.c.exceptionTable.isEmpty = true) (hin : X.meth.name = "element") : xAll X (tb_Sc_element X) := by
  refine xA (ok_aload_n hC (show decode prog_1_method_12_code 0 = .ok (.aload_n 0, 1) by decide +kernel) rfl) ?_
  refine xA (ok_iload_n hC (show decode prog_1_method_12_code 1 = .ok (.iload_n 1, 1) by decide +kernel) rfl) ?_
  refine xA (ok_callV hC hnh (show decode prog_1_method_12_code 2 = .ok (.invokevirtual 141, 3) by decide +kernel) (by decide) (by decide) (by decide) (r0 := ("StyleCourt", xF0, 12)) rfl ⟨by decide, by decide, by decide +kernel⟩ w_982 w_69 w_979 w_981 w_19) ?_
  refine xA (ok_astore_n hC (show decode prog_1_method_12_code 5 = .ok (.astore_n 3, 1) by decide +kernel) rfl (by decide)) ?_
  refine xA (ok_iload_n hC (show decode prog_1_method_12_code 6 = .ok (.iload_n 2, 1) by decide +kernel) rfl) ?_
  refine xA (ok_table hC [(0, 56), (1, 61), (2, 80), (3, 99), (4, 104), (5, 109), (6, 117), (7, 130), (8, 135)] (show decode prog_1_method_12_code 7 = .ok (.tableswitch 133 0 8 #[49, 54, 73, 92, 97, 102, 110, 123, 128], 49) by decide +kernel) (by decide) (by decide) (by decide)) ?_
  refine xA (ok_aload_n hC (show decode prog_1_method_12_code 56 = .ok (.aload_n 3, 1) by decide +kernel) rfl) ?_
  refine xA (ok_get hC (show decode prog_1_method_12_code 57 = .ok (.getfield 196, 3) by decide +kernel) (by decide) (r0 := ("StyleCourt$Element", xF4, 15)) rfl (by decide) rfl w_234) ?_
  refine xA (ok_iret hC hr (show decode prog_1_method_12_code 60 = .ok (.ireturn, 1) by decide +kernel)) ?_
  refine xA (ok_aload_n hC (show decode prog_1_method_12_code 61 = .ok (.aload_n 3, 1) by decide +kernel) rfl) ?_
  refine xA (ok_get hC (show decode prog_1_method_12_code 62 = .ok (.getfield 162, 3) by decide +kernel) (by decide) (r0 := ("StyleCourt$Element", xF4, 15)) rfl (by decide) rfl w_224) ?_
  refine xA (ok_ifnonnull hC (show decode prog_1_method_12_code 65 = .ok (.ifnonnull 7, 3) by decide +kernel) (by decide)) ?_
  refine xA (ok_iconst hC (show decode prog_1_method_12_code 68 = .ok (.iconst (-1), 1) by decide +kernel) (by decide)) ?_
  refine xA (ok_goto hC (show decode prog_1_method_12_code 69 = .ok (.goto 10, 3) by decide +kernel) (by decide)) ?_
  refine xA (ok_aload_n hC (show decode prog_1_method_12_code 72 = .ok (.aload_n 3, 1) by decide +kernel) rfl) ?_
  refine xA (ok_get hC (show decode prog_1_method_12_code 73 = .ok (.getfield 162, 3) by decide +kernel) (by decide) (r0 := ("StyleCourt$Element", xF4, 15)) rfl (by decide) rfl w_224) ?_
  refine xA (ok_get hC (show decode prog_1_method_12_code 76 = .ok (.getfield 199, 3) by decide +kernel) (by decide) (r0 := ("StyleCourt$Element", xF4, 15)) rfl (by decide) rfl w_231) ?_
  refine xA (ok_iret hC hr (show decode prog_1_method_12_code 79 = .ok (.ireturn, 1) by decide +kernel)) ?_
  refine xA (ok_aload_n hC (show decode prog_1_method_12_code 80 = .ok (.aload_n 3, 1) by decide +kernel) rfl) ?_
  refine xA (ok_get hC (show decode prog_1_method_12_code 81 = .ok (.getfield 200, 3) by decide +kernel) (by decide) (r0 := ("StyleCourt$Element", xF4, 15)) rfl (by decide) rfl w_229) ?_
  refine xA (ok_ifnonnull hC (show decode prog_1_method_12_code 84 = .ok (.ifnonnull 7, 3) by decide +kernel) (by decide)) ?_
  refine xA (ok_iconst hC (show decode prog_1_method_12_code 87 = .ok (.iconst (-1), 1) by decide +kernel) (by decide)) ?_
  refine xA (ok_goto hC (show decode prog_1_method_12_code 88 = .ok (.goto 10, 3) by decide +kernel) (by decide)) ?_
  refine xA (ok_aload_n hC (show decode prog_1_method_12_code 91 = .ok (.aload_n 3, 1) by decide +kernel) rfl) ?_
  refine xA (ok_get hC (show decode prog_1_method_12_code 92 = .ok (.getfield 200, 3) by decide +kernel) (by decide) (r0 := ("StyleCourt$Element", xF4, 15)) rfl (by decide) rfl w_229) ?_
  refine xA (ok_get hC (show decode prog_1_method_12_code 95 = .ok (.getfield 199, 3) by decide +kernel) (by decide) (r0 := ("StyleCourt$Element", xF4, 15)) rfl (by decide) rfl w_231) ?_
  refine xA (ok_iret hC hr (show decode prog_1_method_12_code 98 = .ok (.ireturn, 1) by decide +kernel)) ?_
  refine xA (ok_aload_n hC (show decode prog_1_method_12_code 99 = .ok (.aload_n 3, 1) by decide +kernel) rfl) ?_
  refine xA (ok_get hC (show decode prog_1_method_12_code 100 = .ok (.getfield 203, 3) by decide +kernel) (by decide) (r0 := ("StyleCourt$Element", xF4, 15)) rfl (by decide) rfl w_249) ?_
  refine xA (ok_iret hC hr (show decode prog_1_method_12_code 103 = .ok (.ireturn, 1) by decide +kernel)) ?_
  refine xA (ok_aload_n hC (show decode prog_1_method_12_code 104 = .ok (.aload_n 3, 1) by decide +kernel) rfl) ?_
  refine xA (ok_get hC (show decode prog_1_method_12_code 105 = .ok (.getfield 206, 3) by decide +kernel) (by decide) (r0 := ("StyleCourt$Element", xF4, 15)) rfl (by decide) rfl w_238) ?_
  refine xA (ok_iret hC hr (show decode prog_1_method_12_code 108 = .ok (.ireturn, 1) by decide +kernel)) ?_
  refine xA (ok_aload_n hC (show decode prog_1_method_12_code 109 = .ok (.aload_n 3, 1) by decide +kernel) rfl) ?_
  refine xA (ok_get hC (show decode prog_1_method_12_code 110 = .ok (.getfield 209, 3) by decide +kernel) (by decide) (r0 := ("StyleCourt$Element", xF4, 15)) rfl (by decide) rfl w_244) ?_
  refine xA (ok_callV hC hnh (show decode prog_1_method_12_code 113 = .ok (.invokevirtual 113, 3) by decide +kernel) (by decide) (by decide) (by decide) (r0 := ("java/util/ArrayList", xF12, 3)) rfl ⟨by decide, by decide, by decide +kernel⟩ w_644 w_77 w_658 w_642 w_643) ?_
  refine xA (ok_iret hC hr (show decode prog_1_method_12_code 116 = .ok (.ireturn, 1) by decide +kernel)) ?_
  refine xA (ok_aload_n hC (show decode prog_1_method_12_code 117 = .ok (.aload_n 3, 1) by decide +kernel) rfl) ?_
  refine xA (ok_callV hC hnh (show decode prog_1_method_12_code 118 = .ok (.invokevirtual 212, 3) by decide +kernel) (by decide) (by decide) (by decide) (r0 := ("StyleCourt$Element", xF4, 15)) rfl ⟨by decide, by decide, by decide +kernel⟩ w_1021 w_78 w_1106 w_1019 w_1020) ?_
  refine xA (ok_ifeq hC (show decode prog_1_method_12_code 121 = .ok (.ifCond .eq 7, 3) by decide +kernel) (by decide)) ?_
  refine xA (ok_iconst hC (show decode prog_1_method_12_code 124 = .ok (.iconst 1, 1) by decide +kernel) (by decide)) ?_
  refine xA (ok_goto hC (show decode prog_1_method_12_code 125 = .ok (.goto 4, 3) by decide +kernel) (by decide)) ?_
  refine xA (ok_iconst hC (show decode prog_1_method_12_code 128 = .ok (.iconst 0, 1) by decide +kernel) (by decide)) ?_
  refine xA (ok_iret hC hr (show decode prog_1_method_12_code 129 = .ok (.ireturn, 1) by decide +kernel)) ?_
  refine xA (ok_aload_n hC (show decode prog_1_method_12_code 130 = .ok (.aload_n 3, 1) by decide +kernel) rfl) ?_
  refine xA (ok_get hC (show decode prog_1_method_12_code 131 = .ok (.getfield 215, 3) by decide +kernel) (by decide) (r0 := ("StyleCourt$Element", xF4, 15)) rfl (by decide) rfl w_240) ?_
  refine xA (ok_iret hC hr (show decode prog_1_method_12_code 134 = .ok (.ireturn, 1) by decide +kernel)) ?_
  refine xA (ok_aload_n hC (show decode prog_1_method_12_code 135 = .ok (.aload_n 3, 1) by decide +kernel) rfl) ?_
  refine xA (ok_get hC (show decode prog_1_method_12_code 136 = .ok (.getfield 218, 3) by decide +kernel) (by decide) (r0 := ("StyleCourt$Element", xF4, 15)) rfl (by decide) rfl w_257) ?_
  refine xA (ok_iret hC hr (show decode prog_1_method_12_code 139 = .ok (.ireturn, 1) by decide +kernel)) ?_
  refine xA (ok_throw hC hnh ["java/lang/RuntimeException", "java/lang/Exception"] (show decode prog_1_method_12_code 140 = .ok (.new 79, 3) by decide +kernel) (show decode prog_1_method_12_code 143 = .ok (.dup, 1) by decide +kernel) (show decode prog_1_method_12_code 144 = .ok (.ldc 221, 2) by decide +kernel) (show decode prog_1_method_12_code 146 = .ok (.invokespecial 83, 3) by decide +kernel) (show decode prog_1_method_12_code 149 = .ok (.athrow, 1) by decide +kernel) (by decide) (r0 := ("java/lang/IllegalArgumentException", xF15, 0)) rfl rfl w_543 w_88 (j := 12) rfl (by decide +kernel) (by decide +kernel) (ow_Sc_83 ) (by decide) (by decide)) ?_
  exact trivial

def tb_Sc_tell (X : xX) : List (Nat × xOp) := [(0, o_ald 0 1),
  (1, o_ild 1 2),
  (2, o_callV X.l X.D X.P 0 6 2 y_Sc_elementAt 5),
  (5, o_ast 3 6),
  (6, o_ild 2 7),
  (7, o_iflt 25 10),
  (10, o_ild 2 11),
  (11, o_ic 2 12),
  (12, o_ic 2 13),
  (13, o_ald 3 14),
  (14, o_get 4 7 17),
  (17, o_callV X.l X.D X.P 12 0 1 y_AL_size 20),
  (20, o_imul 21),
  (21, o_iadd 22),
  (22, o_iclt 35 25),
  (25, o_throw X.P 15),
  (35, o_ild 2 36),
  (36, o_ic 1 37),
  (37, o_icne 46 40),
  (40, o_ald 0 41),
  (41, o_ald 3 42),
  (42, o_callV X.l X.D X.P 0 6 2 y_Sc_putTexts 45),
  (45, o_iret X.P),
  (46, o_ild 2 47),
  (47, o_ifne 59 50),
  (50, o_ald 0 51),
  (51, o_ald 3 52),
  (52, o_get 4 0 55),
  (55, o_callV X.l X.D X.P 0 2 2 y_Sc_putSlice 58),
  (58, o_iret X.P),
  (59, o_ald 3 60),
  (60, o_get 4 7 63),
  (63, o_ild 2 64),
  (64, o_ic 2 65),
  (65, o_idiv 66),
  (66, o_ic 1 67),
  (67, o_isub 68),
  (68, o_callV X.l X.D X.P 12 2 2 y_AL_get 71),
  (71, o_cast (Nat.beq 3) 74),
  (74, o_ast 4 76),
  (76, o_ald 0 77),
  (77, o_ild 2 78),
  (78, o_ic 2 79),
  (79, o_irem 80),
  (80, o_ifne 91 83),
  (83, o_ald 4 85),
  (85, o_get 3 0 88),
  (88, o_goto 96),
  (91, o_ald 4 93),
  (93, o_get 3 1 96),
  (96, o_callV X.l X.D X.P 0 2 2 y_Sc_putSlice 99),
  (99, o_iret X.P)]
theorem tk_Sc_tell {X : xX} (hC : xCx X prog_1_method_13_code "StyleCourt" 5 7) (hr : X.meth.sig.returnType = (some .int)) (hnh : X.c.exceptionTable.isEmpty = true) (hin : X.meth.name = "tell") : xAll X (tb_Sc_tell X) := by
  refine xA (ok_aload_n hC (show decode prog_1_method_13_code 0 = .ok (.aload_n 0, 1) by decide +kernel) rfl) ?_
  refine xA (ok_iload_n hC (show decode prog_1_method_13_code 1 = .ok (.iload_n 1, 1) by decide +kernel) rfl) ?_
  refine xA (ok_callV hC hnh (show decode prog_1_method_13_code 2 = .ok (.invokevirtual 141, 3) by decide +kernel) (by decide) (by decide) (by decide) (r0 := ("StyleCourt", xF0, 12)) rfl ⟨by decide, by decide, by decide +kernel⟩ w_982 w_69 w_979 w_981 w_19) ?_
  refine xA (ok_astore_n hC (show decode prog_1_method_13_code 5 = .ok (.astore_n 3, 1) by decide +kernel) rfl (by decide)) ?_
  refine xA (ok_iload_n hC (show decode prog_1_method_13_code 6 = .ok (.iload_n 2, 1) by decide +kernel) rfl) ?_
  refine xA (ok_iflt hC (show decode prog_1_method_13_code 7 = .ok (.ifCond .lt 18, 3) by decide +kernel) (by decide)) ?_
  refine xA (ok_iload_n hC (show decode prog_1_method_13_code 10 = .ok (.iload_n 2, 1) by decide +kernel) rfl) ?_
  refine xA (ok_iconst hC (show decode prog_1_method_13_code 11 = .ok (.iconst 2, 1) by decide +kernel) (by decide)) ?_
  refine xA (ok_iconst hC (show decode prog_1_method_13_code 12 = .ok (.iconst 2, 1) by decide +kernel) (by decide)) ?_
  refine xA (ok_aload_n hC (show decode prog_1_method_13_code 13 = .ok (.aload_n 3, 1) by decide +kernel) rfl) ?_
  refine xA (ok_get hC (show decode prog_1_method_13_code 14 = .ok (.getfield 209, 3) by decide +kernel) (by decide) (r0 := ("StyleCourt$Element", xF4, 15)) rfl (by decide) rfl w_244) ?_
  refine xA (ok_callV hC hnh (show decode prog_1_method_13_code 17 = .ok (.invokevirtual 113, 3) by decide +kernel) (by decide) (by decide) (by decide) (r0 := ("java/util/ArrayList", xF12, 3)) rfl ⟨by decide, by decide, by decide +kernel⟩ w_644 w_77 w_658 w_642 w_643) ?_
  refine xA (ok_imul hC (show decode prog_1_method_13_code 20 = .ok (.imul, 1) by decide +kernel)) ?_
  refine xA (ok_iadd hC (show decode prog_1_method_13_code 21 = .ok (.iadd, 1) by decide +kernel)) ?_
  refine xA (ok_iclt hC (show decode prog_1_method_13_code 22 = .ok (.if_icmp .lt 13, 3) by decide +kernel) (by decide)) ?_
  refine xA (ok_throw hC hnh ["java/lang/RuntimeException", "java/lang/Exception"] (show decode prog_1_method_13_code 25 = .ok (.new 79, 3) by decide +kernel) (show decode prog_1_method_13_code 28 = .ok (.dup, 1) by decide +kernel) (show decode prog_1_method_13_code 29 = .ok (.ldc 223, 2) by decide +kernel) (show decode prog_1_method_13_code 31 = .ok (.invokespecial 83, 3) by decide +kernel) (show decode prog_1_method_13_code 34 = .ok (.athrow, 1) by decide +kernel) (by decide) (r0 := ("java/lang/IllegalArgumentException", xF15, 0)) rfl rfl w_543 w_88 (j := 13) rfl (by decide +kernel) (by decide +kernel) (ow_Sc_83 ) (by decide) (by decide)) ?_
  refine xA (ok_iload_n hC (show decode prog_1_method_13_code 35 = .ok (.iload_n 2, 1) by decide +kernel) rfl) ?_
  refine xA (ok_iconst hC (show decode prog_1_method_13_code 36 = .ok (.iconst 1, 1) by decide +kernel) (by decide)) ?_
  refine xA (ok_icne hC (show decode prog_1_method_13_code 37 = .ok (.if_icmp .ne 9, 3) by decide +kernel) (by decide)) ?_
  refine xA (ok_aload_n hC (show decode prog_1_method_13_code 40 = .ok (.aload_n 0, 1) by decide +kernel) rfl) ?_
  refine xA (ok_aload_n hC (show decode prog_1_method_13_code 41 = .ok (.aload_n 3, 1) by decide +kernel) rfl) ?_
  refine xA (ok_callV hC hnh (show decode prog_1_method_13_code 42 = .ok (.invokevirtual 225, 3) by decide +kernel) (by decide) (by decide) (by decide) (r0 := ("StyleCourt", xF0, 12)) rfl ⟨by decide, by decide, by decide +kernel⟩ w_1119 w_69 w_1116 w_1118 w_24) ?_
  refine xA (ok_iret hC hr (show decode prog_1_method_13_code 45 = .ok (.ireturn, 1) by decide +kernel)) ?_
  refine xA (ok_iload_n hC (show decode prog_1_method_13_code 46 = .ok (.iload_n 2, 1) by decide +kernel) rfl) ?_
  refine xA (ok_ifne hC (show decode prog_1_method_13_code 47 = .ok (.ifCond .ne 12, 3) by decide +kernel) (by decide)) ?_
  refine xA (ok_aload_n hC (show decode prog_1_method_13_code 50 = .ok (.aload_n 0, 1) by decide +kernel) rfl) ?_
  refine xA (ok_aload_n hC (show decode prog_1_method_13_code 51 = .ok (.aload_n 3, 1) by decide +kernel) rfl) ?_
  refine xA (ok_get hC (show decode prog_1_method_13_code 52 = .ok (.getfield 229, 3) by decide +kernel) (by decide) (r0 := ("StyleCourt$Element", xF4, 15)) rfl (by decide) rfl w_220) ?_
  refine xA (ok_callV hC hnh (show decode prog_1_method_13_code 55 = .ok (.invokevirtual 233, 3) by decide +kernel) (by decide) (by decide) (by decide) (r0 := ("StyleCourt", xF0, 12)) rfl ⟨by decide, by decide, by decide +kernel⟩ w_1048 w_69 w_1045 w_1047 w_22) ?_
  refine xA (ok_iret hC hr (show decode prog_1_method_13_code 58 = .ok (.ireturn, 1) by decide +kernel)) ?_
  refine xA (ok_aload_n hC (show decode prog_1_method_13_code 59 = .ok (.aload_n 3, 1) by decide +kernel) rfl) ?_
  refine xA (ok_get hC (show decode prog_1_method_13_code 60 = .ok (.getfield 209, 3) by decide +kernel) (by decide) (r0 := ("StyleCourt$Element", xF4, 15)) rfl (by decide) rfl w_244) ?_
  refine xA (ok_iload_n hC (show decode prog_1_method_13_code 63 = .ok (.iload_n 2, 1) by decide +kernel) rfl) ?_
  refine xA (ok_iconst hC (show decode prog_1_method_13_code 64 = .ok (.iconst 2, 1) by decide +kernel) (by decide)) ?_
  refine xA (ok_idiv hC (show decode prog_1_method_13_code 65 = .ok (.idiv, 1) by decide +kernel)) ?_
  refine xA (ok_iconst hC (show decode prog_1_method_13_code 66 = .ok (.iconst 1, 1) by decide +kernel) (by decide)) ?_
  refine xA (ok_isub hC (show decode prog_1_method_13_code 67 = .ok (.isub, 1) by decide +kernel)) ?_
  refine xA (ok_callV hC hnh (show decode prog_1_method_13_code 68 = .ok (.invokevirtual 184, 3) by decide +kernel) (by decide) (by decide) (by decide) (r0 := ("java/util/ArrayList", xF12, 3)) rfl ⟨by decide, by decide, by decide +kernel⟩ w_662 w_77 w_659 w_660 w_661) ?_
  refine xA (ok_cast hC (show decode prog_1_method_13_code 71 = .ok (.checkcast 236, 3) by decide +kernel) w_673 (xcast_ok (r0 := ("StyleCourt$Named", xF3, 2)) (by decide) rfl rfl)) ?_
  refine xA (ok_astore hC (show decode prog_1_method_13_code 74 = .ok (.astore 4, 2) by decide +kernel) (by decide)) ?_
  refine xA (ok_aload_n hC (show decode prog_1_method_13_code 76 = .ok (.aload_n 0, 1) by decide +kernel) rfl) ?_
  refine xA (ok_iload_n hC (show decode prog_1_method_13_code 77 = .ok (.iload_n 2, 1) by decide +kernel) rfl) ?_
  refine xA (ok_iconst hC (show decode prog_1_method_13_code 78 = .ok (.iconst 2, 1) by decide +kernel) (by decide)) ?_
  refine xA (ok_irem hC (show decode prog_1_method_13_code 79 = .ok (.irem, 1) by decide +kernel)) ?_
  refine xA (ok_ifne hC (show decode prog_1_method_13_code 80 = .ok (.ifCond .ne 11, 3) by decide +kernel) (by decide)) ?_
  refine xA (ok_aload hC (show decode prog_1_method_13_code 83 = .ok (.aload 4, 2) by decide +kernel)) ?_
  refine xA (ok_get hC (show decode prog_1_method_13_code 85 = .ok (.getfield 238, 3) by decide +kernel) (by decide) (r0 := ("StyleCourt$Named", xF3, 2)) rfl (by decide) rfl w_302) ?_
  refine xA (ok_goto hC (show decode prog_1_method_13_code 88 = .ok (.goto 8, 3) by decide +kernel) (by decide)) ?_
  refine xA (ok_aload hC (show decode prog_1_method_13_code 91 = .ok (.aload 4, 2) by decide +kernel)) ?_
  refine xA (ok_get hC (show decode prog_1_method_13_code 93 = .ok (.getfield 239, 3) by decide +kernel) (by decide) (r0 := ("StyleCourt$Named", xF3, 2)) rfl (by decide) rfl w_306) ?_
  refine xA (ok_callV hC hnh (show decode prog_1_method_13_code 96 = .ok (.invokevirtual 233, 3) by decide +kernel) (by decide) (by decide) (by decide) (r0 := ("StyleCourt", xF0, 12)) rfl ⟨by decide, by decide, by decide +kernel⟩ w_1048 w_69 w_1045 w_1047 w_22) ?_
  refine xA (ok_iret hC hr (show decode prog_1_method_13_code 99 = .ok (.ireturn, 1) by decide +kernel)) ?_
  exact trivial

def tb_Sc_putTexts (X : xX) : List (Nat × xOp) := [(0, o_ald 0 1),
  (1, o_get 0 8 4),
  (4, o_get 5 1 7),
  (7, o_ast 2 8),
  (8, o_ald 1 9),
  (9, o_get 4 14 12),
  (12, o_ald 2 13),
  (13, o_callV X.l X.D X.P 12 0 1 y_AL_size 16),
  (16, o_min 19),
  (19, o_ist 3 20),
  (20, o_ic 0 21),
  (21, o_ist 4 23),
  (23, o_ald 1 24),
  (24, o_get 4 13 27),
  (27, o_ist 5 29),
  (29, o_ild 5 31),
  (31, o_ild 3 32),
  (32, o_icge 58 35),
  (35, o_ild 4 37),
  (37, o_ald 2 38),
  (38, o_ild 5 40),
  (40, o_callV X.l X.D X.P 12 2 2 y_AL_get 43),
  (43, o_cast (Nat.beq 2) 46),
  (46, o_get 2 2 49),
  (49, o_iadd 50),
  (50, o_ist 4 52),
  (52, o_inc 5 1 55),
  (55, o_goto 29),
  (58, o_ild 4 60),
  (60, o_ic 16384 63),
  (63, o_icle 77 66),
  (66, o_throw X.P 14),
  (77, o_ald 0 78),
  (78, o_ic 0 79),
  (79, o_put 0 3 (.int) 82),
  (82, o_ald 1 83),
  (83, o_get 4 13 86),
  (86, o_ist 5 88),
  (88, o_ild 5 90),
  (90, o_ild 3 91),
  (91, o_icge 124 94),
  (94, o_ald 0 95),
  (95, o_ald 2 96),
  (96, o_ild 5 98),
  (98, o_callV X.l X.D X.P 12 2 2 y_AL_get 101),
  (101, o_cast (Nat.beq 2) 104),
  (104, o_ald 0 105),
  (105, o_get 0 2 108),
  (108, o_ald 0 109),
  (109, o_get 0 3 112),
  (112, o_callV X.l X.D X.P 2 1 3 y_Sl_copyTo 115),
  (115, o_put 0 3 (.int) 118),
  (118, o_inc 5 1 121),
  (121, o_goto 88),
  (124, o_ald 0 125),
  (125, o_get 0 3 128),
  (128, o_iret X.P)]
theorem tk_Sc_putTexts {X : xX} (hC : xCx X prog_1_method_23_code "StyleCourt" 6 6) (hr : X.meth.sig.returnType = (some .int)) (hnh : X.c.exceptionTable.isEmpty = true) (hin : X.meth.name = "putTexts") : xAll X (tb_Sc_putTexts X) := by
  refine xA (ok_aload_n hC (show decode prog_1_method_23_code 0 = .ok (.aload_n 0, 1) by decide +kernel) rfl) ?_
  refine xA (ok_get hC (show decode prog_1_method_23_code 1 = .ok (.getfield 48, 3) by decide +kernel) (by decide) (r0 := ("StyleCourt", xF0, 12)) rfl (by decide) rfl w_423) ?_
  refine xA (ok_get hC (show decode prog_1_method_23_code 4 = .ok (.getfield 278, 3) by decide +kernel) (by decide) (r0 := ("StyleCourt$Source", xF5, 5)) rfl (by decide) rfl w_373) ?_
  refine xA (ok_astore_n hC (show decode prog_1_method_23_code 7 = .ok (.astore_n 2, 1) by decide +kernel) rfl (by decide)) ?_
  refine xA (ok_aload_n hC (show decode prog_1_method_23_code 8 = .ok (.aload_n 1, 1) by decide +kernel) rfl) ?_
  refine xA (ok_get hC (show decode prog_1_method_23_code 9 = .ok (.getfield 281, 3) by decide +kernel) (by decide) (r0 := ("StyleCourt$Element", xF4, 15)) rfl (by decide) rfl w_263) ?_
  refine xA (ok_aload_n hC (show decode prog_1_method_23_code 12 = .ok (.aload_n 2, 1) by decide +kernel) rfl) ?_
  refine xA (ok_callV hC hnh (show decode prog_1_method_23_code 13 = .ok (.invokevirtual 113, 3) by decide +kernel) (by decide) (by decide) (by decide) (r0 := ("java/util/ArrayList", xF12, 3)) rfl ⟨by decide, by decide, by decide +kernel⟩ w_644 w_77 w_658 w_642 w_643) ?_
  refine xA (ok_min hC (by decide) (show decode prog_1_method_23_code 16 = .ok (.invokestatic 284, 3) by decide +kernel) w_1120 w_127 w_72 w_128) ?_
  refine xA (ok_istore_n hC (show decode prog_1_method_23_code 19 = .ok (.istore_n 3, 1) by decide +kernel) rfl (by decide)) ?_
  refine xA (ok_iconst hC (show decode prog_1_method_23_code 20 = .ok (.iconst 0, 1) by decide +kernel) (by decide)) ?_
  refine xA (ok_istore hC (show decode prog_1_method_23_code 21 = .ok (.istore 4, 2) by decide +kernel) (by decide)) ?_
  refine xA (ok_aload_n hC (show decode prog_1_method_23_code 23 = .ok (.aload_n 1, 1) by decide +kernel) rfl) ?_
  refine xA (ok_get hC (show decode prog_1_method_23_code 24 = .ok (.getfield 287, 3) by decide +kernel) (by decide) (r0 := ("StyleCourt$Element", xF4, 15)) rfl (by decide) rfl w_260) ?_
  refine xA (ok_istore hC (show decode prog_1_method_23_code 27 = .ok (.istore 5, 2) by decide +kernel) (by decide)) ?_
  refine xA (ok_iload hC (show decode prog_1_method_23_code 29 = .ok (.iload 5, 2) by decide +kernel)) ?_
  refine xA (ok_iload_n hC (show decode prog_1_method_23_code 31 = .ok (.iload_n 3, 1) by decide +kernel) rfl) ?_
  refine xA (ok_icge hC (show decode prog_1_method_23_code 32 = .ok (.if_icmp .ge 26, 3) by decide +kernel) (by decide)) ?_
  refine xA (ok_iload hC (show decode prog_1_method_23_code 35 = .ok (.iload 4, 2) by decide +kernel)) ?_
  refine xA (ok_aload_n hC (show decode prog_1_method_23_code 37 = .ok (.aload_n 2, 1) by decide +kernel) rfl) ?_
  refine xA (ok_iload hC (show decode prog_1_method_23_code 38 = .ok (.iload 5, 2) by decide +kernel)) ?_
  refine xA (ok_callV hC hnh (show decode prog_1_method_23_code 40 = .ok (.invokevirtual 184, 3) by decide +kernel) (by decide) (by decide) (by decide) (r0 := ("java/util/ArrayList", xF12, 3)) rfl ⟨by decide, by decide, by decide +kernel⟩ w_662 w_77 w_659 w_660 w_661) ?_
  refine xA (ok_cast hC (show decode prog_1_method_23_code 43 = .ok (.checkcast 249, 3) by decide +kernel) w_977 (xcast_ok (r0 := ("StyleCourt$Slice", xF2, 3)) (by decide) rfl rfl)) ?_
  refine xA (ok_get hC (show decode prog_1_method_23_code 46 = .ok (.getfield 290, 3) by decide +kernel) (by decide) (r0 := ("StyleCourt$Slice", xF2, 3)) rfl (by decide) rfl w_202) ?_
  refine xA (ok_iadd hC (show decode prog_1_method_23_code 49 = .ok (.iadd, 1) by decide +kernel)) ?_
  refine xA (ok_istore hC (show decode prog_1_method_23_code 50 = .ok (.istore 4, 2) by decide +kernel) (by decide)) ?_
  refine xA (ok_iinc hC (show decode prog_1_method_23_code 52 = .ok (.iinc 5 1, 3) by decide +kernel) (by decide) (by decide)) ?_
  refine xA (ok_goto hC (show decode prog_1_method_23_code 55 = .ok (.goto (-26), 3) by decide +kernel) (by decide)) ?_
  refine xA (ok_iload hC (show decode prog_1_method_23_code 58 = .ok (.iload 4, 2) by decide +kernel)) ?_
  refine xA (ok_sipush hC (show decode prog_1_method_23_code 60 = .ok (.sipush 16384, 3) by decide +kernel) (by decide)) ?_
  refine xA (ok_icle hC (show decode prog_1_method_23_code 63 = .ok (.if_icmp .le 14, 3) by decide +kernel) (by decide)) ?_
  refine xA (ok_throwW hC hnh ["java/lang/RuntimeException", "java/lang/Exception"] (show decode prog_1_method_23_code 66 = .ok (.new 68, 3) by decide +kernel) (show decode prog_1_method_23_code 69 = .ok (.dup, 1) by decide +kernel) (show decode prog_1_method_23_code 70 = .ok (.ldc_w 293, 3) by decide +kernel) (show decode prog_1_method_23_code 73 = .ok (.invokespecial 72, 3) by decide +kernel) (show decode prog_1_method_23_code 76 = .ok (.athrow, 1) by decide +kernel) (by decide) (r0 := ("java/lang/IndexOutOfBoundsException", xF14, 0)) rfl rfl w_464 w_87 (j := 14) rfl (by decide +kernel) (by decide +kernel) (ow_Sc_72 ) (by decide) (by decide)) ?_
  refine xA (ok_aload_n hC (show decode prog_1_method_23_code 77 = .ok (.aload_n 0, 1) by decide +kernel) rfl) ?_
  refine xA (ok_iconst hC (show decode prog_1_method_23_code 78 = .ok (.iconst 0, 1) by decide +kernel) (by decide)) ?_
  refine xA (ok_put hC (show decode prog_1_method_23_code 79 = .ok (.putfield 20, 3) by decide +kernel) (by decide) (r0 := ("StyleCourt", xF0, 12)) rfl (by decide) rfl (by decide +kernel) w_418) ?_
  refine xA (ok_aload_n hC (show decode prog_1_method_23_code 82 = .ok (.aload_n 1, 1) by decide +kernel) rfl) ?_
  refine xA (ok_get hC (show decode prog_1_method_23_code 83 = .ok (.getfield 287, 3) by decide +kernel) (by decide) (r0 := ("StyleCourt$Element", xF4, 15)) rfl (by decide) rfl w_260) ?_
  refine xA (ok_istore hC (show decode prog_1_method_23_code 86 = .ok (.istore 5, 2) by decide +kernel) (by decide)) ?_
  refine xA (ok_iload hC (show decode prog_1_method_23_code 88 = .ok (.iload 5, 2) by decide +kernel)) ?_
  refine xA (ok_iload_n hC (show decode prog_1_method_23_code 90 = .ok (.iload_n 3, 1) by decide +kernel) rfl) ?_
  refine xA (ok_icge hC (show decode prog_1_method_23_code 91 = .ok (.if_icmp .ge 33, 3) by decide +kernel) (by decide)) ?_
  refine xA (ok_aload_n hC (show decode prog_1_method_23_code 94 = .ok (.aload_n 0, 1) by decide +kernel) rfl) ?_
  refine xA (ok_aload_n hC (show decode prog_1_method_23_code 95 = .ok (.aload_n 2, 1) by decide +kernel) rfl) ?_
  refine xA (ok_iload hC (show decode prog_1_method_23_code 96 = .ok (.iload 5, 2) by decide +kernel)) ?_
  refine xA (ok_callV hC hnh (show decode prog_1_method_23_code 98 = .ok (.invokevirtual 184, 3) by decide +kernel) (by decide) (by decide) (by decide) (r0 := ("java/util/ArrayList", xF12, 3)) rfl ⟨by decide, by decide, by decide +kernel⟩ w_662 w_77 w_659 w_660 w_661) ?_
  refine xA (ok_cast hC (show decode prog_1_method_23_code 101 = .ok (.checkcast 249, 3) by decide +kernel) w_977 (xcast_ok (r0 := ("StyleCourt$Slice", xF2, 3)) (by decide) rfl rfl)) ?_
  refine xA (ok_aload_n hC (show decode prog_1_method_23_code 104 = .ok (.aload_n 0, 1) by decide +kernel) rfl) ?_
  refine xA (ok_get hC (show decode prog_1_method_23_code 105 = .ok (.getfield 17, 3) by decide +kernel) (by decide) (r0 := ("StyleCourt", xF0, 12)) rfl (by decide) rfl w_417) ?_
  refine xA (ok_aload_n hC (show decode prog_1_method_23_code 108 = .ok (.aload_n 0, 1) by decide +kernel) rfl) ?_
  refine xA (ok_get hC (show decode prog_1_method_23_code 109 = .ok (.getfield 20, 3) by decide +kernel) (by decide) (r0 := ("StyleCourt", xF0, 12)) rfl (by decide) rfl w_418) ?_
  refine xA (ok_callV hC hnh (show decode prog_1_method_23_code 112 = .ok (.invokevirtual 274, 3) by decide +kernel) (by decide) (by decide) (by decide) (r0 := ("StyleCourt$Slice", xF2, 3)) rfl ⟨by decide, by decide, by decide +kernel⟩ w_1052 w_79 w_1049 w_1050 w_1051) ?_
  refine xA (ok_put hC (show decode prog_1_method_23_code 115 = .ok (.putfield 20, 3) by decide +kernel) (by decide) (r0 := ("StyleCourt", xF0, 12)) rfl (by decide) rfl (by decide +kernel) w_418) ?_
  refine xA (ok_iinc hC (show decode prog_1_method_23_code 118 = .ok (.iinc 5 1, 3) by decide +kernel) (by decide) (by decide)) ?_
  refine xA (ok_goto hC (show decode prog_1_method_23_code 121 = .ok (.goto (-33), 3) by decide +kernel) (by decide)) ?_
  refine xA (ok_aload_n hC (show decode prog_1_method_23_code 124 = .ok (.aload_n 0, 1) by decide +kernel) rfl) ?_
  refine xA (ok_get hC (show decode prog_1_method_23_code 125 = .ok (.getfield 20, 3) by decide +kernel) (by decide) (r0 := ("StyleCourt", xF0, 12)) rfl (by decide) rfl w_418) ?_
  refine xA (ok_iret hC hr (show decode prog_1_method_23_code 128 = .ok (.ireturn, 1) by decide +kernel)) ?_
  exact trivial

def tb_Sc_word (X : xX) : List (Nat × xOp) := [(0, o_ild 1 1),
  (1, o_iflt 12 4),
  (4, o_ild 1 5),
  (5, o_ald 0 6),
  (6, o_get 0 3 9),
  (9, o_iclt 22 12),
  (12, o_throw X.P 14),
  (22, o_lc 0 23),
  (23, o_lst 2 24),
  (24, o_ild 1 25),
  (25, o_ist 4 27),
  (27, o_ild 4 29),
  (29, o_ild 1 30),
  (30, o_ic 8 32),
  (32, o_iadd 33),
  (33, o_icge 73 36),
  (36, o_lld 2 37),
  (37, o_ic 8 39),
  (39, o_lshl 40),
  (40, o_ild 4 42),
  (42, o_ald 0 43),
  (43, o_get 0 3 46),
  (46, o_icge 63 49),
  (49, o_ald 0 50),
  (50, o_get 0 2 53),
  (53, o_ild 4 55),
  (55, o_ld 1 56),
  (56, o_ic 255 59),
  (59, o_iand 60),
  (60, o_goto 64),
  (63, o_ic 0 64),
  (64, o_i2l 65),
  (65, o_lor 66),
  (66, o_lst 2 67),
  (67, o_inc 4 1 70),
  (70, o_goto 27),
  (73, o_lld 2 74),
  (74, o_lret X.P)]
theorem tk_Sc_word {X : xX} (hC : xCx X prog_1_method_14_code "StyleCourt" 5 6) (hr : X.meth.sig.returnType = (some .long)) (hnh : X.c.exceptionTable.isEmpty = true) (hin : X.meth.name = "word") : xAll X (tb_Sc_word X) := by
  refine xA (ok_iload_n hC (show decode prog_1_method_14_code 0 = .ok (.iload_n 1, 1) by decide +kernel) rfl) ?_
  refine xA (ok_iflt hC (show decode prog_1_method_14_code 1 = .ok (.ifCond .lt 11, 3) by decide +kernel) (by decide)) ?_
  refine xA (ok_iload_n hC (show decode prog_1_method_14_code 4 = .ok (.iload_n 1, 1) by decide +kernel) rfl) ?_
  refine xA (ok_aload_n hC (show decode prog_1_method_14_code 5 = .ok (.aload_n 0, 1) by decide +kernel) rfl) ?_
  refine xA (ok_get hC (show decode prog_1_method_14_code 6 = .ok (.getfield 20, 3) by decide +kernel) (by decide) (r0 := ("StyleCourt", xF0, 12)) rfl (by decide) rfl w_418) ?_
  refine xA (ok_iclt hC (show decode prog_1_method_14_code 9 = .ok (.if_icmp .lt 13, 3) by decide +kernel) (by decide)) ?_
  refine xA (ok_throw hC hnh ["java/lang/RuntimeException", "java/lang/Exception"] (show decode prog_1_method_14_code 12 = .ok (.new 68, 3) by decide +kernel) (show decode prog_1_method_14_code 15 = .ok (.dup, 1) by decide +kernel) (show decode prog_1_method_14_code 16 = .ok (.ldc 242, 2) by decide +kernel) (show decode prog_1_method_14_code 18 = .ok (.invokespecial 72, 3) by decide +kernel) (show decode prog_1_method_14_code 21 = .ok (.athrow, 1) by decide +kernel) (by decide) (r0 := ("java/lang/IndexOutOfBoundsException", xF14, 0)) rfl rfl w_464 w_87 (j := 15) rfl (by decide +kernel) (by decide +kernel) (ow_Sc_72 ) (by decide) (by decide)) ?_
  refine xA (ok_lconst hC (show decode prog_1_method_14_code 22 = .ok (.lconst 0, 1) by decide +kernel) (by decide)) ?_
  refine xA (ok_lstore_n hC (show decode prog_1_method_14_code 23 = .ok (.lstore_n 2, 1) by decide +kernel) rfl (by decide)) ?_
  refine xA (ok_iload_n hC (show decode prog_1_method_14_code 24 = .ok (.iload_n 1, 1) by decide +kernel) rfl) ?_
  refine xA (ok_istore hC (show decode prog_1_method_14_code 25 = .ok (.istore 4, 2) by decide +kernel) (by decide)) ?_
  refine xA (ok_iload hC (show decode prog_1_method_14_code 27 = .ok (.iload 4, 2) by decide +kernel)) ?_
  refine xA (ok_iload_n hC (show decode prog_1_method_14_code 29 = .ok (.iload_n 1, 1) by decide +kernel) rfl) ?_
  refine xA (ok_bipush hC (show decode prog_1_method_14_code 30 = .ok (.bipush 8, 2) by decide +kernel) (by decide)) ?_
  refine xA (ok_iadd hC (show decode prog_1_method_14_code 32 = .ok (.iadd, 1) by decide +kernel)) ?_
  refine xA (ok_icge hC (show decode prog_1_method_14_code 33 = .ok (.if_icmp .ge 40, 3) by decide +kernel) (by decide)) ?_
  refine xA (ok_lload_n hC (show decode prog_1_method_14_code 36 = .ok (.lload_n 2, 1) by decide +kernel) rfl) ?_
  refine xA (ok_bipush hC (show decode prog_1_method_14_code 37 = .ok (.bipush 8, 2) by decide +kernel) (by decide)) ?_
  refine xA (ok_lshl hC (show decode prog_1_method_14_code 39 = .ok (.lshl, 1) by decide +kernel)) ?_
  refine xA (ok_iload hC (show decode prog_1_method_14_code 40 = .ok (.iload 4, 2) by decide +kernel)) ?_
  refine xA (ok_aload_n hC (show decode prog_1_method_14_code 42 = .ok (.aload_n 0, 1) by decide +kernel) rfl) ?_
  refine xA (ok_get hC (show decode prog_1_method_14_code 43 = .ok (.getfield 20, 3) by decide +kernel) (by decide) (r0 := ("StyleCourt", xF0, 12)) rfl (by decide) rfl w_418) ?_
  refine xA (ok_icge hC (show decode prog_1_method_14_code 46 = .ok (.if_icmp .ge 17, 3) by decide +kernel) (by decide)) ?_
  refine xA (ok_aload_n hC (show decode prog_1_method_14_code 49 = .ok (.aload_n 0, 1) by decide +kernel) rfl) ?_
  refine xA (ok_get hC (show decode prog_1_method_14_code 50 = .ok (.getfield 17, 3) by decide +kernel) (by decide) (r0 := ("StyleCourt", xF0, 12)) rfl (by decide) rfl w_417) ?_
  refine xA (ok_iload hC (show decode prog_1_method_14_code 53 = .ok (.iload 4, 2) by decide +kernel)) ?_
  refine xA (ok_bald hC (show decode prog_1_method_14_code 55 = .ok (.baload, 1) by decide +kernel) (by decide) rfl) ?_
  refine xA (ok_sipush hC (show decode prog_1_method_14_code 56 = .ok (.sipush 255, 3) by decide +kernel) (by decide)) ?_
  refine xA (ok_iand hC (show decode prog_1_method_14_code 59 = .ok (.iand, 1) by decide +kernel)) ?_
  refine xA (ok_goto hC (show decode prog_1_method_14_code 60 = .ok (.goto 4, 3) by decide +kernel) (by decide)) ?_
  refine xA (ok_iconst hC (show decode prog_1_method_14_code 63 = .ok (.iconst 0, 1) by decide +kernel) (by decide)) ?_
  refine xA (ok_i2l hC (show decode prog_1_method_14_code 64 = .ok (.i2l, 1) by decide +kernel)) ?_
  refine xA (ok_lor hC (show decode prog_1_method_14_code 65 = .ok (.lor, 1) by decide +kernel)) ?_
  refine xA (ok_lstore_n hC (show decode prog_1_method_14_code 66 = .ok (.lstore_n 2, 1) by decide +kernel) rfl (by decide)) ?_
  refine xA (ok_iinc hC (show decode prog_1_method_14_code 67 = .ok (.iinc 4 1, 3) by decide +kernel) (by decide) (by decide)) ?_
  refine xA (ok_goto hC (show decode prog_1_method_14_code 70 = .ok (.goto (-43), 3) by decide +kernel) (by decide)) ?_
  refine xA (ok_lload_n hC (show decode prog_1_method_14_code 73 = .ok (.lload_n 2, 1) by decide +kernel) rfl) ?_
  refine xA (ok_lret hC hr (show decode prog_1_method_14_code 74 = .ok (.lreturn, 1) by decide +kernel)) ?_
  exact trivial

def tb_Sc_count (X : xX) : List (Nat × xOp) := [(0, o_ild 1 1),
  (1, o_ic 10 3),
  (3, o_iclt 54 6),
  (6, o_ild 1 7),
  (7, o_ic 130 10),
  (10, o_icge 54 13),
  (13, o_ild 1 14),
  (14, o_ic 10 16),
  (16, o_isub 17),
  (17, o_ist 2 18),
  (18, o_ild 2 19),
  (19, o_ald 0 20),
  (20, o_get 0 9 23),
  (23, o_get 11 1 26),
  (26, o_callV X.l X.D X.P 12 0 1 y_AL_size 29),
  (29, o_icge 52 32),
  (32, o_ald 0 33),
  (33, o_get 0 9 36),
  (36, o_get 11 1 39),
  (39, o_ild 2 40),
  (40, o_callV X.l X.D X.P 12 2 2 y_AL_get 43),
  (43, o_cast (Nat.beq 8) 46),
  (46, o_get 8 1 49),
  (49, o_goto 53),
  (52, o_ic (-1) 53),
  (53, o_iret X.P),
  (54, o_ild 1 55),
  (55, o_sw [(0, 96), (1, 101), (2, 106), (3, 117), (4, 125), (5, 136), (6, 141)] 146),
  (96, o_ald 0 97),
  (97, o_get 0 1 100),
  (100, o_iret X.P),
  (101, o_ald 0 102),
  (102, o_get 0 3 105),
  (105, o_iret X.P),
  (106, o_ald 0 107),
  (107, o_get 0 9 110),
  (110, o_get 11 1 113),
  (113, o_callV X.l X.D X.P 12 0 1 y_AL_size 116),
  (116, o_iret X.P),
  (117, o_ald 0 118),
  (118, o_get 0 9 121),
  (121, o_get 11 3 124),
  (124, o_iret X.P),
  (125, o_ald 0 126),
  (126, o_get 0 8 129),
  (129, o_get 5 0 132),
  (132, o_callV X.l X.D X.P 12 0 1 y_AL_size 135),
  (135, o_iret X.P),
  (136, o_ald 0 137),
  (137, o_get 0 5 140),
  (140, o_iret X.P),
  (141, o_ald 0 142),
  (142, o_get 0 6 145),
  (145, o_iret X.P),
  (146, o_throw X.P 15)]
theorem tk_Sc_count {X : xX} (hC : xCx X prog_1_method_15_code "StyleCourt" 3 6) (hr : X.meth.sig.returnType = (some .int)) (hnh : X.c.exceptionTable.isEmpty = true) (hin : X.meth.name = "count") : xAll X (tb_Sc_count X) := by
  refine xA (ok_iload_n hC (show decode prog_1_method_15_code 0 = .ok (.iload_n 1, 1) by decide +kernel) rfl) ?_
  refine xA (ok_bipush hC (show decode prog_1_method_15_code 1 = .ok (.bipush 10, 2) by decide +kernel) (by decide)) ?_
  refine xA (ok_iclt hC (show decode prog_1_method_15_code 3 = .ok (.if_icmp .lt 51, 3) by decide +kernel) (by decide)) ?_
  refine xA (ok_iload_n hC (show decode prog_1_method_15_code 6 = .ok (.iload_n 1, 1) by decide +kernel) rfl) ?_
  refine xA (ok_sipush hC (show decode prog_1_method_15_code 7 = .ok (.sipush 130, 3) by decide +kernel) (by decide)) ?_
  refine xA (ok_icge hC (show decode prog_1_method_15_code 10 = .ok (.if_icmp .ge 44, 3) by decide +kernel) (by decide)) ?_
  refine xA (ok_iload_n hC (show decode prog_1_method_15_code 13 = .ok (.iload_n 1, 1) by decide +kernel) rfl) ?_
  refine xA (ok_bipush hC (show decode prog_1_method_15_code 14 = .ok (.bipush 10, 2) by decide +kernel) (by decide)) ?_
  refine xA (ok_isub hC (show decode prog_1_method_15_code 16 = .ok (.isub, 1) by decide +kernel)) ?_
  refine xA (ok_istore_n hC (show decode prog_1_method_15_code 17 = .ok (.istore_n 2, 1) by decide +kernel) rfl (by decide)) ?_
  refine xA (ok_iload_n hC (show decode prog_1_method_15_code 18 = .ok (.iload_n 2, 1) by decide +kernel) rfl) ?_
  refine xA (ok_aload_n hC (show decode prog_1_method_15_code 19 = .ok (.aload_n 0, 1) by decide +kernel) rfl) ?_
  refine xA (ok_get hC (show decode prog_1_method_15_code 20 = .ok (.getfield 55, 3) by decide +kernel) (by decide) (r0 := ("StyleCourt", xF0, 12)) rfl (by decide) rfl w_424) ?_
  refine xA (ok_get hC (show decode prog_1_method_15_code 23 = .ok (.getfield 131, 3) by decide +kernel) (by decide) (r0 := ("StyleCourt$Style", xF11, 4)) rfl (by decide) rfl w_400) ?_
  refine xA (ok_callV hC hnh (show decode prog_1_method_15_code 26 = .ok (.invokevirtual 113, 3) by decide +kernel) (by decide) (by decide) (by decide) (r0 := ("java/util/ArrayList", xF12, 3)) rfl ⟨by decide, by decide, by decide +kernel⟩ w_644 w_77 w_658 w_642 w_643) ?_
  refine xA (ok_icge hC (show decode prog_1_method_15_code 29 = .ok (.if_icmp .ge 23, 3) by decide +kernel) (by decide)) ?_
  refine xA (ok_aload_n hC (show decode prog_1_method_15_code 32 = .ok (.aload_n 0, 1) by decide +kernel) rfl) ?_
  refine xA (ok_get hC (show decode prog_1_method_15_code 33 = .ok (.getfield 55, 3) by decide +kernel) (by decide) (r0 := ("StyleCourt", xF0, 12)) rfl (by decide) rfl w_424) ?_
  refine xA (ok_get hC (show decode prog_1_method_15_code 36 = .ok (.getfield 131, 3) by decide +kernel) (by decide) (r0 := ("StyleCourt$Style", xF11, 4)) rfl (by decide) rfl w_400) ?_
  refine xA (ok_iload_n hC (show decode prog_1_method_15_code 39 = .ok (.iload_n 2, 1) by decide +kernel) rfl) ?_
  refine xA (ok_callV hC hnh (show decode prog_1_method_15_code 40 = .ok (.invokevirtual 184, 3) by decide +kernel) (by decide) (by decide) (by decide) (r0 := ("java/util/ArrayList", xF12, 3)) rfl ⟨by decide, by decide, by decide +kernel⟩ w_662 w_77 w_659 w_660 w_661) ?_
  refine xA (ok_cast hC (show decode prog_1_method_15_code 43 = .ok (.checkcast 172, 3) by decide +kernel) w_1079 (xcast_ok (r0 := ("StyleCourt$Selector", xF8, 2)) (by decide) rfl rfl)) ?_
  refine xA (ok_get hC (show decode prog_1_method_15_code 46 = .ok (.getfield 181, 3) by decide +kernel) (by decide) (r0 := ("StyleCourt$Selector", xF8, 2)) rfl (by decide) rfl w_762) ?_
  refine xA (ok_goto hC (show decode prog_1_method_15_code 49 = .ok (.goto 4, 3) by decide +kernel) (by decide)) ?_
  refine xA (ok_iconst hC (show decode prog_1_method_15_code 52 = .ok (.iconst (-1), 1) by decide +kernel) (by decide)) ?_
  refine xA (ok_iret hC hr (show decode prog_1_method_15_code 53 = .ok (.ireturn, 1) by decide +kernel)) ?_
  refine xA (ok_iload_n hC (show decode prog_1_method_15_code 54 = .ok (.iload_n 1, 1) by decide +kernel) rfl) ?_
  refine xA (ok_table hC [(0, 96), (1, 101), (2, 106), (3, 117), (4, 125), (5, 136), (6, 141)] (show decode prog_1_method_15_code 55 = .ok (.tableswitch 91 0 6 #[41, 46, 51, 62, 70, 81, 86], 41) by decide +kernel) (by decide) (by decide) (by decide)) ?_
  refine xA (ok_aload_n hC (show decode prog_1_method_15_code 96 = .ok (.aload_n 0, 1) by decide +kernel) rfl) ?_
  refine xA (ok_get hC (show decode prog_1_method_15_code 97 = .ok (.getfield 13, 3) by decide +kernel) (by decide) (r0 := ("StyleCourt", xF0, 12)) rfl (by decide) rfl w_416) ?_
  refine xA (ok_iret hC hr (show decode prog_1_method_15_code 100 = .ok (.ireturn, 1) by decide +kernel)) ?_
  refine xA (ok_aload_n hC (show decode prog_1_method_15_code 101 = .ok (.aload_n 0, 1) by decide +kernel) rfl) ?_
  refine xA (ok_get hC (show decode prog_1_method_15_code 102 = .ok (.getfield 20, 3) by decide +kernel) (by decide) (r0 := ("StyleCourt", xF0, 12)) rfl (by decide) rfl w_418) ?_
  refine xA (ok_iret hC hr (show decode prog_1_method_15_code 105 = .ok (.ireturn, 1) by decide +kernel)) ?_
  refine xA (ok_aload_n hC (show decode prog_1_method_15_code 106 = .ok (.aload_n 0, 1) by decide +kernel) rfl) ?_
  refine xA (ok_get hC (show decode prog_1_method_15_code 107 = .ok (.getfield 55, 3) by decide +kernel) (by decide) (r0 := ("StyleCourt", xF0, 12)) rfl (by decide) rfl w_424) ?_
  refine xA (ok_get hC (show decode prog_1_method_15_code 110 = .ok (.getfield 131, 3) by decide +kernel) (by decide) (r0 := ("StyleCourt$Style", xF11, 4)) rfl (by decide) rfl w_400) ?_
  refine xA (ok_callV hC hnh (show decode prog_1_method_15_code 113 = .ok (.invokevirtual 113, 3) by decide +kernel) (by decide) (by decide) (by decide) (r0 := ("java/util/ArrayList", xF12, 3)) rfl ⟨by decide, by decide, by decide +kernel⟩ w_644 w_77 w_658 w_642 w_643) ?_
  refine xA (ok_iret hC hr (show decode prog_1_method_15_code 116 = .ok (.ireturn, 1) by decide +kernel)) ?_
  refine xA (ok_aload_n hC (show decode prog_1_method_15_code 117 = .ok (.aload_n 0, 1) by decide +kernel) rfl) ?_
  refine xA (ok_get hC (show decode prog_1_method_15_code 118 = .ok (.getfield 55, 3) by decide +kernel) (by decide) (r0 := ("StyleCourt", xF0, 12)) rfl (by decide) rfl w_424) ?_
  refine xA (ok_get hC (show decode prog_1_method_15_code 121 = .ok (.getfield 244, 3) by decide +kernel) (by decide) (r0 := ("StyleCourt$Style", xF11, 4)) rfl (by decide) rfl w_403) ?_
  refine xA (ok_iret hC hr (show decode prog_1_method_15_code 124 = .ok (.ireturn, 1) by decide +kernel)) ?_
  refine xA (ok_aload_n hC (show decode prog_1_method_15_code 125 = .ok (.aload_n 0, 1) by decide +kernel) rfl) ?_
  refine xA (ok_get hC (show decode prog_1_method_15_code 126 = .ok (.getfield 48, 3) by decide +kernel) (by decide) (r0 := ("StyleCourt", xF0, 12)) rfl (by decide) rfl w_423) ?_
  refine xA (ok_get hC (show decode prog_1_method_15_code 129 = .ok (.getfield 109, 3) by decide +kernel) (by decide) (r0 := ("StyleCourt$Source", xF5, 5)) rfl (by decide) rfl w_371) ?_
  refine xA (ok_callV hC hnh (show decode prog_1_method_15_code 132 = .ok (.invokevirtual 113, 3) by decide +kernel) (by decide) (by decide) (by decide) (r0 := ("java/util/ArrayList", xF12, 3)) rfl ⟨by decide, by decide, by decide +kernel⟩ w_644 w_77 w_658 w_642 w_643) ?_
  refine xA (ok_iret hC hr (show decode prog_1_method_15_code 135 = .ok (.ireturn, 1) by decide +kernel)) ?_
  refine xA (ok_aload_n hC (show decode prog_1_method_15_code 136 = .ok (.aload_n 0, 1) by decide +kernel) rfl) ?_
  refine xA (ok_get hC (show decode prog_1_method_15_code 137 = .ok (.getfield 27, 3) by decide +kernel) (by decide) (r0 := ("StyleCourt", xF0, 12)) rfl (by decide) rfl w_420) ?_
  refine xA (ok_iret hC hr (show decode prog_1_method_15_code 140 = .ok (.ireturn, 1) by decide +kernel)) ?_
  refine xA (ok_aload_n hC (show decode prog_1_method_15_code 141 = .ok (.aload_n 0, 1) by decide +kernel) rfl) ?_
  refine xA (ok_get hC (show decode prog_1_method_15_code 142 = .ok (.getfield 30, 3) by decide +kernel) (by decide) (r0 := ("StyleCourt", xF0, 12)) rfl (by decide) rfl w_421) ?_
  refine xA (ok_iret hC hr (show decode prog_1_method_15_code 145 = .ok (.ireturn, 1) by decide +kernel)) ?_
  refine xA (ok_throw hC hnh ["java/lang/RuntimeException", "java/lang/Exception"] (show decode prog_1_method_15_code 146 = .ok (.new 79, 3) by decide +kernel) (show decode prog_1_method_15_code 149 = .ok (.dup, 1) by decide +kernel) (show decode prog_1_method_15_code 150 = .ok (.ldc 247, 2) by decide +kernel) (show decode prog_1_method_15_code 152 = .ok (.invokespecial 83, 3) by decide +kernel) (show decode prog_1_method_15_code 155 = .ok (.athrow, 1) by decide +kernel) (by decide) (r0 := ("java/lang/IllegalArgumentException", xF15, 0)) rfl rfl w_543 w_88 (j := 16) rfl (by decide +kernel) (by decide +kernel) (ow_Sc_83 ) (by decide) (by decide)) ?_
  exact trivial
