def tb_AL_init (X : xX) : List (Nat × xOp) := [(0, o_ald 0 1),
  (1, o_callI X.l X.D X.P 2 1 y_AB_init 4),
  (4, o_ald 0 5),
  (5, o_gets X.D 1 8),
  (8, o_put 12 1 (.array (.object "java/lang/Object")) 11),
  (11, o_vret X.P)]
theorem tk_AL_init {X : xX} (hC : xCx X prog_31_method_2_code "java/util/ArrayList" 1 3) (hr : X.meth.sig.returnType = none) (hnh : X.c.exceptionTable.isEmpty = true) (hin : X.meth.name = "<init>") : xAll X (tb_AL_init X) := by
  refine xA (ok_aload_n hC (show decode prog_31_method_2_code 0 = .ok (.aload_n 0, 1) by decide +kernel) rfl) ?_
  refine xA (ok_callI hC hnh (show decode prog_31_method_2_code 1 = .ok (.invokespecial 1, 3) by decide +kernel) (by decide) (by decide) ⟨by decide, by decide, by decide +kernel⟩ rfl w_167 w_76 w_165 w_166) ?_
  refine xA (ok_aload_n hC (show decode prog_31_method_2_code 4 = .ok (.aload_n 0, 1) by decide +kernel) rfl) ?_
  refine xA (ok_gets hC (show decode prog_31_method_2_code 5 = .ok (.getstatic 39, 3) by decide +kernel) (i := 1) rfl w_172) ?_
  refine xA (ok_put hC (show decode prog_31_method_2_code 8 = .ok (.putfield 9, 3) by decide +kernel) (by decide) (r0 := ("java/util/ArrayList", xF12, 3)) rfl (by decide) rfl (by decide +kernel) w_174) ?_
  refine xA (ok_vret hC hr (show decode prog_31_method_2_code 11 = .ok (.return_, 1) by decide +kernel)) ?_
  exact trivial

def tb_AL_add (X : xX) : List (Nat × xOp) := [(0, o_ald 0 1),
  (1, o_dup 2),
  (2, o_get 12 0 5),
  (5, o_ic 1 6),
  (6, o_iadd 7),
  (7, o_put 12 0 (.int) 10),
  (10, o_ald 0 11),
  (11, o_ald 1 12),
  (12, o_ald 0 13),
  (13, o_get 12 1 16),
  (16, o_ald 0 17),
  (17, o_get 12 2 20),
  (20, o_callV X.l X.D X.P 12 5 4 y_AL_add2 23),
  (23, o_ic 1 24),
  (24, o_zret .boolean X.P)]
theorem tk_AL_add {X : xX} (hC : xCx X prog_31_method_25_code "java/util/ArrayList" 2 6) (hr : X.meth.sig.returnType = (some .boolean)) (hnh : X.c.exceptionTable.isEmpty = true) (hin : X.meth.name = "add") : xAll X (tb_AL_add X) := by
  refine xA (ok_aload_n hC (show decode prog_31_method_25_code 0 = .ok (.aload_n 0, 1) by decide +kernel) rfl) ?_
  refine xA (ok_dup hC (show decode prog_31_method_25_code 1 = .ok (.dup, 1) by decide +kernel)) ?_
  refine xA (ok_getU hC (show decode prog_31_method_25_code 2 = .ok (.getfield 63, 3) by decide +kernel) (by decide) (r0 := ("java/util/ArrayList", xF12, 3)) rfl (by decide) rfl w_177 w_178) ?_
  refine xA (ok_iconst hC (show decode prog_31_method_25_code 5 = .ok (.iconst 1, 1) by decide +kernel) (by decide)) ?_
  refine xA (ok_iadd hC (show decode prog_31_method_25_code 6 = .ok (.iadd, 1) by decide +kernel)) ?_
  refine xA (ok_putU hC (show decode prog_31_method_25_code 7 = .ok (.putfield 63, 3) by decide +kernel) (by decide) (r0 := ("java/util/ArrayList", xF12, 3)) rfl (by decide) rfl (by decide +kernel) w_177 w_178) ?_
  refine xA (ok_aload_n hC (show decode prog_31_method_25_code 10 = .ok (.aload_n 0, 1) by decide +kernel) rfl) ?_
  refine xA (ok_aload_n hC (show decode prog_31_method_25_code 11 = .ok (.aload_n 1, 1) by decide +kernel) rfl) ?_
  refine xA (ok_aload_n hC (show decode prog_31_method_25_code 12 = .ok (.aload_n 0, 1) by decide +kernel) rfl) ?_
  refine xA (ok_get hC (show decode prog_31_method_25_code 13 = .ok (.getfield 9, 3) by decide +kernel) (by decide) (r0 := ("java/util/ArrayList", xF12, 3)) rfl (by decide) rfl w_174) ?_
  refine xA (ok_aload_n hC (show decode prog_31_method_25_code 16 = .ok (.aload_n 0, 1) by decide +kernel) rfl) ?_
  refine xA (ok_get hC (show decode prog_31_method_25_code 17 = .ok (.getfield 48, 3) by decide +kernel) (by decide) (r0 := ("java/util/ArrayList", xF12, 3)) rfl (by decide) rfl w_175) ?_
  refine xA (ok_callV hC hnh (show decode prog_31_method_25_code 20 = .ok (.invokevirtual 131, 3) by decide +kernel) (by decide) (by decide) (by decide) (r0 := ("java/util/ArrayList", xF12, 3)) rfl ⟨by decide, by decide, by decide +kernel⟩ w_319 w_77 w_316 w_318 w_0) ?_
  refine xA (ok_iconst hC (show decode prog_31_method_25_code 23 = .ok (.iconst 1, 1) by decide +kernel) (by decide)) ?_
  refine xA (ok_zret hC hr (show decode prog_31_method_25_code 24 = .ok (.ireturn, 1) by decide +kernel)) ?_
  exact trivial

def tb_AL_add2 (X : xX) : List (Nat × xOp) := [(0, o_ild 3 1),
  (1, o_ald 2 2),
  (2, o_len 3),
  (3, o_icne 11 6),
  (6, o_ald 0 7),
  (7, o_callV X.l X.D X.P 12 4 1 y_AL_grow 10),
  (10, o_ast 2 11),
  (11, o_ald 2 12),
  (12, o_ild 3 13),
  (13, o_ald 1 14),
  (14, o_aast 4 xok4 15),
  (15, o_ald 0 16),
  (16, o_ild 3 17),
  (17, o_ic 1 18),
  (18, o_iadd 19),
  (19, o_put 12 2 (.int) 22),
  (22, o_vret X.P)]
theorem tk_AL_add2 {X : xX} (hC : xCx X prog_31_method_24_code "java/util/ArrayList" 4 5) (hr : X.meth.sig.returnType = none) (hnh : X.c.exceptionTable.isEmpty = true) (hin : X.meth.name = "add") : xAll X (tb_AL_add2 X) := by
  refine xA (ok_iload_n hC (show decode prog_31_method_24_code 0 = .ok (.iload_n 3, 1) by decide +kernel) rfl) ?_
  refine xA (ok_aload_n hC (show decode prog_31_method_24_code 1 = .ok (.aload_n 2, 1) by decide +kernel) rfl) ?_
  refine xA (ok_len hC (show decode prog_31_method_24_code 2 = .ok (.arraylength, 1) by decide +kernel)) ?_
  refine xA (ok_icne hC (show decode prog_31_method_24_code 3 = .ok (.if_icmp .ne 8, 3) by decide +kernel) (by decide)) ?_
  refine xA (ok_aload_n hC (show decode prog_31_method_24_code 6 = .ok (.aload_n 0, 1) by decide +kernel) rfl) ?_
  refine xA (ok_callV hC hnh (show decode prog_31_method_24_code 7 = .ok (.invokevirtual 129, 3) by decide +kernel) (by decide) (by decide) (by decide) (r0 := ("java/util/ArrayList", xF12, 3)) rfl ⟨by decide, by decide, by decide +kernel⟩ w_323 w_77 w_320 w_322 w_1) ?_
  refine xA (ok_astore_n hC (show decode prog_31_method_24_code 10 = .ok (.astore_n 2, 1) by decide +kernel) rfl (by decide)) ?_
  refine xA (ok_aload_n hC (show decode prog_31_method_24_code 11 = .ok (.aload_n 2, 1) by decide +kernel) rfl) ?_
  refine xA (ok_iload_n hC (show decode prog_31_method_24_code 12 = .ok (.iload_n 3, 1) by decide +kernel) rfl) ?_
  refine xA (ok_aload_n hC (show decode prog_31_method_24_code 13 = .ok (.aload_n 1, 1) by decide +kernel) rfl) ?_
  refine xA (ok_aast hC (show decode prog_31_method_24_code 14 = .ok (.aastore, 1) by decide +kernel) (by decide) rfl xok4_ok) ?_
  refine xA (ok_aload_n hC (show decode prog_31_method_24_code 15 = .ok (.aload_n 0, 1) by decide +kernel) rfl) ?_
  refine xA (ok_iload_n hC (show decode prog_31_method_24_code 16 = .ok (.iload_n 3, 1) by decide +kernel) rfl) ?_
  refine xA (ok_iconst hC (show decode prog_31_method_24_code 17 = .ok (.iconst 1, 1) by decide +kernel) (by decide)) ?_
  refine xA (ok_iadd hC (show decode prog_31_method_24_code 18 = .ok (.iadd, 1) by decide +kernel)) ?_
  refine xA (ok_put hC (show decode prog_31_method_24_code 19 = .ok (.putfield 48, 3) by decide +kernel) (by decide) (r0 := ("java/util/ArrayList", xF12, 3)) rfl (by decide) rfl (by decide +kernel) w_175) ?_
  refine xA (ok_vret hC hr (show decode prog_31_method_24_code 22 = .ok (.return_, 1) by decide +kernel)) ?_
  exact trivial

def tb_AL_grow (X : xX) : List (Nat × xOp) := [(0, o_ald 0 1),
  (1, o_ald 0 2),
  (2, o_get 12 2 5),
  (5, o_ic 1 6),
  (6, o_iadd 7),
  (7, o_callV X.l X.D X.P 12 3 2 y_AL_grow2 10),
  (10, o_aret X.P)]
theorem tk_AL_grow {X : xX} (hC : xCx X prog_31_method_7_code "java/util/ArrayList" 1 4) (hr : X.meth.sig.returnType = (some (.array (.object "java/lang/Object")))) (hnh : X.c.exceptionTable.isEmpty = true) (hin : X.meth.name = "grow") : xAll X (tb_AL_grow X) := by
  refine xA (ok_aload_n hC (show decode prog_31_method_7_code 0 = .ok (.aload_n 0, 1) by decide +kernel) rfl) ?_
  refine xA (ok_aload_n hC (show decode prog_31_method_7_code 1 = .ok (.aload_n 0, 1) by decide +kernel) rfl) ?_
  refine xA (ok_get hC (show decode prog_31_method_7_code 2 = .ok (.getfield 48, 3) by decide +kernel) (by decide) (r0 := ("java/util/ArrayList", xF12, 3)) rfl (by decide) rfl w_175) ?_
  refine xA (ok_iconst hC (show decode prog_31_method_7_code 5 = .ok (.iconst 1, 1) by decide +kernel) (by decide)) ?_
  refine xA (ok_iadd hC (show decode prog_31_method_7_code 6 = .ok (.iadd, 1) by decide +kernel)) ?_
  refine xA (ok_callV hC hnh (show decode prog_31_method_7_code 7 = .ok (.invokevirtual 69, 3) by decide +kernel) (by decide) (by decide) (by decide) (r0 := ("java/util/ArrayList", xF12, 3)) rfl ⟨by decide, by decide, by decide +kernel⟩ w_327 w_77 w_324 w_326 w_2) ?_
  refine xA (ok_aret hC hr (Or.inr ⟨_, rfl⟩) (show decode prog_31_method_7_code 10 = .ok (.areturn, 1) by decide +kernel)) ?_
  exact trivial

def tb_AL_grow2 (X : xX) : List (Nat × xOp) := [(0, o_ald 0 1),
  (1, o_get 12 1 4),
  (4, o_len 5),
  (5, o_ist 2 6),
  (6, o_ild 2 7),
  (7, o_ifgt 20 10),
  (10, o_ald 0 11),
  (11, o_get 12 1 14),
  (14, o_gets X.D 1 17),
  (17, o_acm 45 20),
  (20, o_ild 2 21),
  (21, o_ild 1 22),
  (22, o_ild 2 23),
  (23, o_isub 24),
  (24, o_ild 2 25),
  (25, o_ic 1 26),
  (26, o_ishr 27),
  (27, o_callS X.l X.D X.P 1 3 y_AS_newLength 30),
  (30, o_ist 3 31),
  (31, o_ald 0 32),
  (32, o_ald 0 33),
  (33, o_get 12 1 36),
  (36, o_ild 3 37),
  (37, o_callS X.l X.D X.P 2 2 y_Ar_copyOf2 40),
  (40, o_dup_x1 41),
  (41, o_put 12 1 (.array (.object "java/lang/Object")) 44),
  (44, o_aret X.P),
  (45, o_ald 0 46),
  (46, o_ic 10 48),
  (48, o_ild 1 49),
  (49, o_max 52),
  (52, o_anew 4 55),
  (55, o_dup_x1 56),
  (56, o_put 12 1 (.array (.object "java/lang/Object")) 59),
  (59, o_aret X.P)]
theorem tk_AL_grow2 {X : xX} (hC : xCx X prog_31_method_6_code "java/util/ArrayList" 4 3) (hr : X.meth.sig.returnType = (some (.array (.object "java/lang/Object")))) (hnh : X.c.exceptionTable.isEmpty = true) (hin : X.meth.name = "grow") : xAll X (tb_AL_grow2 X) := by
  refine xA (ok_aload_n hC (show decode prog_31_method_6_code 0 = .ok (.aload_n 0, 1) by decide +kernel) rfl) ?_
  refine xA (ok_get hC (show decode prog_31_method_6_code 1 = .ok (.getfield 9, 3) by decide +kernel) (by decide) (r0 := ("java/util/ArrayList", xF12, 3)) rfl (by decide) rfl w_174) ?_
  refine xA (ok_len hC (show decode prog_31_method_6_code 4 = .ok (.arraylength, 1) by decide +kernel)) ?_
  refine xA (ok_istore_n hC (show decode prog_31_method_6_code 5 = .ok (.istore_n 2, 1) by decide +kernel) rfl (by decide)) ?_
  refine xA (ok_iload_n hC (show decode prog_31_method_6_code 6 = .ok (.iload_n 2, 1) by decide +kernel) rfl) ?_
  refine xA (ok_ifgt hC (show decode prog_31_method_6_code 7 = .ok (.ifCond .gt 13, 3) by decide +kernel) (by decide)) ?_
  refine xA (ok_aload_n hC (show decode prog_31_method_6_code 10 = .ok (.aload_n 0, 1) by decide +kernel) rfl) ?_
  refine xA (ok_get hC (show decode prog_31_method_6_code 11 = .ok (.getfield 9, 3) by decide +kernel) (by decide) (r0 := ("java/util/ArrayList", xF12, 3)) rfl (by decide) rfl w_174) ?_
  refine xA (ok_gets hC (show decode prog_31_method_6_code 14 = .ok (.getstatic 39, 3) by decide +kernel) (i := 1) rfl w_172) ?_
  refine xA (ok_acmpeq hC (show decode prog_31_method_6_code 17 = .ok (.if_acmp .eq 28, 3) by decide +kernel) (by decide)) ?_
  refine xA (ok_iload_n hC (show decode prog_31_method_6_code 20 = .ok (.iload_n 2, 1) by decide +kernel) rfl) ?_
  refine xA (ok_iload_n hC (show decode prog_31_method_6_code 21 = .ok (.iload_n 1, 1) by decide +kernel) rfl) ?_
  refine xA (ok_iload_n hC (show decode prog_31_method_6_code 22 = .ok (.iload_n 2, 1) by decide +kernel) rfl) ?_
  refine xA (ok_isub hC (show decode prog_31_method_6_code 23 = .ok (.isub, 1) by decide +kernel)) ?_
  refine xA (ok_iload_n hC (show decode prog_31_method_6_code 24 = .ok (.iload_n 2, 1) by decide +kernel) rfl) ?_
  refine xA (ok_iconst hC (show decode prog_31_method_6_code 25 = .ok (.iconst 1, 1) by decide +kernel) (by decide)) ?_
  refine xA (ok_ishr hC (show decode prog_31_method_6_code 26 = .ok (.ishr, 1) by decide +kernel)) ?_
  refine xA (ok_callS (hh := []) hC hnh (show decode prog_31_method_6_code 27 = .ok (.invokestatic 73, 3) by decide +kernel) (by decide) (by decide) ⟨by decide, by decide, by decide +kernel⟩ (Or.inl w_330) w_81 w_328 w_329) ?_
  refine xA (ok_istore_n hC (show decode prog_31_method_6_code 30 = .ok (.istore_n 3, 1) by decide +kernel) rfl (by decide)) ?_
  refine xA (ok_aload_n hC (show decode prog_31_method_6_code 31 = .ok (.aload_n 0, 1) by decide +kernel) rfl) ?_
  refine xA (ok_aload_n hC (show decode prog_31_method_6_code 32 = .ok (.aload_n 0, 1) by decide +kernel) rfl) ?_
  refine xA (ok_get hC (show decode prog_31_method_6_code 33 = .ok (.getfield 9, 3) by decide +kernel) (by decide) (r0 := ("java/util/ArrayList", xF12, 3)) rfl (by decide) rfl w_174) ?_
  refine xA (ok_iload_n hC (show decode prog_31_method_6_code 36 = .ok (.iload_n 3, 1) by decide +kernel) rfl) ?_
  refine xA (ok_callS (hh := []) hC hnh (show decode prog_31_method_6_code 37 = .ok (.invokestatic 66, 3) by decide +kernel) (by decide) (by decide) ⟨by decide, by decide, by decide +kernel⟩ (Or.inl w_340) w_71 w_338 w_339) ?_
  refine xA (ok_dup_x1 hC (show decode prog_31_method_6_code 40 = .ok (.dup_x1, 1) by decide +kernel)) ?_
  refine xA (ok_put hC (show decode prog_31_method_6_code 41 = .ok (.putfield 9, 3) by decide +kernel) (by decide) (r0 := ("java/util/ArrayList", xF12, 3)) rfl (by decide) rfl (by decide +kernel) w_174) ?_
  refine xA (ok_aret hC hr (Or.inr ⟨_, rfl⟩) (show decode prog_31_method_6_code 44 = .ok (.areturn, 1) by decide +kernel)) ?_
  refine xA (ok_aload_n hC (show decode prog_31_method_6_code 45 = .ok (.aload_n 0, 1) by decide +kernel) rfl) ?_
  refine xA (ok_bipush hC (show decode prog_31_method_6_code 46 = .ok (.bipush 10, 2) by decide +kernel) (by decide)) ?_
  refine xA (ok_iload_n hC (show decode prog_31_method_6_code 48 = .ok (.iload_n 1, 1) by decide +kernel) rfl) ?_
  refine xA (ok_max hC (by decide) (show decode prog_31_method_6_code 49 = .ok (.invokestatic 79, 3) by decide +kernel) w_368 w_332 w_72 w_333) ?_
  refine xA (ok_anew hC (show decode prog_31_method_6_code 52 = .ok (.anewarray 7, 3) by decide +kernel) (by decide) (C := "java/lang/Object") rfl w_369 w_366) ?_
  refine xA (ok_dup_x1 hC (show decode prog_31_method_6_code 55 = .ok (.dup_x1, 1) by decide +kernel)) ?_
  refine xA (ok_put hC (show decode prog_31_method_6_code 56 = .ok (.putfield 9, 3) by decide +kernel) (by decide) (r0 := ("java/util/ArrayList", xF12, 3)) rfl (by decide) rfl (by decide +kernel) w_174) ?_
  refine xA (ok_aret hC hr (Or.inr ⟨_, rfl⟩) (show decode prog_31_method_6_code 59 = .ok (.areturn, 1) by decide +kernel)) ?_
  exact trivial

def tb_AL_size (X : xX) : List (Nat × xOp) := [(0, o_ald 0 1),
  (1, o_get 12 2 4),
  (4, o_iret X.P)]
theorem tk_AL_size {X : xX} (hC : xCx X prog_31_method_8_code "java/util/ArrayList" 1 0) (hr : X.meth.sig.returnType = (some .int)) (hnh : X.c.exceptionTable.isEmpty = true) (hin : X.meth.name = "size") : xAll X (tb_AL_size X) := by
  refine xA (ok_aload_n hC (show decode prog_31_method_8_code 0 = .ok (.aload_n 0, 1) by decide +kernel) rfl) ?_
  refine xA (ok_get hC (show decode prog_31_method_8_code 1 = .ok (.getfield 48, 3) by decide +kernel) (by decide) (r0 := ("java/util/ArrayList", xF12, 3)) rfl (by decide) rfl w_175) ?_
  refine xA (ok_iret hC hr (show decode prog_31_method_8_code 4 = .ok (.ireturn, 1) by decide +kernel)) ?_
  exact trivial

def tb_AL_get (X : xX) : List (Nat × xOp) := [(0, o_ild 1 1),
  (1, o_ald 0 2),
  (2, o_get 12 2 5),
  (5, o_callS X.l X.D X.P 1 2 y_Ob_checkIndex 8),
  (8, o_pop 9),
  (9, o_ald 0 10),
  (10, o_ild 1 11),
  (11, o_callV X.l X.D X.P 12 0 2 y_AL_elementData 14),
  (14, o_aret X.P)]
theorem tk_AL_get {X : xX} (hC : xCx X prog_31_method_20_code "java/util/ArrayList" 2 2) (hr : X.meth.sig.returnType = (some (.object "java/lang/Object"))) (hnh : X.c.exceptionTable.isEmpty = true) (hin : X.meth.name = "get") : xAll X (tb_AL_get X) := by
  refine xA (ok_iload_n hC (show decode prog_31_method_20_code 0 = .ok (.iload_n 1, 1) by decide +kernel) rfl) ?_
  refine xA (ok_aload_n hC (show decode prog_31_method_20_code 1 = .ok (.aload_n 0, 1) by decide +kernel) rfl) ?_
  refine xA (ok_get hC (show decode prog_31_method_20_code 2 = .ok (.getfield 48, 3) by decide +kernel) (by decide) (r0 := ("java/util/ArrayList", xF12, 3)) rfl (by decide) rfl w_175) ?_
  refine xA (ok_callS (hh := []) hC hnh (show decode prog_31_method_20_code 5 = .ok (.invokestatic 118, 3) by decide +kernel) (by decide) (by decide) ⟨by decide, by decide, by decide +kernel⟩ (Or.inl w_665) w_90 w_663 w_664) ?_
  refine xA (ok_pop hC (show decode prog_31_method_20_code 8 = .ok (.pop, 1) by decide +kernel)) ?_
  refine xA (ok_aload_n hC (show decode prog_31_method_20_code 9 = .ok (.aload_n 0, 1) by decide +kernel) rfl) ?_
  refine xA (ok_iload_n hC (show decode prog_31_method_20_code 10 = .ok (.iload_n 1, 1) by decide +kernel) rfl) ?_
  refine xA (ok_callV hC hnh (show decode prog_31_method_20_code 11 = .ok (.invokevirtual 123, 3) by decide +kernel) (by decide) (by decide) (by decide) (r0 := ("java/util/ArrayList", xF12, 3)) rfl ⟨by decide, by decide, by decide +kernel⟩ w_672 w_77 w_669 w_670 w_671) ?_
  refine xA (ok_aret hC hr (Or.inl ⟨_, rfl⟩) (show decode prog_31_method_20_code 14 = .ok (.areturn, 1) by decide +kernel)) ?_
  exact trivial

def tb_AL_elementData (X : xX) : List (Nat × xOp) := [(0, o_ald 0 1),
  (1, o_get 12 1 4),
  (4, o_ild 1 5),
  (5, o_ld 4 6),
  (6, o_aret X.P)]
theorem tk_AL_elementData {X : xX} (hC : xCx X prog_31_method_18_code "java/util/ArrayList" 2 0) (hr : X.meth.sig.returnType = (some (.object "java/lang/Object"))) (hnh : X.c.exceptionTable.isEmpty = true) (hin : X.meth.name = "elementData") : xAll X (tb_AL_elementData X) := by
  refine xA (ok_aload_n hC (show decode prog_31_method_18_code 0 = .ok (.aload_n 0, 1) by decide +kernel) rfl) ?_
  refine xA (ok_get hC (show decode prog_31_method_18_code 1 = .ok (.getfield 9, 3) by decide +kernel) (by decide) (r0 := ("java/util/ArrayList", xF12, 3)) rfl (by decide) rfl w_174) ?_
  refine xA (ok_iload_n hC (show decode prog_31_method_18_code 4 = .ok (.iload_n 1, 1) by decide +kernel) rfl) ?_
  refine xA (ok_aald hC (show decode prog_31_method_18_code 5 = .ok (.aaload, 1) by decide +kernel) (by decide) rfl) ?_
  refine xA (ok_aret hC hr (Or.inl ⟨_, rfl⟩) (show decode prog_31_method_18_code 6 = .ok (.areturn, 1) by decide +kernel)) ?_
  exact trivial

def tb_AB_init (X : xX) : List (Nat × xOp) := [(0, o_ald 0 1),
  (1, o_callI X.l X.D X.P 1 1 y_AC_init 4),
  (4, o_ald 0 5),
  (5, o_ic 0 6),
  (6, o_put 12 0 (.int) 9),
  (9, o_vret X.P)]
theorem tk_AB_init {X : xX} (hC : xCx X prog_30_method_1_code "java/util/AbstractList" 1 2) (hr : X.meth.sig.returnType = none) (hnh : X.c.exceptionTable.isEmpty = true) (hin : X.meth.name = "<init>") : xAll X (tb_AB_init X) := by
  refine xA (ok_aload_n hC (show decode prog_30_method_1_code 0 = .ok (.aload_n 0, 1) by decide +kernel) rfl) ?_
  refine xA (ok_callI hC hnh (show decode prog_30_method_1_code 1 = .ok (.invokespecial 1, 3) by decide +kernel) (by decide) (by decide) ⟨by decide, by decide, by decide +kernel⟩ rfl w_170 w_75 w_168 w_169) ?_
  refine xA (ok_aload_n hC (show decode prog_30_method_1_code 4 = .ok (.aload_n 0, 1) by decide +kernel) rfl) ?_
  refine xA (ok_iconst hC (show decode prog_30_method_1_code 5 = .ok (.iconst 0, 1) by decide +kernel) (by decide)) ?_
  refine xA (ok_put hC (show decode prog_30_method_1_code 6 = .ok (.putfield 7, 3) by decide +kernel) (by decide) (r0 := ("java/util/ArrayList", xF12, 3)) rfl (by decide) rfl (by decide +kernel) w_176) ?_
  refine xA (ok_vret hC hr (show decode prog_30_method_1_code 9 = .ok (.return_, 1) by decide +kernel)) ?_
  exact trivial

def tb_AC_init (X : xX) : List (Nat × xOp) := [(0, o_ald 0 1),
  (1, o_obj 4),
  (4, o_vret X.P)]
theorem tk_AC_init {X : xX} (hC : xCx X prog_29_method_1_code "java/util/AbstractCollection" 1 1) (hr : X.meth.sig.returnType = none) (hnh : X.c.exceptionTable.isEmpty = true) (hin : X.meth.name = "<init>") : xAll X (tb_AC_init X) := by
  refine xA (ok_aload_n hC (show decode prog_29_method_1_code 0 = .ok (.aload_n 0, 1) by decide +kernel) rfl) ?_
  refine xA (ok_obj hC (by decide) (show decode prog_29_method_1_code 1 = .ok (.invokespecial 1, 3) by decide +kernel) w_171 w_106 w_107) ?_
  refine xA (ok_vret hC hr (show decode prog_29_method_1_code 4 = .ok (.return_, 1) by decide +kernel)) ?_
  exact trivial

def tb_Ar_copyOf (X : xX) : List (Nat × xOp) := [(0, o_ild 1 1),
  (1, o_ald 0 2),
  (2, o_len 3),
  (3, o_icne 14 6),
  (6, o_ald 0 7),
  (7, o_clone 10),
  (10, o_castA 1 13),
  (13, o_aret X.P),
  (14, o_ild 1 15),
  (15, o_newa 1 (.int 0) 17),
  (17, o_ast 2 18),
  (18, o_ald 0 19),
  (19, o_ic 0 20),
  (20, o_ald 2 21),
  (21, o_ic 0 22),
  (22, o_ald 0 23),
  (23, o_len 24),
  (24, o_ild 1 25),
  (25, o_min 28),
  (28, o_cpyB 31),
  (31, o_ald 2 32),
  (32, o_aret X.P)]
theorem tk_Ar_copyOf {X : xX} (hC : xCx X prog_32_method_121_code "java/util/Arrays" 3 1) (hr : X.meth.sig.returnType = (some (.array .byte))) (hnh : X.c.exceptionTable.isEmpty = true) (hin : X.meth.name = "copyOf") : xAll X (tb_Ar_copyOf X) := by
  refine xA (ok_iload_n hC (show decode prog_32_method_121_code 0 = .ok (.iload_n 1, 1) by decide +kernel) rfl) ?_
  refine xA (ok_aload_n hC (show decode prog_32_method_121_code 1 = .ok (.aload_n 0, 1) by decide +kernel) rfl) ?_
  refine xA (ok_len hC (show decode prog_32_method_121_code 2 = .ok (.arraylength, 1) by decide +kernel)) ?_
  refine xA (ok_icne hC (show decode prog_32_method_121_code 3 = .ok (.if_icmp .ne 11, 3) by decide +kernel) (by decide)) ?_
  refine xA (ok_aload_n hC (show decode prog_32_method_121_code 6 = .ok (.aload_n 0, 1) by decide +kernel) rfl) ?_
  refine xA (ok_clone hC (by decide) (show decode prog_32_method_121_code 7 = .ok (.invokevirtual 310, 3) by decide +kernel) w_119 w_120 w_121 w_122 w_123 w_124) ?_
  refine xA (ok_castA hC (show decode prog_32_method_121_code 10 = .ok (.checkcast 311, 3) by decide +kernel) (by decide) (ty := .byte) rfl (by decide) w_125) ?_
  refine xA (ok_aret hC hr (Or.inr ⟨_, rfl⟩) (show decode prog_32_method_121_code 13 = .ok (.areturn, 1) by decide +kernel)) ?_
  refine xA (ok_iload_n hC (show decode prog_32_method_121_code 14 = .ok (.iload_n 1, 1) by decide +kernel) rfl) ?_
  refine xA (ok_newa hC (show decode prog_32_method_121_code 15 = .ok (.newarray .byte, 2) by decide +kernel) (by decide) (ty := .byte) rfl rfl rfl (by decide) w_152 (fun _ z => by cases z)) ?_
  refine xA (ok_astore_n hC (show decode prog_32_method_121_code 17 = .ok (.astore_n 2, 1) by decide +kernel) rfl (by decide)) ?_
  refine xA (ok_aload_n hC (show decode prog_32_method_121_code 18 = .ok (.aload_n 0, 1) by decide +kernel) rfl) ?_
  refine xA (ok_iconst hC (show decode prog_32_method_121_code 19 = .ok (.iconst 0, 1) by decide +kernel) (by decide)) ?_
  refine xA (ok_aload_n hC (show decode prog_32_method_121_code 20 = .ok (.aload_n 2, 1) by decide +kernel) rfl) ?_
  refine xA (ok_iconst hC (show decode prog_32_method_121_code 21 = .ok (.iconst 0, 1) by decide +kernel) (by decide)) ?_
  refine xA (ok_aload_n hC (show decode prog_32_method_121_code 22 = .ok (.aload_n 0, 1) by decide +kernel) rfl) ?_
  refine xA (ok_len hC (show decode prog_32_method_121_code 23 = .ok (.arraylength, 1) by decide +kernel)) ?_
  refine xA (ok_iload_n hC (show decode prog_32_method_121_code 24 = .ok (.iload_n 1, 1) by decide +kernel) rfl) ?_
  refine xA (ok_min hC (by decide) (show decode prog_32_method_121_code 25 = .ok (.invokestatic 304, 3) by decide +kernel) w_126 w_127 w_72 w_128) ?_
  refine xA (ok_cpyB hC (by decide) (show decode prog_32_method_121_code 28 = .ok (.invokestatic 150, 3) by decide +kernel) w_129 w_131 w_130 w_73) ?_
  refine xA (ok_aload_n hC (show decode prog_32_method_121_code 31 = .ok (.aload_n 2, 1) by decide +kernel) rfl) ?_
  refine xA (ok_aret hC hr (Or.inr ⟨_, rfl⟩) (show decode prog_32_method_121_code 32 = .ok (.areturn, 1) by decide +kernel)) ?_
  exact trivial

def tb_Ar_copyOf2 (X : xX) : List (Nat × xOp) := [(0, o_ald 0 1),
  (1, o_ild 1 2),
  (2, o_ald 0 3),
  (3, o_getC X.D 6),
  (6, o_callS X.l X.D X.P 1 3 y_Ar_copyOf3 9),
  (9, o_aret X.P)]
theorem tk_Ar_copyOf2 {X : xX} (hC : xCx X prog_32_method_119_code "java/util/Arrays" 2 2) (hr : X.meth.sig.returnType = (some (.array (.object "java/lang/Object")))) (hnh : X.c.exceptionTable.isEmpty = true) (hin : X.meth.name = "copyOf") : xAll X (tb_Ar_copyOf2 X) := by
  refine xA (ok_aload_n hC (show decode prog_32_method_119_code 0 = .ok (.aload_n 0, 1) by decide +kernel) rfl) ?_
  refine xA (ok_iload_n hC (show decode prog_32_method_119_code 1 = .ok (.iload_n 1, 1) by decide +kernel) rfl) ?_
  refine xA (ok_aload_n hC (show decode prog_32_method_119_code 2 = .ok (.aload_n 0, 1) by decide +kernel) rfl) ?_
  refine xA (ok_getC hC (by decide) (show decode prog_32_method_119_code 3 = .ok (.invokevirtual 86, 3) by decide +kernel) w_341 w_1673 w_1672 w_342 w_361) ?_
  refine xA (ok_callS (hh := []) hC hnh (show decode prog_32_method_119_code 6 = .ok (.invokestatic 300, 3) by decide +kernel) (by decide) (by decide) ⟨by decide, by decide, by decide +kernel⟩ (Or.inl w_364) w_71 w_362 w_363) ?_
  refine xA (ok_aret hC hr (Or.inr ⟨_, rfl⟩) (show decode prog_32_method_119_code 9 = .ok (.areturn, 1) by decide +kernel)) ?_
  exact trivial

def tb_Ar_copyOf3 (X : xX) : List (Nat × xOp) := [(0, o_ald 2 1),
  (1, o_ldcM X.D 3),
  (3, o_acm 6 13),
  (6, o_ild 1 7),
  (7, o_anew 4 10),
  (10, o_goto 24),
  (13, o_ald 2 14),
  (17, o_ild 1 18),
  (21, o_castA 4 24),
  (24, o_ast 3 25),
  (25, o_ald 0 26),
  (26, o_ic 0 27),
  (27, o_ald 3 28),
  (28, o_ic 0 29),
  (29, o_ald 0 30),
  (30, o_len 31),
  (31, o_ild 1 32),
  (32, o_min 35),
  (35, o_cpyQ 38),
  (38, o_ald 3 39),
  (39, o_aret X.P)]
theorem tk_Ar_copyOf3 {X : xX} (hC : xCx X prog_32_method_120_code "java/util/Arrays" 4 1) (hr : X.meth.sig.returnType = (some (.array (.object "java/lang/Object")))) (hnh : X.c.exceptionTable.isEmpty = true) (hin : X.meth.name = "copyOf") : xAll X (tb_Ar_copyOf3 X) := by
  refine xA (ok_aload_n hC (show decode prog_32_method_120_code 0 = .ok (.aload_n 2, 1) by decide +kernel) rfl) ?_
  refine xA (ok_ldcM hC (show decode prog_32_method_120_code 1 = .ok (.ldc 110, 2) by decide +kernel) w_365) ?_
  refine xA (ok_acmpne hC (show decode prog_32_method_120_code 3 = .ok (.if_acmp .ne 10, 3) by decide +kernel) (by decide)) ?_
  refine xA (ok_iload_n hC (show decode prog_32_method_120_code 6 = .ok (.iload_n 1, 1) by decide +kernel) rfl) ?_
  refine xA (ok_anew hC (show decode prog_32_method_120_code 7 = .ok (.anewarray 2, 3) by decide +kernel) (by decide) (C := "java/lang/Object") rfl w_367 w_366) ?_
  refine xA (ok_goto hC (show decode prog_32_method_120_code 10 = .ok (.goto 14, 3) by decide +kernel) (by decide)) ?_
  refine xA (ok_aload_n hC (show decode prog_32_method_120_code 13 = .ok (.aload_n 2, 1) by decide +kernel) rfl) ?_
  refine xA (ok_iload_n hC (show decode prog_32_method_120_code 17 = .ok (.iload_n 1, 1) by decide +kernel) rfl) ?_
  refine xA (ok_castA hC (show decode prog_32_method_120_code 21 = .ok (.checkcast 110, 3) by decide +kernel) (by decide) (ty := .object "java/lang/Object") rfl (by decide) w_365) ?_
  refine xA (ok_astore_n hC (show decode prog_32_method_120_code 24 = .ok (.astore_n 3, 1) by decide +kernel) rfl (by decide)) ?_
  refine xA (ok_aload_n hC (show decode prog_32_method_120_code 25 = .ok (.aload_n 0, 1) by decide +kernel) rfl) ?_
  refine xA (ok_iconst hC (show decode prog_32_method_120_code 26 = .ok (.iconst 0, 1) by decide +kernel) (by decide)) ?_
  refine xA (ok_aload_n hC (show decode prog_32_method_120_code 27 = .ok (.aload_n 3, 1) by decide +kernel) rfl) ?_
  refine xA (ok_iconst hC (show decode prog_32_method_120_code 28 = .ok (.iconst 0, 1) by decide +kernel) (by decide)) ?_
  refine xA (ok_aload_n hC (show decode prog_32_method_120_code 29 = .ok (.aload_n 0, 1) by decide +kernel) rfl) ?_
  refine xA (ok_len hC (show decode prog_32_method_120_code 30 = .ok (.arraylength, 1) by decide +kernel)) ?_
  refine xA (ok_iload_n hC (show decode prog_32_method_120_code 31 = .ok (.iload_n 1, 1) by decide +kernel) rfl) ?_
  refine xA (ok_min hC (by decide) (show decode prog_32_method_120_code 32 = .ok (.invokestatic 304, 3) by decide +kernel) w_126 w_127 w_72 w_128) ?_
  refine xA (ok_cpyQ hC (by decide) (show decode prog_32_method_120_code 35 = .ok (.invokestatic 150, 3) by decide +kernel) w_129 w_131 w_130 w_73) ?_
  refine xA (ok_aload_n hC (show decode prog_32_method_120_code 38 = .ok (.aload_n 3, 1) by decide +kernel) rfl) ?_
  refine xA (ok_aret hC hr (Or.inr ⟨_, rfl⟩) (show decode prog_32_method_120_code 39 = .ok (.areturn, 1) by decide +kernel)) ?_
  exact trivial

def tb_AS_newLength (X : xX) : List (Nat × xOp) := [(0, o_ild 0 1),
  (1, o_ild 1 2),
  (2, o_ild 2 3),
  (3, o_max 6),
  (6, o_iadd 7),
  (7, o_ist 3 8),
  (8, o_ic 0 9),
  (9, o_ild 3 10),
  (10, o_icge 21 13),
  (13, o_ild 3 14),
  (14, o_ic 2147483639 16),
  (16, o_icgt 21 19),
  (19, o_ild 3 20),
  (20, o_iret X.P),
  (21, o_ild 0 22),
  (22, o_ild 1 23),
  (23, o_callS X.l X.D X.P 0 2 y_AS_hugeLength 26),
  (26, o_iret X.P)]
theorem tk_AS_newLength {X : xX} (hC : xCx X prog_38_method_27_code "jdk/internal/util/ArraysSupport" 4 1) (hr : X.meth.sig.returnType = (some .int)) (hnh : X.c.exceptionTable.isEmpty = true) (hin : X.meth.name = "newLength") : xAll X (tb_AS_newLength X) := by
  refine xA (ok_iload_n hC (show decode prog_38_method_27_code 0 = .ok (.iload_n 0, 1) by decide +kernel) rfl) ?_
  refine xA (ok_iload_n hC (show decode prog_38_method_27_code 1 = .ok (.iload_n 1, 1) by decide +kernel) rfl) ?_
  refine xA (ok_iload_n hC (show decode prog_38_method_27_code 2 = .ok (.iload_n 2, 1) by decide +kernel) rfl) ?_
  refine xA (ok_max hC (by decide) (show decode prog_38_method_27_code 3 = .ok (.invokestatic 194, 3) by decide +kernel) w_331 w_332 w_72 w_333) ?_
  refine xA (ok_iadd hC (show decode prog_38_method_27_code 6 = .ok (.iadd, 1) by decide +kernel)) ?_
  refine xA (ok_istore_n hC (show decode prog_38_method_27_code 7 = .ok (.istore_n 3, 1) by decide +kernel) rfl (by decide)) ?_
  refine xA (ok_iconst hC (show decode prog_38_method_27_code 8 = .ok (.iconst 0, 1) by decide +kernel) (by decide)) ?_
  refine xA (ok_iload_n hC (show decode prog_38_method_27_code 9 = .ok (.iload_n 3, 1) by decide +kernel) rfl) ?_
  refine xA (ok_icge hC (show decode prog_38_method_27_code 10 = .ok (.if_icmp .ge 11, 3) by decide +kernel) (by decide)) ?_
  refine xA (ok_iload_n hC (show decode prog_38_method_27_code 13 = .ok (.iload_n 3, 1) by decide +kernel) rfl) ?_
  refine xA (ok_ldc hC (show decode prog_38_method_27_code 14 = .ok (.ldc 200, 2) by decide +kernel) w_334) ?_
  refine xA (ok_icgt hC (show decode prog_38_method_27_code 16 = .ok (.if_icmp .gt 5, 3) by decide +kernel) (by decide)) ?_
  refine xA (ok_iload_n hC (show decode prog_38_method_27_code 19 = .ok (.iload_n 3, 1) by decide +kernel) rfl) ?_
  refine xA (ok_iret hC hr (show decode prog_38_method_27_code 20 = .ok (.ireturn, 1) by decide +kernel)) ?_
  refine xA (ok_iload_n hC (show decode prog_38_method_27_code 21 = .ok (.iload_n 0, 1) by decide +kernel) rfl) ?_
  refine xA (ok_iload_n hC (show decode prog_38_method_27_code 22 = .ok (.iload_n 1, 1) by decide +kernel) rfl) ?_
  refine xA (ok_callS (hh := []) hC hnh (show decode prog_38_method_27_code 23 = .ok (.invokestatic 201, 3) by decide +kernel) (by decide) (by decide) ⟨by decide, by decide, by decide +kernel⟩ (Or.inl w_337) w_81 w_335 w_336) ?_
  refine xA (ok_iret hC hr (show decode prog_38_method_27_code 26 = .ok (.ireturn, 1) by decide +kernel)) ?_
  exact trivial

def tb_AS_hugeLength (X : xX) : List (Nat × xOp) := [(0, o_ild 0 1),
  (1, o_ild 1 2),
  (2, o_iadd 3),
  (3, o_ist 2 4),
  (4, o_ild 2 5),
  (5, o_ifge 49 8),
  (11, o_dup 12),
  (15, o_dup 16),
  (24, o_ild 0 25),
  (33, o_ild 1 34),
  (49, o_ild 2 50),
  (50, o_ic 2147483639 52),
  (52, o_icgt 58 55),
  (55, o_ic 2147483639 57),
  (57, o_iret X.P),
  (58, o_ild 2 59),
  (59, o_iret X.P)]
theorem tk_AS_hugeLength {X : xX} (hC : xCx X prog_38_method_28_code "jdk/internal/util/ArraysSupport" 3 0) (hr : X.meth.sig.returnType = (some .int)) (hnh : X.c.exceptionTable.isEmpty = true) (hin : X.meth.name = "hugeLength") : xAll X (tb_AS_hugeLength X) := by
  refine xA (ok_iload_n hC (show decode prog_38_method_28_code 0 = .ok (.iload_n 0, 1) by decide +kernel) rfl) ?_
  refine xA (ok_iload_n hC (show decode prog_38_method_28_code 1 = .ok (.iload_n 1, 1) by decide +kernel) rfl) ?_
  refine xA (ok_iadd hC (show decode prog_38_method_28_code 2 = .ok (.iadd, 1) by decide +kernel)) ?_
  refine xA (ok_istore_n hC (show decode prog_38_method_28_code 3 = .ok (.istore_n 2, 1) by decide +kernel) rfl (by decide)) ?_
  refine xA (ok_iload_n hC (show decode prog_38_method_28_code 4 = .ok (.iload_n 2, 1) by decide +kernel) rfl) ?_
  refine xA (ok_ifge hC (show decode prog_38_method_28_code 5 = .ok (.ifCond .ge 44, 3) by decide +kernel) (by decide)) ?_
  refine xA (ok_dup hC (show decode prog_38_method_28_code 11 = .ok (.dup, 1) by decide +kernel)) ?_
  refine xA (ok_dup hC (show decode prog_38_method_28_code 15 = .ok (.dup, 1) by decide +kernel)) ?_
  refine xA (ok_iload_n hC (show decode prog_38_method_28_code 24 = .ok (.iload_n 0, 1) by decide +kernel) rfl) ?_
  refine xA (ok_iload_n hC (show decode prog_38_method_28_code 33 = .ok (.iload_n 1, 1) by decide +kernel) rfl) ?_
  refine xA (ok_iload_n hC (show decode prog_38_method_28_code 49 = .ok (.iload_n 2, 1) by decide +kernel) rfl) ?_
  refine xA (ok_ldc hC (show decode prog_38_method_28_code 50 = .ok (.ldc 200, 2) by decide +kernel) w_334) ?_
  refine xA (ok_icgt hC (show decode prog_38_method_28_code 52 = .ok (.if_icmp .gt 6, 3) by decide +kernel) (by decide)) ?_
  refine xA (ok_ldc hC (show decode prog_38_method_28_code 55 = .ok (.ldc 200, 2) by decide +kernel) w_334) ?_
  refine xA (ok_iret hC hr (show decode prog_38_method_28_code 57 = .ok (.ireturn, 1) by decide +kernel)) ?_
  refine xA (ok_iload_n hC (show decode prog_38_method_28_code 58 = .ok (.iload_n 2, 1) by decide +kernel) rfl) ?_
  refine xA (ok_iret hC hr (show decode prog_38_method_28_code 59 = .ok (.ireturn, 1) by decide +kernel)) ?_
  exact trivial

def tb_Ob_checkIndex (X : xX) : List (Nat × xOp) := [(0, o_ild 0 1),
  (1, o_ild 1 2),
  (2, o_null 3),
  (3, o_callS X.l X.D X.P 0 3 y_Pr_checkIndex 6),
  (6, o_iret X.P)]
theorem tk_Ob_checkIndex {X : xX} (hC : xCx X prog_35_method_17_code "java/util/Objects" 2 1) (hr : X.meth.sig.returnType = (some .int)) (hnh : X.c.exceptionTable.isEmpty = true) (hin : X.meth.name = "checkIndex") : xAll X (tb_Ob_checkIndex X) := by
  refine xA (ok_iload_n hC (show decode prog_35_method_17_code 0 = .ok (.iload_n 0, 1) by decide +kernel) rfl) ?_
  refine xA (ok_iload_n hC (show decode prog_35_method_17_code 1 = .ok (.iload_n 1, 1) by decide +kernel) rfl) ?_
  refine xA (ok_null hC (show decode prog_35_method_17_code 2 = .ok (.aconst_null, 1) by decide +kernel)) ?_
  refine xA (ok_callS (hh := []) hC hnh (show decode prog_35_method_17_code 3 = .ok (.invokestatic 105, 3) by decide +kernel) (by decide) (by decide) ⟨by decide, by decide, by decide +kernel⟩ (Or.inl w_668) w_91 w_666 w_667) ?_
  refine xA (ok_iret hC hr (show decode prog_35_method_17_code 6 = .ok (.ireturn, 1) by decide +kernel)) ?_
  exact trivial

def tb_Pr_checkIndex (X : xX) : List (Nat × xOp) := [(0, o_ild 0 1),
  (1, o_iflt 9 4),
  (4, o_ild 0 5),
  (5, o_ild 1 6),
  (6, o_iclt 16 9),
  (9, o_ald 2 10),
  (10, o_ild 0 11),
  (11, o_ild 1 12),
  (16, o_ild 0 17),
  (17, o_iret X.P)]
theorem tk_Pr_checkIndex {X : xX} (hC : xCx X prog_39_method_11_code "jdk/internal/util/Preconditions" 3 0) (hr : X.meth.sig.returnType = (some .int)) (hnh : X.c.exceptionTable.isEmpty = true) (hin : X.meth.name = "checkIndex") : xAll X (tb_Pr_checkIndex X) := by
  refine xA (ok_iload_n hC (show decode prog_39_method_11_code 0 = .ok (.iload_n 0, 1) by decide +kernel) rfl) ?_
  refine xA (ok_iflt hC (show decode prog_39_method_11_code 1 = .ok (.ifCond .lt 8, 3) by decide +kernel) (by decide)) ?_
  refine xA (ok_iload_n hC (show decode prog_39_method_11_code 4 = .ok (.iload_n 0, 1) by decide +kernel) rfl) ?_
  refine xA (ok_iload_n hC (show decode prog_39_method_11_code 5 = .ok (.iload_n 1, 1) by decide +kernel) rfl) ?_
  refine xA (ok_iclt hC (show decode prog_39_method_11_code 6 = .ok (.if_icmp .lt 10, 3) by decide +kernel) (by decide)) ?_
  refine xA (ok_aload_n hC (show decode prog_39_method_11_code 9 = .ok (.aload_n 2, 1) by decide +kernel) rfl) ?_
  refine xA (ok_iload_n hC (show decode prog_39_method_11_code 10 = .ok (.iload_n 0, 1) by decide +kernel) rfl) ?_
  refine xA (ok_iload_n hC (show decode prog_39_method_11_code 11 = .ok (.iload_n 1, 1) by decide +kernel) rfl) ?_
  refine xA (ok_iload_n hC (show decode prog_39_method_11_code 16 = .ok (.iload_n 0, 1) by decide +kernel) rfl) ?_
  refine xA (ok_iret hC hr (show decode prog_39_method_11_code 17 = .ok (.ireturn, 1) by decide +kernel)) ?_
  exact trivial

def tb_Sg_length (X : xX) : List (Nat × xOp) := [(0, o_ald 0 1),
  (1, o_sval 4),
  (4, o_len 5),
  (5, o_ald 0 6),
  (6, o_callV X.l X.D X.P 300 0 1 y_Sg_coder 9),
  (9, o_ishr 10),
  (10, o_iret X.P)]
theorem tk_Sg_length {X : xX} (hC : xCx X prog_23_method_54_code "java/lang/String" 1 1) (hr : X.meth.sig.returnType = (some .int)) (hnh : X.c.exceptionTable.isEmpty = true) (hin : X.meth.name = "length") : xAll X (tb_Sg_length X) := by
  refine xA (ok_aload_n hC (show decode prog_23_method_54_code 0 = .ok (.aload_n 0, 1) by decide +kernel) rfl) ?_
  refine xA (ok_sval hC (show decode prog_23_method_54_code 1 = .ok (.getfield 9, 3) by decide +kernel) w_1688) ?_
  refine xA (ok_len hC (show decode prog_23_method_54_code 4 = .ok (.arraylength, 1) by decide +kernel)) ?_
  refine xA (ok_aload_n hC (show decode prog_23_method_54_code 5 = .ok (.aload_n 0, 1) by decide +kernel) rfl) ?_
  refine xA (ok_callStr hC hnh (show decode prog_23_method_54_code 6 = .ok (.invokevirtual 335, 3) by decide +kernel) (by decide) (by decide) ⟨by decide, by decide, by decide +kernel⟩ w_843 w_96 w_840 w_841 w_842) ?_
  refine xA (ok_ishr hC (show decode prog_23_method_54_code 9 = .ok (.ishr, 1) by decide +kernel)) ?_
  refine xA (ok_iret hC hr (show decode prog_23_method_54_code 10 = .ok (.ireturn, 1) by decide +kernel)) ?_
  exact trivial

def tb_Sg_coder (X : xX) : List (Nat × xOp) := [(0, o_gets X.D 2 3),
  (3, o_ifeq 13 6),
  (6, o_ald 0 7),
  (7, o_scod 10),
  (10, o_goto 14),
  (13, o_ic 1 14),
  (14, o_zret .byte X.P)]
theorem tk_Sg_coder {X : xX} (hC : xCx X prog_23_method_152_code "java/lang/String" 1 0) (hr : X.meth.sig.returnType = (some .byte)) (hnh : X.c.exceptionTable.isEmpty = true) (hin : X.meth.name = "coder") : xAll X (tb_Sg_coder X) := by
  refine xA (ok_gets hC (show decode prog_23_method_152_code 0 = .ok (.getstatic 38, 3) by decide +kernel) (i := 2) rfl w_844) ?_
  refine xA (ok_ifeq hC (show decode prog_23_method_152_code 3 = .ok (.ifCond .eq 10, 3) by decide +kernel) (by decide)) ?_
  refine xA (ok_aload_n hC (show decode prog_23_method_152_code 6 = .ok (.aload_n 0, 1) by decide +kernel) rfl) ?_
  refine xA (ok_scod hC (show decode prog_23_method_152_code 7 = .ok (.getfield 15, 3) by decide +kernel) w_1689) ?_
  refine xA (ok_goto hC (show decode prog_23_method_152_code 10 = .ok (.goto 4, 3) by decide +kernel) (by decide)) ?_
  refine xA (ok_iconst hC (show decode prog_23_method_152_code 13 = .ok (.iconst 1, 1) by decide +kernel) (by decide)) ?_
  refine xA (ok_zret hC hr (show decode prog_23_method_152_code 14 = .ok (.ireturn, 1) by decide +kernel)) ?_
  exact trivial

def tb_Sg_charAt (X : xX) : List (Nat × xOp) := [(0, o_ald 0 1),
  (1, o_callV X.l X.D X.P 300 0 1 y_Sg_isLatin1 4),
  (4, o_ifeq 16 7),
  (7, o_ald 0 8),
  (8, o_sval 11),
  (11, o_ild 1 12),
  (12, o_callS X.l X.D X.P 2 2 y_L1_charAt 15),
  (15, o_zret .char X.P),
  (16, o_ald 0 17),
  (17, o_sval 20),
  (20, o_ild 1 21),
  (21, o_callS X.l X.D X.P 3 2 y_U16_charAt 24),
  (24, o_zret .char X.P)]
theorem tk_Sg_charAt {X : xX} (hC : xCx X prog_23_method_56_code "java/lang/String" 2 4) (hr : X.meth.sig.returnType = (some .char)) (hnh : X.c.exceptionTable.isEmpty = true) (hin : X.meth.name = "charAt") : xAll X (tb_Sg_charAt X) := by
  refine xA (ok_aload_n hC (show decode prog_23_method_56_code 0 = .ok (.aload_n 0, 1) by decide +kernel) rfl) ?_
  refine xA (ok_callStr hC hnh (show decode prog_23_method_56_code 1 = .ok (.invokevirtual 492, 3) by decide +kernel) (by decide) (by decide) ⟨by decide, by decide, by decide +kernel⟩ w_853 w_96 w_850 w_851 w_852) ?_
  refine xA (ok_ifeq hC (show decode prog_23_method_56_code 4 = .ok (.ifCond .eq 12, 3) by decide +kernel) (by decide)) ?_
  refine xA (ok_aload_n hC (show decode prog_23_method_56_code 7 = .ok (.aload_n 0, 1) by decide +kernel) rfl) ?_
  refine xA (ok_sval hC (show decode prog_23_method_56_code 8 = .ok (.getfield 9, 3) by decide +kernel) w_1688) ?_
  refine xA (ok_iload_n hC (show decode prog_23_method_56_code 11 = .ok (.iload_n 1, 1) by decide +kernel) rfl) ?_
  refine xA (ok_callS (hh := []) hC hnh (show decode prog_23_method_56_code 12 = .ok (.invokestatic 495, 3) by decide +kernel) (by decide) (by decide) ⟨by decide, by decide, by decide +kernel⟩ (Or.inl w_856) w_97 w_854 w_855) ?_
  refine xA (ok_zret hC hr (show decode prog_23_method_56_code 15 = .ok (.ireturn, 1) by decide +kernel)) ?_
  refine xA (ok_aload_n hC (show decode prog_23_method_56_code 16 = .ok (.aload_n 0, 1) by decide +kernel) rfl) ?_
  refine xA (ok_sval hC (show decode prog_23_method_56_code 17 = .ok (.getfield 9, 3) by decide +kernel) w_1688) ?_
  refine xA (ok_iload_n hC (show decode prog_23_method_56_code 20 = .ok (.iload_n 1, 1) by decide +kernel) rfl) ?_
  refine xA (ok_callS (hh := []) hC hnh (show decode prog_23_method_56_code 21 = .ok (.invokestatic 498, 3) by decide +kernel) (by decide) (by decide) ⟨by decide, by decide, by decide +kernel⟩ (Or.inl w_865) w_98 w_863 w_864) ?_
  refine xA (ok_zret hC hr (show decode prog_23_method_56_code 24 = .ok (.ireturn, 1) by decide +kernel)) ?_
  exact trivial

def tb_Sg_isLatin1 (X : xX) : List (Nat × xOp) := [(0, o_gets X.D 2 3),
  (3, o_ifeq 17 6),
  (6, o_ald 0 7),
  (7, o_scod 10),
  (10, o_ifne 17 13),
  (13, o_ic 1 14),
  (14, o_goto 18),
  (17, o_ic 0 18),
  (18, o_zret .boolean X.P)]
theorem tk_Sg_isLatin1 {X : xX} (hC : xCx X prog_23_method_154_code "java/lang/String" 1 0) (hr : X.meth.sig.returnType = (some .boolean)) (hnh : X.c.exceptionTable.isEmpty = true) (hin : X.meth.name = "isLatin1") : xAll X (tb_Sg_isLatin1 X) := by
  refine xA (ok_gets hC (show decode prog_23_method_154_code 0 = .ok (.getstatic 38, 3) by decide +kernel) (i := 2) rfl w_844) ?_
  refine xA (ok_ifeq hC (show decode prog_23_method_154_code 3 = .ok (.ifCond .eq 14, 3) by decide +kernel) (by decide)) ?_
  refine xA (ok_aload_n hC (show decode prog_23_method_154_code 6 = .ok (.aload_n 0, 1) by decide +kernel) rfl) ?_
  refine xA (ok_scod hC (show decode prog_23_method_154_code 7 = .ok (.getfield 15, 3) by decide +kernel) w_1689) ?_
  refine xA (ok_ifne hC (show decode prog_23_method_154_code 10 = .ok (.ifCond .ne 7, 3) by decide +kernel) (by decide)) ?_
  refine xA (ok_iconst hC (show decode prog_23_method_154_code 13 = .ok (.iconst 1, 1) by decide +kernel) (by decide)) ?_
  refine xA (ok_goto hC (show decode prog_23_method_154_code 14 = .ok (.goto 4, 3) by decide +kernel) (by decide)) ?_
  refine xA (ok_iconst hC (show decode prog_23_method_154_code 17 = .ok (.iconst 0, 1) by decide +kernel) (by decide)) ?_
  refine xA (ok_zret hC hr (show decode prog_23_method_154_code 18 = .ok (.ireturn, 1) by decide +kernel)) ?_
  exact trivial

def tb_Sg_checkIndex (X : xX) : List (Nat × xOp) := [(0, o_ild 0 1),
  (1, o_ild 1 2),
  (2, o_gets X.D 3 5),
  (5, o_callS X.l X.D X.P 0 3 y_Pr_checkIndex 8),
  (8, o_pop 9),
  (9, o_vret X.P)]
theorem tk_Sg_checkIndex {X : xX} (hC : xCx X prog_23_method_155_code "java/lang/String" 2 1) (hr : X.meth.sig.returnType = none) (hnh : X.c.exceptionTable.isEmpty = true) (hin : X.meth.name = "checkIndex") : xAll X (tb_Sg_checkIndex X) := by
  refine xA (ok_iload_n hC (show decode prog_23_method_155_code 0 = .ok (.iload_n 0, 1) by decide +kernel) rfl) ?_
  refine xA (ok_iload_n hC (show decode prog_23_method_155_code 1 = .ok (.iload_n 1, 1) by decide +kernel) rfl) ?_
  refine xA (ok_gets hC (show decode prog_23_method_155_code 2 = .ok (.getstatic 1053, 3) by decide +kernel) (i := 3) rfl w_860) ?_
  refine xA (ok_callS (hh := []) hC hnh (show decode prog_23_method_155_code 5 = .ok (.invokestatic 1059, 3) by decide +kernel) (by decide) (by decide) ⟨by decide, by decide, by decide +kernel⟩ (Or.inl w_668) w_91 w_862 w_667) ?_
  refine xA (ok_pop hC (show decode prog_23_method_155_code 8 = .ok (.pop, 1) by decide +kernel)) ?_
  refine xA (ok_vret hC hr (show decode prog_23_method_155_code 9 = .ok (.return_, 1) by decide +kernel)) ?_
  exact trivial

def tb_L1_charAt (X : xX) : List (Nat × xOp) := [(0, o_ild 1 1),
  (1, o_ald 0 2),
  (2, o_len 3),
  (3, o_callS X.l X.D X.P 1 2 y_Sg_checkIndex 6),
  (6, o_ald 0 7),
  (7, o_ild 1 8),
  (8, o_ld 1 9),
  (9, o_ic 255 12),
  (12, o_iand 13),
  (13, o_i2c 14),
  (14, o_zret .char X.P)]
theorem tk_L1_charAt {X : xX} (hC : xCx X prog_24_method_2_code "java/lang/StringLatin1" 2 2) (hr : X.meth.sig.returnType = (some .char)) (hnh : X.c.exceptionTable.isEmpty = true) (hin : X.meth.name = "charAt") : xAll X (tb_L1_charAt X) := by
  refine xA (ok_iload_n hC (show decode prog_24_method_2_code 0 = .ok (.iload_n 1, 1) by decide +kernel) rfl) ?_
  refine xA (ok_aload_n hC (show decode prog_24_method_2_code 1 = .ok (.aload_n 0, 1) by decide +kernel) rfl) ?_
  refine xA (ok_len hC (show decode prog_24_method_2_code 2 = .ok (.arraylength, 1) by decide +kernel)) ?_
  refine xA (ok_callS (hh := []) hC hnh (show decode prog_24_method_2_code 3 = .ok (.invokestatic 9, 3) by decide +kernel) (by decide) (by decide) ⟨by decide, by decide, by decide +kernel⟩ (Or.inl w_859) w_96 w_857 w_858) ?_
  refine xA (ok_aload_n hC (show decode prog_24_method_2_code 6 = .ok (.aload_n 0, 1) by decide +kernel) rfl) ?_
  refine xA (ok_iload_n hC (show decode prog_24_method_2_code 7 = .ok (.iload_n 1, 1) by decide +kernel) rfl) ?_
  refine xA (ok_bald hC (show decode prog_24_method_2_code 8 = .ok (.baload, 1) by decide +kernel) (by decide) rfl) ?_
  refine xA (ok_sipush hC (show decode prog_24_method_2_code 9 = .ok (.sipush 255, 3) by decide +kernel) (by decide)) ?_
  refine xA (ok_iand hC (show decode prog_24_method_2_code 12 = .ok (.iand, 1) by decide +kernel)) ?_
  refine xA (ok_i2c hC (show decode prog_24_method_2_code 13 = .ok (.i2c, 1) by decide +kernel)) ?_
  refine xA (ok_zret hC hr (show decode prog_24_method_2_code 14 = .ok (.ireturn, 1) by decide +kernel)) ?_
  exact trivial

def tb_Sl_init (X : xX) : List (Nat × xOp) := [(0, o_ald 0 1),
  (1, o_obj 4),
  (4, o_ald 0 5),
  (5, o_ald 1 6),
  (6, o_put 2 0 (.array .byte) 9),
  (9, o_ald 0 10),
  (10, o_ild 2 11),
  (11, o_put 2 1 (.int) 14),
  (14, o_ald 0 15),
  (15, o_ild 3 16),
  (16, o_put 2 2 (.int) 19),
  (19, o_vret X.P)]
theorem tk_Sl_init {X : xX} (hC : xCx X prog_8_method_1_code "StyleCourt$Slice" 4 1) (hr : X.meth.sig.returnType = none) (hnh : X.c.exceptionTable.isEmpty = true) (hin : X.meth.name = "<init>") : xAll X (tb_Sl_init X) := by
  refine xA (ok_aload_n hC (show decode prog_8_method_1_code 0 = .ok (.aload_n 0, 1) by decide +kernel) rfl) ?_
  refine xA (ok_obj hC (by decide) (show decode prog_8_method_1_code 1 = .ok (.invokespecial 1, 3) by decide +kernel) w_194 w_106 w_107) ?_
  refine xA (ok_aload_n hC (show decode prog_8_method_1_code 4 = .ok (.aload_n 0, 1) by decide +kernel) rfl) ?_
  refine xA (ok_aload_n hC (show decode prog_8_method_1_code 5 = .ok (.aload_n 1, 1) by decide +kernel) rfl) ?_
  refine xA (ok_putF hC hin (show decode prog_8_method_1_code 6 = .ok (.putfield 7, 3) by decide +kernel) (by decide) (r0 := ("StyleCourt$Slice", xF2, 3)) rfl (by decide) rfl (by decide +kernel) w_195) ?_
  refine xA (ok_aload_n hC (show decode prog_8_method_1_code 9 = .ok (.aload_n 0, 1) by decide +kernel) rfl) ?_
  refine xA (ok_iload_n hC (show decode prog_8_method_1_code 10 = .ok (.iload_n 2, 1) by decide +kernel) rfl) ?_
  refine xA (ok_putF hC hin (show decode prog_8_method_1_code 11 = .ok (.putfield 13, 3) by decide +kernel) (by decide) (r0 := ("StyleCourt$Slice", xF2, 3)) rfl (by decide) rfl (by decide +kernel) w_196) ?_
  refine xA (ok_aload_n hC (show decode prog_8_method_1_code 14 = .ok (.aload_n 0, 1) by decide +kernel) rfl) ?_
  refine xA (ok_iload_n hC (show decode prog_8_method_1_code 15 = .ok (.iload_n 3, 1) by decide +kernel) rfl) ?_
  refine xA (ok_putF hC hin (show decode prog_8_method_1_code 16 = .ok (.putfield 17, 3) by decide +kernel) (by decide) (r0 := ("StyleCourt$Slice", xF2, 3)) rfl (by decide) rfl (by decide +kernel) w_200) ?_
  refine xA (ok_vret hC hr (show decode prog_8_method_1_code 19 = .ok (.return_, 1) by decide +kernel)) ?_
  exact trivial

def tb_Sl_sameAs (X : xX) : List (Nat × xOp) := [(0, o_ald 0 1),
  (1, o_get 2 2 4),
  (4, o_ald 1 5),
  (5, o_get 2 2 8),
  (8, o_iceq 13 11),
  (11, o_ic 0 12),
  (12, o_zret .boolean X.P),
  (13, o_ic 0 14),
  (14, o_ist 2 15),
  (15, o_ild 2 16),
  (16, o_ald 0 17),
  (17, o_get 2 2 20),
  (20, o_icge 56 23),
  (23, o_ald 0 24),
  (24, o_get 2 0 27),
  (27, o_ald 0 28),
  (28, o_get 2 1 31),
  (31, o_ild 2 32),
  (32, o_iadd 33),
  (33, o_ld 1 34),
  (34, o_ald 1 35),
  (35, o_get 2 0 38),
  (38, o_ald 1 39),
  (39, o_get 2 1 42),
  (42, o_ild 2 43),
  (43, o_iadd 44),
  (44, o_ld 1 45),
  (45, o_iceq 50 48),
  (48, o_ic 0 49),
  (49, o_zret .boolean X.P),
  (50, o_inc 2 1 53),
  (53, o_goto 15),
  (56, o_ic 1 57),
  (57, o_zret .boolean X.P)]
theorem tk_Sl_sameAs {X : xX} (hC : xCx X prog_8_method_2_code "StyleCourt$Slice" 3 0) (hr : X.meth.sig.returnType = (some .boolean)) (hnh : X.c.exceptionTable.isEmpty = true) (hin : X.meth.name = "sameAs") : xAll X (tb_Sl_sameAs X) := by
  refine xA (ok_aload_n hC (show decode prog_8_method_2_code 0 = .ok (.aload_n 0, 1) by decide +kernel) rfl) ?_
  refine xA (ok_get hC (show decode prog_8_method_2_code 1 = .ok (.getfield 17, 3) by decide +kernel) (by decide) (r0 := ("StyleCourt$Slice", xF2, 3)) rfl (by decide) rfl w_200) ?_
  refine xA (ok_aload_n hC (show decode prog_8_method_2_code 4 = .ok (.aload_n 1, 1) by decide +kernel) rfl) ?_
  refine xA (ok_get hC (show decode prog_8_method_2_code 5 = .ok (.getfield 17, 3) by decide +kernel) (by decide) (r0 := ("StyleCourt$Slice", xF2, 3)) rfl (by decide) rfl w_200) ?_
  refine xA (ok_iceq hC (show decode prog_8_method_2_code 8 = .ok (.if_icmp .eq 5, 3) by decide +kernel) (by decide)) ?_
  refine xA (ok_iconst hC (show decode prog_8_method_2_code 11 = .ok (.iconst 0, 1) by decide +kernel) (by decide)) ?_
  refine xA (ok_zret hC hr (show decode prog_8_method_2_code 12 = .ok (.ireturn, 1) by decide +kernel)) ?_
  refine xA (ok_iconst hC (show decode prog_8_method_2_code 13 = .ok (.iconst 0, 1) by decide +kernel) (by decide)) ?_
  refine xA (ok_istore_n hC (show decode prog_8_method_2_code 14 = .ok (.istore_n 2, 1) by decide +kernel) rfl (by decide)) ?_
  refine xA (ok_iload_n hC (show decode prog_8_method_2_code 15 = .ok (.iload_n 2, 1) by decide +kernel) rfl) ?_
  refine xA (ok_aload_n hC (show decode prog_8_method_2_code 16 = .ok (.aload_n 0, 1) by decide +kernel) rfl) ?_
  refine xA (ok_get hC (show decode prog_8_method_2_code 17 = .ok (.getfield 17, 3) by decide +kernel) (by decide) (r0 := ("StyleCourt$Slice", xF2, 3)) rfl (by decide) rfl w_200) ?_
  refine xA (ok_icge hC (show decode prog_8_method_2_code 20 = .ok (.if_icmp .ge 36, 3) by decide +kernel) (by decide)) ?_
  refine xA (ok_aload_n hC (show decode prog_8_method_2_code 23 = .ok (.aload_n 0, 1) by decide +kernel) rfl) ?_
  refine xA (ok_get hC (show decode prog_8_method_2_code 24 = .ok (.getfield 7, 3) by decide +kernel) (by decide) (r0 := ("StyleCourt$Slice", xF2, 3)) rfl (by decide) rfl w_195) ?_
  refine xA (ok_aload_n hC (show decode prog_8_method_2_code 27 = .ok (.aload_n 0, 1) by decide +kernel) rfl) ?_
  refine xA (ok_get hC (show decode prog_8_method_2_code 28 = .ok (.getfield 13, 3) by decide +kernel) (by decide) (r0 := ("StyleCourt$Slice", xF2, 3)) rfl (by decide) rfl w_196) ?_
  refine xA (ok_iload_n hC (show decode prog_8_method_2_code 31 = .ok (.iload_n 2, 1) by decide +kernel) rfl) ?_
  refine xA (ok_iadd hC (show decode prog_8_method_2_code 32 = .ok (.iadd, 1) by decide +kernel)) ?_
  refine xA (ok_bald hC (show decode prog_8_method_2_code 33 = .ok (.baload, 1) by decide +kernel) (by decide) rfl) ?_
  refine xA (ok_aload_n hC (show decode prog_8_method_2_code 34 = .ok (.aload_n 1, 1) by decide +kernel) rfl) ?_
  refine xA (ok_get hC (show decode prog_8_method_2_code 35 = .ok (.getfield 7, 3) by decide +kernel) (by decide) (r0 := ("StyleCourt$Slice", xF2, 3)) rfl (by decide) rfl w_195) ?_
  refine xA (ok_aload_n hC (show decode prog_8_method_2_code 38 = .ok (.aload_n 1, 1) by decide +kernel) rfl) ?_
  refine xA (ok_get hC (show decode prog_8_method_2_code 39 = .ok (.getfield 13, 3) by decide +kernel) (by decide) (r0 := ("StyleCourt$Slice", xF2, 3)) rfl (by decide) rfl w_196) ?_
  refine xA (ok_iload_n hC (show decode prog_8_method_2_code 42 = .ok (.iload_n 2, 1) by decide +kernel) rfl) ?_
  refine xA (ok_iadd hC (show decode prog_8_method_2_code 43 = .ok (.iadd, 1) by decide +kernel)) ?_
  refine xA (ok_bald hC (show decode prog_8_method_2_code 44 = .ok (.baload, 1) by decide +kernel) (by decide) rfl) ?_
  refine xA (ok_iceq hC (show decode prog_8_method_2_code 45 = .ok (.if_icmp .eq 5, 3) by decide +kernel) (by decide)) ?_
  refine xA (ok_iconst hC (show decode prog_8_method_2_code 48 = .ok (.iconst 0, 1) by decide +kernel) (by decide)) ?_
  refine xA (ok_zret hC hr (show decode prog_8_method_2_code 49 = .ok (.ireturn, 1) by decide +kernel)) ?_
  refine xA (ok_iinc hC (show decode prog_8_method_2_code 50 = .ok (.iinc 2 1, 3) by decide +kernel) (by decide) (by decide)) ?_
  refine xA (ok_goto hC (show decode prog_8_method_2_code 53 = .ok (.goto (-38), 3) by decide +kernel) (by decide)) ?_
  refine xA (ok_iconst hC (show decode prog_8_method_2_code 56 = .ok (.iconst 1, 1) by decide +kernel) (by decide)) ?_
  refine xA (ok_zret hC hr (show decode prog_8_method_2_code 57 = .ok (.ireturn, 1) by decide +kernel)) ?_
  exact trivial

def tb_Sl_holds (X : xX) : List (Nat × xOp) := [(0, o_ic 0 1),
  (1, o_ist 2 2),
  (2, o_ild 2 3),
  (3, o_ald 0 4),
  (4, o_get 2 2 7),
  (7, o_icge 33 10),
  (10, o_ald 0 11),
  (11, o_get 2 0 14),
  (14, o_ald 0 15),
  (15, o_get 2 1 18),
  (18, o_ild 2 19),
  (19, o_iadd 20),
  (20, o_ld 1 21),
  (21, o_ild 1 22),
  (22, o_icne 27 25),
  (25, o_ic 1 26),
  (26, o_zret .boolean X.P),
  (27, o_inc 2 1 30),
  (30, o_goto 2),
  (33, o_ic 0 34),
  (34, o_zret .boolean X.P)]
theorem tk_Sl_holds {X : xX} (hC : xCx X prog_8_method_4_code "StyleCourt$Slice" 3 0) (hr : X.meth.sig.returnType = (some .boolean)) (hnh : X.c.exceptionTable.isEmpty = true) (hin : X.meth.name = "holds") : xAll X (tb_Sl_holds X) := by
  refine xA (ok_iconst hC (show decode prog_8_method_4_code 0 = .ok (.iconst 0, 1) by decide +kernel) (by decide)) ?_
  refine xA (ok_istore_n hC (show decode prog_8_method_4_code 1 = .ok (.istore_n 2, 1) by decide +kernel) rfl (by decide)) ?_
  refine xA (ok_iload_n hC (show decode prog_8_method_4_code 2 = .ok (.iload_n 2, 1) by decide +kernel) rfl) ?_
  refine xA (ok_aload_n hC (show decode prog_8_method_4_code 3 = .ok (.aload_n 0, 1) by decide +kernel) rfl) ?_
  refine xA (ok_get hC (show decode prog_8_method_4_code 4 = .ok (.getfield 17, 3) by decide +kernel) (by decide) (r0 := ("StyleCourt$Slice", xF2, 3)) rfl (by decide) rfl w_200) ?_
  refine xA (ok_icge hC (show decode prog_8_method_4_code 7 = .ok (.if_icmp .ge 26, 3) by decide +kernel) (by decide)) ?_
  refine xA (ok_aload_n hC (show decode prog_8_method_4_code 10 = .ok (.aload_n 0, 1) by decide +kernel) rfl) ?_
  refine xA (ok_get hC (show decode prog_8_method_4_code 11 = .ok (.getfield 7, 3) by decide +kernel) (by decide) (r0 := ("StyleCourt$Slice", xF2, 3)) rfl (by decide) rfl w_195) ?_
  refine xA (ok_aload_n hC (show decode prog_8_method_4_code 14 = .ok (.aload_n 0, 1) by decide +kernel) rfl) ?_
  refine xA (ok_get hC (show decode prog_8_method_4_code 15 = .ok (.getfield 13, 3) by decide +kernel) (by decide) (r0 := ("StyleCourt$Slice", xF2, 3)) rfl (by decide) rfl w_196) ?_
  refine xA (ok_iload_n hC (show decode prog_8_method_4_code 18 = .ok (.iload_n 2, 1) by decide +kernel) rfl) ?_
  refine xA (ok_iadd hC (show decode prog_8_method_4_code 19 = .ok (.iadd, 1) by decide +kernel)) ?_
  refine xA (ok_bald hC (show decode prog_8_method_4_code 20 = .ok (.baload, 1) by decide +kernel) (by decide) rfl) ?_
  refine xA (ok_iload_n hC (show decode prog_8_method_4_code 21 = .ok (.iload_n 1, 1) by decide +kernel) rfl) ?_
  refine xA (ok_icne hC (show decode prog_8_method_4_code 22 = .ok (.if_icmp .ne 5, 3) by decide +kernel) (by decide)) ?_
  refine xA (ok_iconst hC (show decode prog_8_method_4_code 25 = .ok (.iconst 1, 1) by decide +kernel) (by decide)) ?_
  refine xA (ok_zret hC hr (show decode prog_8_method_4_code 26 = .ok (.ireturn, 1) by decide +kernel)) ?_
  refine xA (ok_iinc hC (show decode prog_8_method_4_code 27 = .ok (.iinc 2 1, 3) by decide +kernel) (by decide) (by decide)) ?_
  refine xA (ok_goto hC (show decode prog_8_method_4_code 30 = .ok (.goto (-28), 3) by decide +kernel) (by decide)) ?_
  refine xA (ok_iconst hC (show decode prog_8_method_4_code 33 = .ok (.iconst 0, 1) by decide +kernel) (by decide)) ?_
  refine xA (ok_zret hC hr (show decode prog_8_method_4_code 34 = .ok (.ireturn, 1) by decide +kernel)) ?_
  exact trivial

def tb_Sl_spells (X : xX) : List (Nat × xOp) := [(0, o_ald 0 1),
  (1, o_get 2 2 4),
  (4, o_ald 1 5),
  (5, o_callV X.l X.D X.P 300 1 1 y_Sg_length 8),
  (8, o_iceq 13 11),
  (11, o_ic 0 12),
  (12, o_zret .boolean X.P),
  (13, o_ic 0 14),
  (14, o_ist 2 15),
  (15, o_ild 2 16),
  (16, o_ald 0 17),
  (17, o_get 2 2 20),
  (20, o_icge 50 23),
  (23, o_ald 0 24),
  (24, o_get 2 0 27),
  (27, o_ald 0 28),
  (28, o_get 2 1 31),
  (31, o_ild 2 32),
  (32, o_iadd 33),
  (33, o_ld 1 34),
  (34, o_ald 1 35),
  (35, o_ild 2 36),
  (36, o_callV X.l X.D X.P 300 4 2 y_Sg_charAt 39),
  (39, o_iceq 44 42),
  (42, o_ic 0 43),
  (43, o_zret .boolean X.P),
  (44, o_inc 2 1 47),
  (47, o_goto 15),
  (50, o_ic 1 51),
  (51, o_zret .boolean X.P)]
theorem tk_Sl_spells {X : xX} (hC : xCx X prog_8_method_3_code "StyleCourt$Slice" 3 5) (hr : X.meth.sig.returnType = (some .boolean)) (hnh : X.c.exceptionTable.isEmpty = true) (hin : X.meth.name = "spells") : xAll X (tb_Sl_spells X) := by
  refine xA (ok_aload_n hC (show decode prog_8_method_3_code 0 = .ok (.aload_n 0, 1) by decide +kernel) rfl) ?_
  refine xA (ok_get hC (show decode prog_8_method_3_code 1 = .ok (.getfield 17, 3) by decide +kernel) (by decide) (r0 := ("StyleCourt$Slice", xF2, 3)) rfl (by decide) rfl w_200) ?_
  refine xA (ok_aload_n hC (show decode prog_8_method_3_code 4 = .ok (.aload_n 1, 1) by decide +kernel) rfl) ?_
  refine xA (ok_callStr hC hnh (show decode prog_8_method_3_code 5 = .ok (.invokevirtual 20, 3) by decide +kernel) (by decide) (by decide) ⟨by decide, by decide, by decide +kernel⟩ w_839 w_96 w_836 w_837 w_838) ?_
  refine xA (ok_iceq hC (show decode prog_8_method_3_code 8 = .ok (.if_icmp .eq 5, 3) by decide +kernel) (by decide)) ?_
  refine xA (ok_iconst hC (show decode prog_8_method_3_code 11 = .ok (.iconst 0, 1) by decide +kernel) (by decide)) ?_
  refine xA (ok_zret hC hr (show decode prog_8_method_3_code 12 = .ok (.ireturn, 1) by decide +kernel)) ?_
  refine xA (ok_iconst hC (show decode prog_8_method_3_code 13 = .ok (.iconst 0, 1) by decide +kernel) (by decide)) ?_
  refine xA (ok_istore_n hC (show decode prog_8_method_3_code 14 = .ok (.istore_n 2, 1) by decide +kernel) rfl (by decide)) ?_
  refine xA (ok_iload_n hC (show decode prog_8_method_3_code 15 = .ok (.iload_n 2, 1) by decide +kernel) rfl) ?_
  refine xA (ok_aload_n hC (show decode prog_8_method_3_code 16 = .ok (.aload_n 0, 1) by decide +kernel) rfl) ?_
  refine xA (ok_get hC (show decode prog_8_method_3_code 17 = .ok (.getfield 17, 3) by decide +kernel) (by decide) (r0 := ("StyleCourt$Slice", xF2, 3)) rfl (by decide) rfl w_200) ?_
  refine xA (ok_icge hC (show decode prog_8_method_3_code 20 = .ok (.if_icmp .ge 30, 3) by decide +kernel) (by decide)) ?_
  refine xA (ok_aload_n hC (show decode prog_8_method_3_code 23 = .ok (.aload_n 0, 1) by decide +kernel) rfl) ?_
  refine xA (ok_get hC (show decode prog_8_method_3_code 24 = .ok (.getfield 7, 3) by decide +kernel) (by decide) (r0 := ("StyleCourt$Slice", xF2, 3)) rfl (by decide) rfl w_195) ?_
  refine xA (ok_aload_n hC (show decode prog_8_method_3_code 27 = .ok (.aload_n 0, 1) by decide +kernel) rfl) ?_
  refine xA (ok_get hC (show decode prog_8_method_3_code 28 = .ok (.getfield 13, 3) by decide +kernel) (by decide) (r0 := ("StyleCourt$Slice", xF2, 3)) rfl (by decide) rfl w_196) ?_
  refine xA (ok_iload_n hC (show decode prog_8_method_3_code 31 = .ok (.iload_n 2, 1) by decide +kernel) rfl) ?_
  refine xA (ok_iadd hC (show decode prog_8_method_3_code 32 = .ok (.iadd, 1) by decide +kernel)) ?_
  refine xA (ok_bald hC (show decode prog_8_method_3_code 33 = .ok (.baload, 1) by decide +kernel) (by decide) rfl) ?_
  refine xA (ok_aload_n hC (show decode prog_8_method_3_code 34 = .ok (.aload_n 1, 1) by decide +kernel) rfl) ?_
  refine xA (ok_iload_n hC (show decode prog_8_method_3_code 35 = .ok (.iload_n 2, 1) by decide +kernel) rfl) ?_
  refine xA (ok_callStr hC hnh (show decode prog_8_method_3_code 36 = .ok (.invokevirtual 25, 3) by decide +kernel) (by decide) (by decide) ⟨by decide, by decide, by decide +kernel⟩ w_849 w_96 w_846 w_847 w_848) ?_
  refine xA (ok_iceq hC (show decode prog_8_method_3_code 39 = .ok (.if_icmp .eq 5, 3) by decide +kernel) (by decide)) ?_
  refine xA (ok_iconst hC (show decode prog_8_method_3_code 42 = .ok (.iconst 0, 1) by decide +kernel) (by decide)) ?_
  refine xA (ok_zret hC hr (show decode prog_8_method_3_code 43 = .ok (.ireturn, 1) by decide +kernel)) ?_
  refine xA (ok_iinc hC (show decode prog_8_method_3_code 44 = .ok (.iinc 2 1, 3) by decide +kernel) (by decide) (by decide)) ?_
  refine xA (ok_goto hC (show decode prog_8_method_3_code 47 = .ok (.goto (-32), 3) by decide +kernel) (by decide)) ?_
  refine xA (ok_iconst hC (show decode prog_8_method_3_code 50 = .ok (.iconst 1, 1) by decide +kernel) (by decide)) ?_
  refine xA (ok_zret hC hr (show decode prog_8_method_3_code 51 = .ok (.ireturn, 1) by decide +kernel)) ?_
  exact trivial

def tb_Sl_copyTo (X : xX) : List (Nat × xOp) := [(0, o_ic 0 1),
  (1, o_ald 0 2),
  (2, o_get 2 2 5),
  (5, o_ald 1 6),
  (6, o_len 7),
  (7, o_ild 2 8),
  (8, o_isub 9),
  (9, o_min 12),
  (12, o_max 15),
  (15, o_ist 3 16),
  (16, o_ald 0 17),
  (17, o_get 2 0 20),
  (20, o_ald 0 21),
  (21, o_get 2 1 24),
  (24, o_ald 1 25),
  (25, o_ild 2 26),
  (26, o_ild 3 27),
  (27, o_cpyB 30),
  (30, o_ild 2 31),
  (31, o_ild 3 32),
  (32, o_iadd 33),
  (33, o_iret X.P)]
theorem tk_Sl_copyTo {X : xX} (hC : xCx X prog_8_method_5_code "StyleCourt$Slice" 4 1) (hr : X.meth.sig.returnType = (some .int)) (hnh : X.c.exceptionTable.isEmpty = true) (hin : X.meth.name = "copyTo") : xAll X (tb_Sl_copyTo X) := by
  refine xA (ok_iconst hC (show decode prog_8_method_5_code 0 = .ok (.iconst 0, 1) by decide +kernel) (by decide)) ?_
  refine xA (ok_aload_n hC (show decode prog_8_method_5_code 1 = .ok (.aload_n 0, 1) by decide +kernel) rfl) ?_
  refine xA (ok_get hC (show decode prog_8_method_5_code 2 = .ok (.getfield 17, 3) by decide +kernel) (by decide) (r0 := ("StyleCourt$Slice", xF2, 3)) rfl (by decide) rfl w_200) ?_
  refine xA (ok_aload_n hC (show decode prog_8_method_5_code 5 = .ok (.aload_n 1, 1) by decide +kernel) rfl) ?_
  refine xA (ok_len hC (show decode prog_8_method_5_code 6 = .ok (.arraylength, 1) by decide +kernel)) ?_
  refine xA (ok_iload_n hC (show decode prog_8_method_5_code 7 = .ok (.iload_n 2, 1) by decide +kernel) rfl) ?_
  refine xA (ok_isub hC (show decode prog_8_method_5_code 8 = .ok (.isub, 1) by decide +kernel)) ?_
  refine xA (ok_min hC (by decide) (show decode prog_8_method_5_code 9 = .ok (.invokestatic 29, 3) by decide +kernel) w_1053 w_127 w_72 w_128) ?_
  refine xA (ok_max hC (by decide) (show decode prog_8_method_5_code 12 = .ok (.invokestatic 35, 3) by decide +kernel) w_1054 w_332 w_72 w_333) ?_
  refine xA (ok_istore_n hC (show decode prog_8_method_5_code 15 = .ok (.istore_n 3, 1) by decide +kernel) rfl (by decide)) ?_
  refine xA (ok_aload_n hC (show decode prog_8_method_5_code 16 = .ok (.aload_n 0, 1) by decide +kernel) rfl) ?_
  refine xA (ok_get hC (show decode prog_8_method_5_code 17 = .ok (.getfield 7, 3) by decide +kernel) (by decide) (r0 := ("StyleCourt$Slice", xF2, 3)) rfl (by decide) rfl w_195) ?_
  refine xA (ok_aload_n hC (show decode prog_8_method_5_code 20 = .ok (.aload_n 0, 1) by decide +kernel) rfl) ?_
  refine xA (ok_get hC (show decode prog_8_method_5_code 21 = .ok (.getfield 13, 3) by decide +kernel) (by decide) (r0 := ("StyleCourt$Slice", xF2, 3)) rfl (by decide) rfl w_196) ?_
  refine xA (ok_aload_n hC (show decode prog_8_method_5_code 24 = .ok (.aload_n 1, 1) by decide +kernel) rfl) ?_
  refine xA (ok_iload_n hC (show decode prog_8_method_5_code 25 = .ok (.iload_n 2, 1) by decide +kernel) rfl) ?_
  refine xA (ok_iload_n hC (show decode prog_8_method_5_code 26 = .ok (.iload_n 3, 1) by decide +kernel) rfl) ?_
  refine xA (ok_cpyB hC (by decide) (show decode prog_8_method_5_code 27 = .ok (.invokestatic 38, 3) by decide +kernel) w_1055 w_131 w_130 w_73) ?_
  refine xA (ok_iload_n hC (show decode prog_8_method_5_code 30 = .ok (.iload_n 2, 1) by decide +kernel) rfl) ?_
  refine xA (ok_iload_n hC (show decode prog_8_method_5_code 31 = .ok (.iload_n 3, 1) by decide +kernel) rfl) ?_
  refine xA (ok_iadd hC (show decode prog_8_method_5_code 32 = .ok (.iadd, 1) by decide +kernel)) ?_
  refine xA (ok_iret hC hr (show decode prog_8_method_5_code 33 = .ok (.ireturn, 1) by decide +kernel)) ?_
  exact trivial

def tb_Rd_init (X : xX) : List (Nat × xOp) := [(0, o_ald 0 1),
  (1, o_obj 4),
  (4, o_ald 0 5),
  (5, o_ic 0 6),
  (6, o_put 1 1 (.int) 9),
  (9, o_ald 0 10),
  (10, o_ic (-1) 11),
  (11, o_put 1 2 (.int) 14),
  (14, o_ald 0 15),
  (15, o_ald 1 16),
  (16, o_ild 2 17),
  (17, o_callS X.l X.D X.P 1 2 y_Ar_copyOf 20),
  (20, o_put 1 0 (.array .byte) 23),
  (23, o_vret X.P)]
theorem tk_Rd_init {X : xX} (hC : xCx X prog_5_method_1_code "StyleCourt$Reader" 3 2) (hr : X.meth.sig.returnType = none) (hnh : X.c.exceptionTable.isEmpty = true) (hin : X.meth.name = "<init>") : xAll X (tb_Rd_init X) := by
  refine xA (ok_aload_n hC (show decode prog_5_method_1_code 0 = .ok (.aload_n 0, 1) by decide +kernel) rfl) ?_
  refine xA (ok_obj hC (by decide) (show decode prog_5_method_1_code 1 = .ok (.invokespecial 3, 3) by decide +kernel) w_115 w_106 w_107) ?_
  refine xA (ok_aload_n hC (show decode prog_5_method_1_code 4 = .ok (.aload_n 0, 1) by decide +kernel) rfl) ?_
  refine xA (ok_iconst hC (show decode prog_5_method_1_code 5 = .ok (.iconst 0, 1) by decide +kernel) (by decide)) ?_
  refine xA (ok_put hC (show decode prog_5_method_1_code 6 = .ok (.putfield 9, 3) by decide +kernel) (by decide) (r0 := ("StyleCourt$Reader", xF1, 3)) rfl (by decide) rfl (by decide +kernel) w_135) ?_
  refine xA (ok_aload_n hC (show decode prog_5_method_1_code 9 = .ok (.aload_n 0, 1) by decide +kernel) rfl) ?_
  refine xA (ok_iconst hC (show decode prog_5_method_1_code 10 = .ok (.iconst (-1), 1) by decide +kernel) (by decide)) ?_
  refine xA (ok_put hC (show decode prog_5_method_1_code 11 = .ok (.putfield 15, 3) by decide +kernel) (by decide) (r0 := ("StyleCourt$Reader", xF1, 3)) rfl (by decide) rfl (by decide +kernel) w_143) ?_
  refine xA (ok_aload_n hC (show decode prog_5_method_1_code 14 = .ok (.aload_n 0, 1) by decide +kernel) rfl) ?_
  refine xA (ok_aload_n hC (show decode prog_5_method_1_code 15 = .ok (.aload_n 1, 1) by decide +kernel) rfl) ?_
  refine xA (ok_iload_n hC (show decode prog_5_method_1_code 16 = .ok (.iload_n 2, 1) by decide +kernel) rfl) ?_
  refine xA (ok_callS (hh := []) hC hnh (show decode prog_5_method_1_code 17 = .ok (.invokestatic 18, 3) by decide +kernel) (by decide) (by decide) ⟨by decide, by decide, by decide +kernel⟩ (Or.inl w_118) w_71 w_116 w_117) ?_
  refine xA (ok_putF hC hin (show decode prog_5_method_1_code 20 = .ok (.putfield 24, 3) by decide +kernel) (by decide) (r0 := ("StyleCourt$Reader", xF1, 3)) rfl (by decide) rfl (by decide +kernel) w_132) ?_
  refine xA (ok_vret hC hr (show decode prog_5_method_1_code 23 = .ok (.return_, 1) by decide +kernel)) ?_
  exact trivial

def tb_Rd_here (X : xX) : List (Nat × xOp) := [(0, o_ald 0 1),
  (1, o_get 1 1 4),
  (4, o_ald 0 5),
  (5, o_get 1 0 8),
  (8, o_len 9),
  (9, o_icge 28 12),
  (12, o_ald 0 13),
  (13, o_get 1 0 16),
  (16, o_ald 0 17),
  (17, o_get 1 1 20),
  (20, o_ld 1 21),
  (21, o_ic 255 24),
  (24, o_iand 25),
  (25, o_goto 29),
  (28, o_ic (-1) 29),
  (29, o_iret X.P)]
theorem tk_Rd_here {X : xX} (hC : xCx X prog_5_method_3_code "StyleCourt$Reader" 1 0) (hr : X.meth.sig.returnType = (some .int)) (hnh : X.c.exceptionTable.isEmpty = true) (hin : X.meth.name = "here") : xAll X (tb_Rd_here X) := by
  refine xA (ok_aload_n hC (show decode prog_5_method_3_code 0 = .ok (.aload_n 0, 1) by decide +kernel) rfl) ?_
  refine xA (ok_get hC (show decode prog_5_method_3_code 1 = .ok (.getfield 9, 3) by decide +kernel) (by decide) (r0 := ("StyleCourt$Reader", xF1, 3)) rfl (by decide) rfl w_135) ?_
  refine xA (ok_aload_n hC (show decode prog_5_method_3_code 4 = .ok (.aload_n 0, 1) by decide +kernel) rfl) ?_
  refine xA (ok_get hC (show decode prog_5_method_3_code 5 = .ok (.getfield 24, 3) by decide +kernel) (by decide) (r0 := ("StyleCourt$Reader", xF1, 3)) rfl (by decide) rfl w_132) ?_
  refine xA (ok_len hC (show decode prog_5_method_3_code 8 = .ok (.arraylength, 1) by decide +kernel)) ?_
  refine xA (ok_icge hC (show decode prog_5_method_3_code 9 = .ok (.if_icmp .ge 19, 3) by decide +kernel) (by decide)) ?_
  refine xA (ok_aload_n hC (show decode prog_5_method_3_code 12 = .ok (.aload_n 0, 1) by decide +kernel) rfl) ?_
  refine xA (ok_get hC (show decode prog_5_method_3_code 13 = .ok (.getfield 24, 3) by decide +kernel) (by decide) (r0 := ("StyleCourt$Reader", xF1, 3)) rfl (by decide) rfl w_132) ?_
  refine xA (ok_aload_n hC (show decode prog_5_method_3_code 16 = .ok (.aload_n 0, 1) by decide +kernel) rfl) ?_
  refine xA (ok_get hC (show decode prog_5_method_3_code 17 = .ok (.getfield 9, 3) by decide +kernel) (by decide) (r0 := ("StyleCourt$Reader", xF1, 3)) rfl (by decide) rfl w_135) ?_
  refine xA (ok_bald hC (show decode prog_5_method_3_code 20 = .ok (.baload, 1) by decide +kernel) (by decide) rfl) ?_
  refine xA (ok_sipush hC (show decode prog_5_method_3_code 21 = .ok (.sipush 255, 3) by decide +kernel) (by decide)) ?_
  refine xA (ok_iand hC (show decode prog_5_method_3_code 24 = .ok (.iand, 1) by decide +kernel)) ?_
  refine xA (ok_goto hC (show decode prog_5_method_3_code 25 = .ok (.goto 4, 3) by decide +kernel) (by decide)) ?_
  refine xA (ok_iconst hC (show decode prog_5_method_3_code 28 = .ok (.iconst (-1), 1) by decide +kernel) (by decide)) ?_
  refine xA (ok_iret hC hr (show decode prog_5_method_3_code 29 = .ok (.ireturn, 1) by decide +kernel)) ?_
  exact trivial

def tb_Rd_failAt (X : xX) : List (Nat × xOp) := [(0, o_ald 0 1),
  (1, o_ild 1 2),
  (2, o_put 1 2 (.int) 5),
  (5, o_throw X.P 16)]
theorem tk_Rd_failAt {X : xX} (hC : xCx X prog_5_method_2_code "StyleCourt$Reader" 2 6) (hr : X.meth.sig.returnType = none) (hnh : X.c.exceptionTable.isEmpty = true) (hin : X.meth.name = "failAt") : xAll X (tb_Rd_failAt X) := by
  refine xA (ok_aload_n hC (show decode prog_5_method_2_code 0 = .ok (.aload_n 0, 1) by decide +kernel) rfl) ?_
  refine xA (ok_iload_n hC (show decode prog_5_method_2_code 1 = .ok (.iload_n 1, 1) by decide +kernel) rfl) ?_
  refine xA (ok_put hC (show decode prog_5_method_2_code 2 = .ok (.putfield 15, 3) by decide +kernel) (by decide) (r0 := ("StyleCourt$Reader", xF1, 3)) rfl (by decide) rfl (by decide +kernel) w_143) ?_
  refine xA (ok_throw hC hnh ["java/lang/RuntimeException", "java/lang/Exception"] (show decode prog_5_method_2_code 5 = .ok (.new 28, 3) by decide +kernel) (show decode prog_5_method_2_code 8 = .ok (.dup, 1) by decide +kernel) (show decode prog_5_method_2_code 9 = .ok (.ldc 30, 2) by decide +kernel) (show decode prog_5_method_2_code 11 = .ok (.invokespecial 32, 3) by decide +kernel) (show decode prog_5_method_2_code 14 = .ok (.athrow, 1) by decide +kernel) (by decide) (r0 := ("java/lang/UnsupportedOperationException", xF16, 0)) rfl rfl w_592 w_89 (j := 2) rfl (by decide +kernel) (by decide +kernel) (ow_Rd_32 ) (by decide) (by decide)) ?_
  exact trivial

def tb_Rd_readName (X : xX) : List (Nat × xOp) := [(0, o_ald 0 1),
  (1, o_get 1 1 4),
  (4, o_ist 1 5),
  (5, o_ald 0 6),
  (6, o_callV X.l X.D X.P 1 0 1 y_Rd_here 9),
  (9, o_callS X.l X.D X.P 0 1 y_Sc_isSmall 12),
  (12, o_ifne 20 15),
  (15, o_ald 0 16),
  (16, o_ild 1 17),
  (17, o_callV X.l X.D X.P 1 6 2 y_Rd_failAt 20),
  (20, o_ald 0 21),
  (21, o_get 1 1 24),
  (24, o_ald 0 25),
  (25, o_get 1 0 28),
  (28, o_len 29),
  (29, o_icge 75 32),
  (32, o_ald 0 33),
  (33, o_get 1 0 36),
  (36, o_ald 0 37),
  (37, o_get 1 1 40),
  (40, o_ld 1 41),
  (41, o_callS X.l X.D X.P 0 1 y_Sc_isSmall 44),
  (44, o_ifne 62 47),
  (47, o_ald 0 48),
  (48, o_get 1 0 51),
  (51, o_ald 0 52),
  (52, o_get 1 1 55),
  (55, o_ld 1 56),
  (56, o_callS X.l X.D X.P 0 1 y_Sc_isDigit 59),
  (59, o_ifeq 75 62),
  (62, o_ald 0 63),
  (63, o_dup 64),
  (64, o_get 1 1 67),
  (67, o_ic 1 68),
  (68, o_iadd 69),
  (69, o_put 1 1 (.int) 72),
  (72, o_goto 20),
  (75, o_ald 0 76),
  (76, o_get 1 1 79),
  (79, o_ild 1 80),
  (80, o_isub 81),
  (81, o_ic 12 83),
  (83, o_icle 91 86),
  (86, o_ald 0 87),
  (87, o_ild 1 88),
  (88, o_callV X.l X.D X.P 1 6 2 y_Rd_failAt 91),
  (91, o_new 2 3 [.null, .int 0, .int 0] 94),
  (94, o_dup 95),
  (95, o_ald 0 96),
  (96, o_get 1 0 99),
  (99, o_ild 1 100),
  (100, o_ald 0 101),
  (101, o_get 1 1 104),
  (104, o_ild 1 105),
  (105, o_isub 106),
  (106, o_callI X.l X.D X.P 1 4 y_Sl_init 109),
  (109, o_aret X.P)]
theorem tk_Rd_readName {X : xX} (hC : xCx X prog_5_method_7_code "StyleCourt$Reader" 2 7) (hr : X.meth.sig.returnType = (some (.object "StyleCourt$Slice"))) (hnh : X.c.exceptionTable.isEmpty = true) (hin : X.meth.name = "readName") : xAll X (tb_Rd_readName X) := by
  refine xA (ok_aload_n hC (show decode prog_5_method_7_code 0 = .ok (.aload_n 0, 1) by decide +kernel) rfl) ?_
  refine xA (ok_get hC (show decode prog_5_method_7_code 1 = .ok (.getfield 9, 3) by decide +kernel) (by decide) (r0 := ("StyleCourt$Reader", xF1, 3)) rfl (by decide) rfl w_135) ?_
  refine xA (ok_istore_n hC (show decode prog_5_method_7_code 4 = .ok (.istore_n 1, 1) by decide +kernel) rfl (by decide)) ?_
  refine xA (ok_aload_n hC (show decode prog_5_method_7_code 5 = .ok (.aload_n 0, 1) by decide +kernel) rfl) ?_
  refine xA (ok_callV hC hnh (show decode prog_5_method_7_code 6 = .ok (.invokevirtual 39, 3) by decide +kernel) (by decide) (by decide) (by decide) (r0 := ("StyleCourt$Reader", xF1, 3)) rfl ⟨by decide, by decide, by decide +kernel⟩ w_574 w_70 w_612 w_572 w_573) ?_
  refine xA (ok_callSN (hh := []) hC hnh (show decode prog_5_method_7_code 9 = .ok (.invokestatic 50, 3) by decide +kernel) (by decide) (by decide) ⟨by decide, by decide, by decide +kernel⟩ (Or.inl w_615) w_69 w_613 w_614) ?_
  refine xA (ok_ifne hC (show decode prog_5_method_7_code 12 = .ok (.ifCond .ne 8, 3) by decide +kernel) (by decide)) ?_
  refine xA (ok_aload_n hC (show decode prog_5_method_7_code 15 = .ok (.aload_n 0, 1) by decide +kernel) rfl) ?_
  refine xA (ok_iload_n hC (show decode prog_5_method_7_code 16 = .ok (.iload_n 1, 1) by decide +kernel) rfl) ?_
  refine xA (ok_callV hC hnh (show decode prog_5_method_7_code 17 = .ok (.invokevirtual 43, 3) by decide +kernel) (by decide) (by decide) (by decide) (r0 := ("StyleCourt$Reader", xF1, 3)) rfl ⟨by decide, by decide, by decide +kernel⟩ w_591 w_70 w_616 w_589 w_590) ?_
  refine xA (ok_aload_n hC (show decode prog_5_method_7_code 20 = .ok (.aload_n 0, 1) by decide +kernel) rfl) ?_
  refine xA (ok_get hC (show decode prog_5_method_7_code 21 = .ok (.getfield 9, 3) by decide +kernel) (by decide) (r0 := ("StyleCourt$Reader", xF1, 3)) rfl (by decide) rfl w_135) ?_
  refine xA (ok_aload_n hC (show decode prog_5_method_7_code 24 = .ok (.aload_n 0, 1) by decide +kernel) rfl) ?_
  refine xA (ok_get hC (show decode prog_5_method_7_code 25 = .ok (.getfield 24, 3) by decide +kernel) (by decide) (r0 := ("StyleCourt$Reader", xF1, 3)) rfl (by decide) rfl w_132) ?_
  refine xA (ok_len hC (show decode prog_5_method_7_code 28 = .ok (.arraylength, 1) by decide +kernel)) ?_
  refine xA (ok_icge hC (show decode prog_5_method_7_code 29 = .ok (.if_icmp .ge 46, 3) by decide +kernel) (by decide)) ?_
  refine xA (ok_aload_n hC (show decode prog_5_method_7_code 32 = .ok (.aload_n 0, 1) by decide +kernel) rfl) ?_
  refine xA (ok_get hC (show decode prog_5_method_7_code 33 = .ok (.getfield 24, 3) by decide +kernel) (by decide) (r0 := ("StyleCourt$Reader", xF1, 3)) rfl (by decide) rfl w_132) ?_
  refine xA (ok_aload_n hC (show decode prog_5_method_7_code 36 = .ok (.aload_n 0, 1) by decide +kernel) rfl) ?_
  refine xA (ok_get hC (show decode prog_5_method_7_code 37 = .ok (.getfield 9, 3) by decide +kernel) (by decide) (r0 := ("StyleCourt$Reader", xF1, 3)) rfl (by decide) rfl w_135) ?_
  refine xA (ok_bald hC (show decode prog_5_method_7_code 40 = .ok (.baload, 1) by decide +kernel) (by decide) rfl) ?_
  refine xA (ok_callSN (hh := []) hC hnh (show decode prog_5_method_7_code 41 = .ok (.invokestatic 50, 3) by decide +kernel) (by decide) (by decide) ⟨by decide, by decide, by decide +kernel⟩ (Or.inl w_615) w_69 w_613 w_614) ?_
  refine xA (ok_ifne hC (show decode prog_5_method_7_code 44 = .ok (.ifCond .ne 18, 3) by decide +kernel) (by decide)) ?_
  refine xA (ok_aload_n hC (show decode prog_5_method_7_code 47 = .ok (.aload_n 0, 1) by decide +kernel) rfl) ?_
  refine xA (ok_get hC (show decode prog_5_method_7_code 48 = .ok (.getfield 24, 3) by decide +kernel) (by decide) (r0 := ("StyleCourt$Reader", xF1, 3)) rfl (by decide) rfl w_132) ?_
  refine xA (ok_aload_n hC (show decode prog_5_method_7_code 51 = .ok (.aload_n 0, 1) by decide +kernel) rfl) ?_
  refine xA (ok_get hC (show decode prog_5_method_7_code 52 = .ok (.getfield 9, 3) by decide +kernel) (by decide) (r0 := ("StyleCourt$Reader", xF1, 3)) rfl (by decide) rfl w_135) ?_
  refine xA (ok_bald hC (show decode prog_5_method_7_code 55 = .ok (.baload, 1) by decide +kernel) (by decide) rfl) ?_
  refine xA (ok_callSN (hh := []) hC hnh (show decode prog_5_method_7_code 56 = .ok (.invokestatic 53, 3) by decide +kernel) (by decide) (by decide) ⟨by decide, by decide, by decide +kernel⟩ (Or.inl w_619) w_69 w_617 w_618) ?_
  refine xA (ok_ifeq hC (show decode prog_5_method_7_code 59 = .ok (.ifCond .eq 16, 3) by decide +kernel) (by decide)) ?_
  refine xA (ok_aload_n hC (show decode prog_5_method_7_code 62 = .ok (.aload_n 0, 1) by decide +kernel) rfl) ?_
  refine xA (ok_dup hC (show decode prog_5_method_7_code 63 = .ok (.dup, 1) by decide +kernel)) ?_
  refine xA (ok_get hC (show decode prog_5_method_7_code 64 = .ok (.getfield 9, 3) by decide +kernel) (by decide) (r0 := ("StyleCourt$Reader", xF1, 3)) rfl (by decide) rfl w_135) ?_
  refine xA (ok_iconst hC (show decode prog_5_method_7_code 67 = .ok (.iconst 1, 1) by decide +kernel) (by decide)) ?_
  refine xA (ok_iadd hC (show decode prog_5_method_7_code 68 = .ok (.iadd, 1) by decide +kernel)) ?_
  refine xA (ok_put hC (show decode prog_5_method_7_code 69 = .ok (.putfield 9, 3) by decide +kernel) (by decide) (r0 := ("StyleCourt$Reader", xF1, 3)) rfl (by decide) rfl (by decide +kernel) w_135) ?_
  refine xA (ok_goto hC (show decode prog_5_method_7_code 72 = .ok (.goto (-52), 3) by decide +kernel) (by decide)) ?_
  refine xA (ok_aload_n hC (show decode prog_5_method_7_code 75 = .ok (.aload_n 0, 1) by decide +kernel) rfl) ?_
  refine xA (ok_get hC (show decode prog_5_method_7_code 76 = .ok (.getfield 9, 3) by decide +kernel) (by decide) (r0 := ("StyleCourt$Reader", xF1, 3)) rfl (by decide) rfl w_135) ?_
  refine xA (ok_iload_n hC (show decode prog_5_method_7_code 79 = .ok (.iload_n 1, 1) by decide +kernel) rfl) ?_
  refine xA (ok_isub hC (show decode prog_5_method_7_code 80 = .ok (.isub, 1) by decide +kernel)) ?_
  refine xA (ok_bipush hC (show decode prog_5_method_7_code 81 = .ok (.bipush 12, 2) by decide +kernel) (by decide)) ?_
  refine xA (ok_icle hC (show decode prog_5_method_7_code 83 = .ok (.if_icmp .le 8, 3) by decide +kernel) (by decide)) ?_
  refine xA (ok_aload_n hC (show decode prog_5_method_7_code 86 = .ok (.aload_n 0, 1) by decide +kernel) rfl) ?_
  refine xA (ok_iload_n hC (show decode prog_5_method_7_code 87 = .ok (.iload_n 1, 1) by decide +kernel) rfl) ?_
  refine xA (ok_callV hC hnh (show decode prog_5_method_7_code 88 = .ok (.invokevirtual 43, 3) by decide +kernel) (by decide) (by decide) (by decide) (r0 := ("StyleCourt$Reader", xF1, 3)) rfl ⟨by decide, by decide, by decide +kernel⟩ w_591 w_70 w_616 w_589 w_590) ?_
  refine xA (ok_new hC (show decode prog_5_method_7_code 91 = .ok (.new 56, 3) by decide +kernel) (by decide) (r0 := ("StyleCourt$Slice", xF2, 3)) rfl (by decide) w_620 w_189 w_79) ?_
  refine xA (ok_dup hC (show decode prog_5_method_7_code 94 = .ok (.dup, 1) by decide +kernel)) ?_
  refine xA (ok_aload_n hC (show decode prog_5_method_7_code 95 = .ok (.aload_n 0, 1) by decide +kernel) rfl) ?_
  refine xA (ok_get hC (show decode prog_5_method_7_code 96 = .ok (.getfield 24, 3) by decide +kernel) (by decide) (r0 := ("StyleCourt$Reader", xF1, 3)) rfl (by decide) rfl w_132) ?_
  refine xA (ok_iload_n hC (show decode prog_5_method_7_code 99 = .ok (.iload_n 1, 1) by decide +kernel) rfl) ?_
  refine xA (ok_aload_n hC (show decode prog_5_method_7_code 100 = .ok (.aload_n 0, 1) by decide +kernel) rfl) ?_
  refine xA (ok_get hC (show decode prog_5_method_7_code 101 = .ok (.getfield 9, 3) by decide +kernel) (by decide) (r0 := ("StyleCourt$Reader", xF1, 3)) rfl (by decide) rfl w_135) ?_
  refine xA (ok_iload_n hC (show decode prog_5_method_7_code 104 = .ok (.iload_n 1, 1) by decide +kernel) rfl) ?_
  refine xA (ok_isub hC (show decode prog_5_method_7_code 105 = .ok (.isub, 1) by decide +kernel)) ?_
  refine xA (ok_callI hC hnh (show decode prog_5_method_7_code 106 = .ok (.invokespecial 58, 3) by decide +kernel) (by decide) (by decide) ⟨by decide, by decide, by decide +kernel⟩ rfl w_193 w_79 w_621 w_192) ?_
  refine xA (ok_aret hC hr (Or.inl ⟨_, rfl⟩) (show decode prog_5_method_7_code 109 = .ok (.areturn, 1) by decide +kernel)) ?_
  exact trivial

def tb_Rd_expectSign (X : xX) : List (Nat × xOp) := [(0, o_ald 0 1),
  (1, o_callV X.l X.D X.P 1 1 1 y_Rd_nextSign 4),
  (4, o_ild 1 5),
  (5, o_iceq 16 8),
  (8, o_ald 0 9),
  (9, o_ald 0 10),
  (10, o_get 1 1 13),
  (13, o_callV X.l X.D X.P 1 6 2 y_Rd_failAt 16),
  (16, o_ald 0 17),
  (17, o_dup 18),
  (18, o_get 1 1 21),
  (21, o_ic 1 22),
  (22, o_iadd 23),
  (23, o_put 1 1 (.int) 26),
  (26, o_vret X.P)]
theorem tk_Rd_expectSign {X : xX} (hC : xCx X prog_5_method_6_code "StyleCourt$Reader" 2 7) (hr : X.meth.sig.returnType = none) (hnh : X.c.exceptionTable.isEmpty = true) (hin : X.meth.name = "expectSign") : xAll X (tb_Rd_expectSign X) := by
  refine xA (ok_aload_n hC (show decode prog_5_method_6_code 0 = .ok (.aload_n 0, 1) by decide +kernel) rfl) ?_
  refine xA (ok_callV hC hnh (show decode prog_5_method_6_code 1 = .ok (.invokevirtual 47, 3) by decide +kernel) (by decide) (by decide) (by decide) (r0 := ("StyleCourt$Reader", xF1, 3)) rfl ⟨by decide, by decide, by decide +kernel⟩ w_633 w_70 w_630 w_631 w_632) ?_
  refine xA (ok_iload_n hC (show decode prog_5_method_6_code 4 = .ok (.iload_n 1, 1) by decide +kernel) rfl) ?_
  refine xA (ok_iceq hC (show decode prog_5_method_6_code 5 = .ok (.if_icmp .eq 11, 3) by decide +kernel) (by decide)) ?_
  refine xA (ok_aload_n hC (show decode prog_5_method_6_code 8 = .ok (.aload_n 0, 1) by decide +kernel) rfl) ?_
  refine xA (ok_aload_n hC (show decode prog_5_method_6_code 9 = .ok (.aload_n 0, 1) by decide +kernel) rfl) ?_
  refine xA (ok_get hC (show decode prog_5_method_6_code 10 = .ok (.getfield 9, 3) by decide +kernel) (by decide) (r0 := ("StyleCourt$Reader", xF1, 3)) rfl (by decide) rfl w_135) ?_
  refine xA (ok_callV hC hnh (show decode prog_5_method_6_code 13 = .ok (.invokevirtual 43, 3) by decide +kernel) (by decide) (by decide) (by decide) (r0 := ("StyleCourt$Reader", xF1, 3)) rfl ⟨by decide, by decide, by decide +kernel⟩ w_591 w_70 w_616 w_589 w_590) ?_
  refine xA (ok_aload_n hC (show decode prog_5_method_6_code 16 = .ok (.aload_n 0, 1) by decide +kernel) rfl) ?_
  refine xA (ok_dup hC (show decode prog_5_method_6_code 17 = .ok (.dup, 1) by decide +kernel)) ?_
  refine xA (ok_get hC (show decode prog_5_method_6_code 18 = .ok (.getfield 9, 3) by decide +kernel) (by decide) (r0 := ("StyleCourt$Reader", xF1, 3)) rfl (by decide) rfl w_135) ?_
  refine xA (ok_iconst hC (show decode prog_5_method_6_code 21 = .ok (.iconst 1, 1) by decide +kernel) (by decide)) ?_
  refine xA (ok_iadd hC (show decode prog_5_method_6_code 22 = .ok (.iadd, 1) by decide +kernel)) ?_
  refine xA (ok_put hC (show decode prog_5_method_6_code 23 = .ok (.putfield 9, 3) by decide +kernel) (by decide) (r0 := ("StyleCourt$Reader", xF1, 3)) rfl (by decide) rfl (by decide +kernel) w_135) ?_
  refine xA (ok_vret hC hr (show decode prog_5_method_6_code 26 = .ok (.return_, 1) by decide +kernel)) ?_
  exact trivial

def tb_Rd_nextSign (X : xX) : List (Nat × xOp) := [(0, o_ald 0 1),
  (1, o_get 1 1 4),
  (4, o_ald 0 5),
  (5, o_get 1 0 8),
  (8, o_len 9),
  (9, o_icge 40 12),
  (12, o_ald 0 13),
  (13, o_get 1 0 16),
  (16, o_ald 0 17),
  (17, o_get 1 1 20),
  (20, o_ld 1 21),
  (21, o_callS X.l X.D X.P 0 1 y_Sc_isBlank 24),
  (24, o_ifeq 40 27),
  (27, o_ald 0 28),
  (28, o_dup 29),
  (29, o_get 1 1 32),
  (32, o_ic 1 33),
  (33, o_iadd 34),
  (34, o_put 1 1 (.int) 37),
  (37, o_goto 0),
  (40, o_ald 0 41),
  (41, o_get 1 1 44),
  (44, o_ald 0 45),
  (45, o_get 1 0 48),
  (48, o_len 49),
  (49, o_icge 68 52),
  (52, o_ald 0 53),
  (53, o_get 1 0 56),
  (56, o_ald 0 57),
  (57, o_get 1 1 60),
  (60, o_ld 1 61),
  (61, o_ic 255 64),
  (64, o_iand 65),
  (65, o_goto 69),
  (68, o_ic (-1) 69),
  (69, o_iret X.P)]
theorem tk_Rd_nextSign {X : xX} (hC : xCx X prog_5_method_4_code "StyleCourt$Reader" 1 1) (hr : X.meth.sig.returnType = (some .int)) (hnh : X.c.exceptionTable.isEmpty = true) (hin : X.meth.name = "nextSign") : xAll X (tb_Rd_nextSign X) := by
  refine xA (ok_aload_n hC (show decode prog_5_method_4_code 0 = .ok (.aload_n 0, 1) by decide +kernel) rfl) ?_
  refine xA (ok_get hC (show decode prog_5_method_4_code 1 = .ok (.getfield 9, 3) by decide +kernel) (by decide) (r0 := ("StyleCourt$Reader", xF1, 3)) rfl (by decide) rfl w_135) ?_
  refine xA (ok_aload_n hC (show decode prog_5_method_4_code 4 = .ok (.aload_n 0, 1) by decide +kernel) rfl) ?_
  refine xA (ok_get hC (show decode prog_5_method_4_code 5 = .ok (.getfield 24, 3) by decide +kernel) (by decide) (r0 := ("StyleCourt$Reader", xF1, 3)) rfl (by decide) rfl w_132) ?_
  refine xA (ok_len hC (show decode prog_5_method_4_code 8 = .ok (.arraylength, 1) by decide +kernel)) ?_
  refine xA (ok_icge hC (show decode prog_5_method_4_code 9 = .ok (.if_icmp .ge 31, 3) by decide +kernel) (by decide)) ?_
  refine xA (ok_aload_n hC (show decode prog_5_method_4_code 12 = .ok (.aload_n 0, 1) by decide +kernel) rfl) ?_
  refine xA (ok_get hC (show decode prog_5_method_4_code 13 = .ok (.getfield 24, 3) by decide +kernel) (by decide) (r0 := ("StyleCourt$Reader", xF1, 3)) rfl (by decide) rfl w_132) ?_
  refine xA (ok_aload_n hC (show decode prog_5_method_4_code 16 = .ok (.aload_n 0, 1) by decide +kernel) rfl) ?_
  refine xA (ok_get hC (show decode prog_5_method_4_code 17 = .ok (.getfield 9, 3) by decide +kernel) (by decide) (r0 := ("StyleCourt$Reader", xF1, 3)) rfl (by decide) rfl w_135) ?_
  refine xA (ok_bald hC (show decode prog_5_method_4_code 20 = .ok (.baload, 1) by decide +kernel) (by decide) rfl) ?_
  refine xA (ok_callSN (hh := []) hC hnh (show decode prog_5_method_4_code 21 = .ok (.invokestatic 35, 3) by decide +kernel) (by decide) (by decide) ⟨by decide, by decide, by decide +kernel⟩ (Or.inl w_636) w_69 w_634 w_635) ?_
  refine xA (ok_ifeq hC (show decode prog_5_method_4_code 24 = .ok (.ifCond .eq 16, 3) by decide +kernel) (by decide)) ?_
  refine xA (ok_aload_n hC (show decode prog_5_method_4_code 27 = .ok (.aload_n 0, 1) by decide +kernel) rfl) ?_
  refine xA (ok_dup hC (show decode prog_5_method_4_code 28 = .ok (.dup, 1) by decide +kernel)) ?_
  refine xA (ok_get hC (show decode prog_5_method_4_code 29 = .ok (.getfield 9, 3) by decide +kernel) (by decide) (r0 := ("StyleCourt$Reader", xF1, 3)) rfl (by decide) rfl w_135) ?_
  refine xA (ok_iconst hC (show decode prog_5_method_4_code 32 = .ok (.iconst 1, 1) by decide +kernel) (by decide)) ?_
  refine xA (ok_iadd hC (show decode prog_5_method_4_code 33 = .ok (.iadd, 1) by decide +kernel)) ?_
  refine xA (ok_put hC (show decode prog_5_method_4_code 34 = .ok (.putfield 9, 3) by decide +kernel) (by decide) (r0 := ("StyleCourt$Reader", xF1, 3)) rfl (by decide) rfl (by decide +kernel) w_135) ?_
  refine xA (ok_goto hC (show decode prog_5_method_4_code 37 = .ok (.goto (-37), 3) by decide +kernel) (by decide)) ?_
  refine xA (ok_aload_n hC (show decode prog_5_method_4_code 40 = .ok (.aload_n 0, 1) by decide +kernel) rfl) ?_
  refine xA (ok_get hC (show decode prog_5_method_4_code 41 = .ok (.getfield 9, 3) by decide +kernel) (by decide) (r0 := ("StyleCourt$Reader", xF1, 3)) rfl (by decide) rfl w_135) ?_
  refine xA (ok_aload_n hC (show decode prog_5_method_4_code 44 = .ok (.aload_n 0, 1) by decide +kernel) rfl) ?_
  refine xA (ok_get hC (show decode prog_5_method_4_code 45 = .ok (.getfield 24, 3) by decide +kernel) (by decide) (r0 := ("StyleCourt$Reader", xF1, 3)) rfl (by decide) rfl w_132) ?_
  refine xA (ok_len hC (show decode prog_5_method_4_code 48 = .ok (.arraylength, 1) by decide +kernel)) ?_
  refine xA (ok_icge hC (show decode prog_5_method_4_code 49 = .ok (.if_icmp .ge 19, 3) by decide +kernel) (by decide)) ?_
  refine xA (ok_aload_n hC (show decode prog_5_method_4_code 52 = .ok (.aload_n 0, 1) by decide +kernel) rfl) ?_
  refine xA (ok_get hC (show decode prog_5_method_4_code 53 = .ok (.getfield 24, 3) by decide +kernel) (by decide) (r0 := ("StyleCourt$Reader", xF1, 3)) rfl (by decide) rfl w_132) ?_
  refine xA (ok_aload_n hC (show decode prog_5_method_4_code 56 = .ok (.aload_n 0, 1) by decide +kernel) rfl) ?_
  refine xA (ok_get hC (show decode prog_5_method_4_code 57 = .ok (.getfield 9, 3) by decide +kernel) (by decide) (r0 := ("StyleCourt$Reader", xF1, 3)) rfl (by decide) rfl w_135) ?_
  refine xA (ok_bald hC (show decode prog_5_method_4_code 60 = .ok (.baload, 1) by decide +kernel) (by decide) rfl) ?_
  refine xA (ok_sipush hC (show decode prog_5_method_4_code 61 = .ok (.sipush 255, 3) by decide +kernel) (by decide)) ?_
  refine xA (ok_iand hC (show decode prog_5_method_4_code 64 = .ok (.iand, 1) by decide +kernel)) ?_
  refine xA (ok_goto hC (show decode prog_5_method_4_code 65 = .ok (.goto 4, 3) by decide +kernel) (by decide)) ?_
  refine xA (ok_iconst hC (show decode prog_5_method_4_code 68 = .ok (.iconst (-1), 1) by decide +kernel) (by decide)) ?_
  refine xA (ok_iret hC hr (show decode prog_5_method_4_code 69 = .ok (.ireturn, 1) by decide +kernel)) ?_
  exact trivial

def tb_Rd_readString (X : xX) : List (Nat × xOp) := [(0, o_ald 0 1),
  (1, o_get 1 1 4),
  (4, o_ist 1 5),
  (5, o_ald 0 6),
  (6, o_callV X.l X.D X.P 1 0 1 y_Rd_here 9),
  (9, o_ic 34 11),
  (11, o_iceq 19 14),
  (14, o_ald 0 15),
  (15, o_ild 1 16),
  (16, o_callV X.l X.D X.P 1 6 2 y_Rd_failAt 19),
  (19, o_ald 0 20),
  (20, o_dup 21),
  (21, o_get 1 1 24),
  (24, o_ic 1 25),
  (25, o_iadd 26),
  (26, o_put 1 1 (.int) 29),
  (29, o_ald 0 30),
  (30, o_get 1 1 33),
  (33, o_ald 0 34),
  (34, o_get 1 0 37),
  (37, o_len 38),
  (38, o_icge 83 41),
  (41, o_ald 0 42),
  (42, o_get 1 0 45),
  (45, o_ald 0 46),
  (46, o_get 1 1 49),
  (49, o_ld 1 50),
  (50, o_ic 34 52),
  (52, o_iceq 83 55),
  (55, o_ald 0 56),
  (56, o_get 1 0 59),
  (59, o_ald 0 60),
  (60, o_get 1 1 63),
  (63, o_ld 1 64),
  (64, o_callS X.l X.D X.P 0 1 y_Sc_isPrinted 67),
  (67, o_ifeq 83 70),
  (70, o_ald 0 71),
  (71, o_dup 72),
  (72, o_get 1 1 75),
  (75, o_ic 1 76),
  (76, o_iadd 77),
  (77, o_put 1 1 (.int) 80),
  (80, o_goto 29),
  (83, o_ald 0 84),
  (84, o_callV X.l X.D X.P 1 0 1 y_Rd_here 87),
  (87, o_ic 34 89),
  (89, o_iceq 97 92),
  (92, o_ald 0 93),
  (93, o_ild 1 94),
  (94, o_callV X.l X.D X.P 1 6 2 y_Rd_failAt 97),
  (97, o_ald 0 98),
  (98, o_dup 99),
  (99, o_get 1 1 102),
  (102, o_ic 1 103),
  (103, o_iadd 104),
  (104, o_put 1 1 (.int) 107),
  (107, o_new 2 3 [.null, .int 0, .int 0] 110),
  (110, o_dup 111),
  (111, o_ald 0 112),
  (112, o_get 1 0 115),
  (115, o_ild 1 116),
  (116, o_ic 1 117),
  (117, o_iadd 118),
  (118, o_ald 0 119),
  (119, o_get 1 1 122),
  (122, o_ild 1 123),
  (123, o_isub 124),
  (124, o_ic 2 125),
  (125, o_isub 126),
  (126, o_callI X.l X.D X.P 1 4 y_Sl_init 129),
  (129, o_aret X.P)]
theorem tk_Rd_readString {X : xX} (hC : xCx X prog_5_method_9_code "StyleCourt$Reader" 2 7) (hr : X.meth.sig.returnType = (some (.object "StyleCourt$Slice"))) (hnh : X.c.exceptionTable.isEmpty = true) (hin : X.meth.name = "readString") : xAll X (tb_Rd_readString X) := by
  refine xA (ok_aload_n hC (show decode prog_5_method_9_code 0 = .ok (.aload_n 0, 1) by decide +kernel) rfl) ?_
  refine xA (ok_get hC (show decode prog_5_method_9_code 1 = .ok (.getfield 9, 3) by decide +kernel) (by decide) (r0 := ("StyleCourt$Reader", xF1, 3)) rfl (by decide) rfl w_135) ?_
  refine xA (ok_istore_n hC (show decode prog_5_method_9_code 4 = .ok (.istore_n 1, 1) by decide +kernel) rfl (by decide)) ?_
  refine xA (ok_aload_n hC (show decode prog_5_method_9_code 5 = .ok (.aload_n 0, 1) by decide +kernel) rfl) ?_
  refine xA (ok_callV hC hnh (show decode prog_5_method_9_code 6 = .ok (.invokevirtual 39, 3) by decide +kernel) (by decide) (by decide) (by decide) (r0 := ("StyleCourt$Reader", xF1, 3)) rfl ⟨by decide, by decide, by decide +kernel⟩ w_574 w_70 w_612 w_572 w_573) ?_
  refine xA (ok_bipush hC (show decode prog_5_method_9_code 9 = .ok (.bipush 34, 2) by decide +kernel) (by decide)) ?_
  refine xA (ok_iceq hC (show decode prog_5_method_9_code 11 = .ok (.if_icmp .eq 8, 3) by decide +kernel) (by decide)) ?_
  refine xA (ok_aload_n hC (show decode prog_5_method_9_code 14 = .ok (.aload_n 0, 1) by decide +kernel) rfl) ?_
  refine xA (ok_iload_n hC (show decode prog_5_method_9_code 15 = .ok (.iload_n 1, 1) by decide +kernel) rfl) ?_
  refine xA (ok_callV hC hnh (show decode prog_5_method_9_code 16 = .ok (.invokevirtual 43, 3) by decide +kernel) (by decide) (by decide) (by decide) (r0 := ("StyleCourt$Reader", xF1, 3)) rfl ⟨by decide, by decide, by decide +kernel⟩ w_591 w_70 w_616 w_589 w_590) ?_
  refine xA (ok_aload_n hC (show decode prog_5_method_9_code 19 = .ok (.aload_n 0, 1) by decide +kernel) rfl) ?_
  refine xA (ok_dup hC (show decode prog_5_method_9_code 20 = .ok (.dup, 1) by decide +kernel)) ?_
  refine xA (ok_get hC (show decode prog_5_method_9_code 21 = .ok (.getfield 9, 3) by decide +kernel) (by decide) (r0 := ("StyleCourt$Reader", xF1, 3)) rfl (by decide) rfl w_135) ?_
  refine xA (ok_iconst hC (show decode prog_5_method_9_code 24 = .ok (.iconst 1, 1) by decide +kernel) (by decide)) ?_
  refine xA (ok_iadd hC (show decode prog_5_method_9_code 25 = .ok (.iadd, 1) by decide +kernel)) ?_
  refine xA (ok_put hC (show decode prog_5_method_9_code 26 = .ok (.putfield 9, 3) by decide +kernel) (by decide) (r0 := ("StyleCourt$Reader", xF1, 3)) rfl (by decide) rfl (by decide +kernel) w_135) ?_
  refine xA (ok_aload_n hC (show decode prog_5_method_9_code 29 = .ok (.aload_n 0, 1) by decide +kernel) rfl) ?_
  refine xA (ok_get hC (show decode prog_5_method_9_code 30 = .ok (.getfield 9, 3) by decide +kernel) (by decide) (r0 := ("StyleCourt$Reader", xF1, 3)) rfl (by decide) rfl w_135) ?_
  refine xA (ok_aload_n hC (show decode prog_5_method_9_code 33 = .ok (.aload_n 0, 1) by decide +kernel) rfl) ?_
  refine xA (ok_get hC (show decode prog_5_method_9_code 34 = .ok (.getfield 24, 3) by decide +kernel) (by decide) (r0 := ("StyleCourt$Reader", xF1, 3)) rfl (by decide) rfl w_132) ?_
  refine xA (ok_len hC (show decode prog_5_method_9_code 37 = .ok (.arraylength, 1) by decide +kernel)) ?_
  refine xA (ok_icge hC (show decode prog_5_method_9_code 38 = .ok (.if_icmp .ge 45, 3) by decide +kernel) (by decide)) ?_
  refine xA (ok_aload_n hC (show decode prog_5_method_9_code 41 = .ok (.aload_n 0, 1) by decide +kernel) rfl) ?_
  refine xA (ok_get hC (show decode prog_5_method_9_code 42 = .ok (.getfield 24, 3) by decide +kernel) (by decide) (r0 := ("StyleCourt$Reader", xF1, 3)) rfl (by decide) rfl w_132) ?_
  refine xA (ok_aload_n hC (show decode prog_5_method_9_code 45 = .ok (.aload_n 0, 1) by decide +kernel) rfl) ?_
  refine xA (ok_get hC (show decode prog_5_method_9_code 46 = .ok (.getfield 9, 3) by decide +kernel) (by decide) (r0 := ("StyleCourt$Reader", xF1, 3)) rfl (by decide) rfl w_135) ?_
  refine xA (ok_bald hC (show decode prog_5_method_9_code 49 = .ok (.baload, 1) by decide +kernel) (by decide) rfl) ?_
  refine xA (ok_bipush hC (show decode prog_5_method_9_code 50 = .ok (.bipush 34, 2) by decide +kernel) (by decide)) ?_
  refine xA (ok_iceq hC (show decode prog_5_method_9_code 52 = .ok (.if_icmp .eq 31, 3) by decide +kernel) (by decide)) ?_
  refine xA (ok_aload_n hC (show decode prog_5_method_9_code 55 = .ok (.aload_n 0, 1) by decide +kernel) rfl) ?_
  refine xA (ok_get hC (show decode prog_5_method_9_code 56 = .ok (.getfield 24, 3) by decide +kernel) (by decide) (r0 := ("StyleCourt$Reader", xF1, 3)) rfl (by decide) rfl w_132) ?_
  refine xA (ok_aload_n hC (show decode prog_5_method_9_code 59 = .ok (.aload_n 0, 1) by decide +kernel) rfl) ?_
  refine xA (ok_get hC (show decode prog_5_method_9_code 60 = .ok (.getfield 9, 3) by decide +kernel) (by decide) (r0 := ("StyleCourt$Reader", xF1, 3)) rfl (by decide) rfl w_135) ?_
  refine xA (ok_bald hC (show decode prog_5_method_9_code 63 = .ok (.baload, 1) by decide +kernel) (by decide) rfl) ?_
  refine xA (ok_callSN (hh := []) hC hnh (show decode prog_5_method_9_code 64 = .ok (.invokestatic 61, 3) by decide +kernel) (by decide) (by decide) ⟨by decide, by decide, by decide +kernel⟩ (Or.inl w_681) w_69 w_679 w_680) ?_
  refine xA (ok_ifeq hC (show decode prog_5_method_9_code 67 = .ok (.ifCond .eq 16, 3) by decide +kernel) (by decide)) ?_
  refine xA (ok_aload_n hC (show decode prog_5_method_9_code 70 = .ok (.aload_n 0, 1) by decide +kernel) rfl) ?_
  refine xA (ok_dup hC (show decode prog_5_method_9_code 71 = .ok (.dup, 1) by decide +kernel)) ?_
  refine xA (ok_get hC (show decode prog_5_method_9_code 72 = .ok (.getfield 9, 3) by decide +kernel) (by decide) (r0 := ("StyleCourt$Reader", xF1, 3)) rfl (by decide) rfl w_135) ?_
  refine xA (ok_iconst hC (show decode prog_5_method_9_code 75 = .ok (.iconst 1, 1) by decide +kernel) (by decide)) ?_
  refine xA (ok_iadd hC (show decode prog_5_method_9_code 76 = .ok (.iadd, 1) by decide +kernel)) ?_
  refine xA (ok_put hC (show decode prog_5_method_9_code 77 = .ok (.putfield 9, 3) by decide +kernel) (by decide) (r0 := ("StyleCourt$Reader", xF1, 3)) rfl (by decide) rfl (by decide +kernel) w_135) ?_
  refine xA (ok_goto hC (show decode prog_5_method_9_code 80 = .ok (.goto (-51), 3) by decide +kernel) (by decide)) ?_
  refine xA (ok_aload_n hC (show decode prog_5_method_9_code 83 = .ok (.aload_n 0, 1) by decide +kernel) rfl) ?_
  refine xA (ok_callV hC hnh (show decode prog_5_method_9_code 84 = .ok (.invokevirtual 39, 3) by decide +kernel) (by decide) (by decide) (by decide) (r0 := ("StyleCourt$Reader", xF1, 3)) rfl ⟨by decide, by decide, by decide +kernel⟩ w_574 w_70 w_612 w_572 w_573) ?_
  refine xA (ok_bipush hC (show decode prog_5_method_9_code 87 = .ok (.bipush 34, 2) by decide +kernel) (by decide)) ?_
  refine xA (ok_iceq hC (show decode prog_5_method_9_code 89 = .ok (.if_icmp .eq 8, 3) by decide +kernel) (by decide)) ?_
  refine xA (ok_aload_n hC (show decode prog_5_method_9_code 92 = .ok (.aload_n 0, 1) by decide +kernel) rfl) ?_
  refine xA (ok_iload_n hC (show decode prog_5_method_9_code 93 = .ok (.iload_n 1, 1) by decide +kernel) rfl) ?_
  refine xA (ok_callV hC hnh (show decode prog_5_method_9_code 94 = .ok (.invokevirtual 43, 3) by decide +kernel) (by decide) (by decide) (by decide) (r0 := ("StyleCourt$Reader", xF1, 3)) rfl ⟨by decide, by decide, by decide +kernel⟩ w_591 w_70 w_616 w_589 w_590) ?_
  refine xA (ok_aload_n hC (show decode prog_5_method_9_code 97 = .ok (.aload_n 0, 1) by decide +kernel) rfl) ?_
  refine xA (ok_dup hC (show decode prog_5_method_9_code 98 = .ok (.dup, 1) by decide +kernel)) ?_
  refine xA (ok_get hC (show decode prog_5_method_9_code 99 = .ok (.getfield 9, 3) by decide +kernel) (by decide) (r0 := ("StyleCourt$Reader", xF1, 3)) rfl (by decide) rfl w_135) ?_
  refine xA (ok_iconst hC (show decode prog_5_method_9_code 102 = .ok (.iconst 1, 1) by decide +kernel) (by decide)) ?_
  refine xA (ok_iadd hC (show decode prog_5_method_9_code 103 = .ok (.iadd, 1) by decide +kernel)) ?_
  refine xA (ok_put hC (show decode prog_5_method_9_code 104 = .ok (.putfield 9, 3) by decide +kernel) (by decide) (r0 := ("StyleCourt$Reader", xF1, 3)) rfl (by decide) rfl (by decide +kernel) w_135) ?_
  refine xA (ok_new hC (show decode prog_5_method_9_code 107 = .ok (.new 56, 3) by decide +kernel) (by decide) (r0 := ("StyleCourt$Slice", xF2, 3)) rfl (by decide) w_620 w_189 w_79) ?_
  refine xA (ok_dup hC (show decode prog_5_method_9_code 110 = .ok (.dup, 1) by decide +kernel)) ?_
  refine xA (ok_aload_n hC (show decode prog_5_method_9_code 111 = .ok (.aload_n 0, 1) by decide +kernel) rfl) ?_
  refine xA (ok_get hC (show decode prog_5_method_9_code 112 = .ok (.getfield 24, 3) by decide +kernel) (by decide) (r0 := ("StyleCourt$Reader", xF1, 3)) rfl (by decide) rfl w_132) ?_
  refine xA (ok_iload_n hC (show decode prog_5_method_9_code 115 = .ok (.iload_n 1, 1) by decide +kernel) rfl) ?_
  refine xA (ok_iconst hC (show decode prog_5_method_9_code 116 = .ok (.iconst 1, 1) by decide +kernel) (by decide)) ?_
  refine xA (ok_iadd hC (show decode prog_5_method_9_code 117 = .ok (.iadd, 1) by decide +kernel)) ?_
  refine xA (ok_aload_n hC (show decode prog_5_method_9_code 118 = .ok (.aload_n 0, 1) by decide +kernel) rfl) ?_
  refine xA (ok_get hC (show decode prog_5_method_9_code 119 = .ok (.getfield 9, 3) by decide +kernel) (by decide) (r0 := ("StyleCourt$Reader", xF1, 3)) rfl (by decide) rfl w_135) ?_
  refine xA (ok_iload_n hC (show decode prog_5_method_9_code 122 = .ok (.iload_n 1, 1) by decide +kernel) rfl) ?_
  refine xA (ok_isub hC (show decode prog_5_method_9_code 123 = .ok (.isub, 1) by decide +kernel)) ?_
  refine xA (ok_iconst hC (show decode prog_5_method_9_code 124 = .ok (.iconst 2, 1) by decide +kernel) (by decide)) ?_
  refine xA (ok_isub hC (show decode prog_5_method_9_code 125 = .ok (.isub, 1) by decide +kernel)) ?_
  refine xA (ok_callI hC hnh (show decode prog_5_method_9_code 126 = .ok (.invokespecial 58, 3) by decide +kernel) (by decide) (by decide) ⟨by decide, by decide, by decide +kernel⟩ rfl w_193 w_79 w_621 w_192) ?_
  refine xA (ok_aret hC hr (Or.inl ⟨_, rfl⟩) (show decode prog_5_method_9_code 129 = .ok (.areturn, 1) by decide +kernel)) ?_
  exact trivial

def tb_Rd_expect (X : xX) : List (Nat × xOp) := [(0, o_ald 0 1),
  (1, o_callV X.l X.D X.P 1 0 1 y_Rd_here 4),
  (4, o_ild 1 5),
  (5, o_iceq 16 8),
  (8, o_ald 0 9),
  (9, o_ald 0 10),
  (10, o_get 1 1 13),
  (13, o_callV X.l X.D X.P 1 6 2 y_Rd_failAt 16),
  (16, o_ald 0 17),
  (17, o_dup 18),
  (18, o_get 1 1 21),
  (21, o_ic 1 22),
  (22, o_iadd 23),
  (23, o_put 1 1 (.int) 26),
  (26, o_vret X.P)]
theorem tk_Rd_expect {X : xX} (hC : xCx X prog_5_method_5_code "StyleCourt$Reader" 2 7) (hr : X.meth.sig.returnType = none) (hnh : X.c.exceptionTable.isEmpty = true) (hin : X.meth.name = "expect") : xAll X (tb_Rd_expect X) := by
  refine xA (ok_aload_n hC (show decode prog_5_method_5_code 0 = .ok (.aload_n 0, 1) by decide +kernel) rfl) ?_
  refine xA (ok_callV hC hnh (show decode prog_5_method_5_code 1 = .ok (.invokevirtual 39, 3) by decide +kernel) (by decide) (by decide) (by decide) (r0 := ("StyleCourt$Reader", xF1, 3)) rfl ⟨by decide, by decide, by decide +kernel⟩ w_574 w_70 w_612 w_572 w_573) ?_
  refine xA (ok_iload_n hC (show decode prog_5_method_5_code 4 = .ok (.iload_n 1, 1) by decide +kernel) rfl) ?_
  refine xA (ok_iceq hC (show decode prog_5_method_5_code 5 = .ok (.if_icmp .eq 11, 3) by decide +kernel) (by decide)) ?_
  refine xA (ok_aload_n hC (show decode prog_5_method_5_code 8 = .ok (.aload_n 0, 1) by decide +kernel) rfl) ?_
  refine xA (ok_aload_n hC (show decode prog_5_method_5_code 9 = .ok (.aload_n 0, 1) by decide +kernel) rfl) ?_
  refine xA (ok_get hC (show decode prog_5_method_5_code 10 = .ok (.getfield 9, 3) by decide +kernel) (by decide) (r0 := ("StyleCourt$Reader", xF1, 3)) rfl (by decide) rfl w_135) ?_
  refine xA (ok_callV hC hnh (show decode prog_5_method_5_code 13 = .ok (.invokevirtual 43, 3) by decide +kernel) (by decide) (by decide) (by decide) (r0 := ("StyleCourt$Reader", xF1, 3)) rfl ⟨by decide, by decide, by decide +kernel⟩ w_591 w_70 w_616 w_589 w_590) ?_
  refine xA (ok_aload_n hC (show decode prog_5_method_5_code 16 = .ok (.aload_n 0, 1) by decide +kernel) rfl) ?_
  refine xA (ok_dup hC (show decode prog_5_method_5_code 17 = .ok (.dup, 1) by decide +kernel)) ?_
  refine xA (ok_get hC (show decode prog_5_method_5_code 18 = .ok (.getfield 9, 3) by decide +kernel) (by decide) (r0 := ("StyleCourt$Reader", xF1, 3)) rfl (by decide) rfl w_135) ?_
  refine xA (ok_iconst hC (show decode prog_5_method_5_code 21 = .ok (.iconst 1, 1) by decide +kernel) (by decide)) ?_
  refine xA (ok_iadd hC (show decode prog_5_method_5_code 22 = .ok (.iadd, 1) by decide +kernel)) ?_
  refine xA (ok_put hC (show decode prog_5_method_5_code 23 = .ok (.putfield 9, 3) by decide +kernel) (by decide) (r0 := ("StyleCourt$Reader", xF1, 3)) rfl (by decide) rfl (by decide +kernel) w_135) ?_
  refine xA (ok_vret hC hr (show decode prog_5_method_5_code 26 = .ok (.return_, 1) by decide +kernel)) ?_
  exact trivial

def tb_Rd_skipComment (X : xX) : List (Nat × xOp) := [(0, o_ald 0 1),
  (1, o_get 1 1 4),
  (4, o_ic 2 5),
  (5, o_iadd 6),
  (6, o_ald 0 7),
  (7, o_get 1 0 10),
  (10, o_len 11),
  (11, o_icge 34 14),
  (14, o_ald 0 15),
  (15, o_callV X.l X.D X.P 1 0 1 y_Rd_commentEndsHere 18),
  (18, o_ifne 34 21),
  (21, o_ald 0 22),
  (22, o_dup 23),
  (23, o_get 1 1 26),
  (26, o_ic 1 27),
  (27, o_iadd 28),
  (28, o_put 1 1 (.int) 31),
  (31, o_goto 0),
  (34, o_ald 0 35),
  (35, o_get 1 1 38),
  (38, o_ic 2 39),
  (39, o_iadd 40),
  (40, o_ald 0 41),
  (41, o_get 1 0 44),
  (44, o_len 45),
  (45, o_iclt 57 48),
  (48, o_ald 0 49),
  (49, o_ald 0 50),
  (50, o_get 1 0 53),
  (53, o_len 54),
  (54, o_callV X.l X.D X.P 1 6 2 y_Rd_failAt 57),
  (57, o_ald 0 58),
  (58, o_dup 59),
  (59, o_get 1 1 62),
  (62, o_ic 3 63),
  (63, o_iadd 64),
  (64, o_put 1 1 (.int) 67),
  (67, o_vret X.P)]
theorem tk_Rd_skipComment {X : xX} (hC : xCx X prog_5_method_10_code "StyleCourt$Reader" 1 7) (hr : X.meth.sig.returnType = none) (hnh : X.c.exceptionTable.isEmpty = true) (hin : X.meth.name = "skipComment") : xAll X (tb_Rd_skipComment X) := by
  refine xA (ok_aload_n hC (show decode prog_5_method_10_code 0 = .ok (.aload_n 0, 1) by decide +kernel) rfl) ?_
  refine xA (ok_get hC (show decode prog_5_method_10_code 1 = .ok (.getfield 9, 3) by decide +kernel) (by decide) (r0 := ("StyleCourt$Reader", xF1, 3)) rfl (by decide) rfl w_135) ?_
  refine xA (ok_iconst hC (show decode prog_5_method_10_code 4 = .ok (.iconst 2, 1) by decide +kernel) (by decide)) ?_
  refine xA (ok_iadd hC (show decode prog_5_method_10_code 5 = .ok (.iadd, 1) by decide +kernel)) ?_
  refine xA (ok_aload_n hC (show decode prog_5_method_10_code 6 = .ok (.aload_n 0, 1) by decide +kernel) rfl) ?_
  refine xA (ok_get hC (show decode prog_5_method_10_code 7 = .ok (.getfield 24, 3) by decide +kernel) (by decide) (r0 := ("StyleCourt$Reader", xF1, 3)) rfl (by decide) rfl w_132) ?_
  refine xA (ok_len hC (show decode prog_5_method_10_code 10 = .ok (.arraylength, 1) by decide +kernel)) ?_
  refine xA (ok_icge hC (show decode prog_5_method_10_code 11 = .ok (.if_icmp .ge 23, 3) by decide +kernel) (by decide)) ?_
  refine xA (ok_aload_n hC (show decode prog_5_method_10_code 14 = .ok (.aload_n 0, 1) by decide +kernel) rfl) ?_
  refine xA (ok_callV hC hnh (show decode prog_5_method_10_code 15 = .ok (.invokevirtual 64, 3) by decide +kernel) (by decide) (by decide) (by decide) (r0 := ("StyleCourt$Reader", xF1, 3)) rfl ⟨by decide, by decide, by decide +kernel⟩ w_693 w_70 w_690 w_692 w_11) ?_
  refine xA (ok_ifne hC (show decode prog_5_method_10_code 18 = .ok (.ifCond .ne 16, 3) by decide +kernel) (by decide)) ?_
  refine xA (ok_aload_n hC (show decode prog_5_method_10_code 21 = .ok (.aload_n 0, 1) by decide +kernel) rfl) ?_
  refine xA (ok_dup hC (show decode prog_5_method_10_code 22 = .ok (.dup, 1) by decide +kernel)) ?_
  refine xA (ok_get hC (show decode prog_5_method_10_code 23 = .ok (.getfield 9, 3) by decide +kernel) (by decide) (r0 := ("StyleCourt$Reader", xF1, 3)) rfl (by decide) rfl w_135) ?_
  refine xA (ok_iconst hC (show decode prog_5_method_10_code 26 = .ok (.iconst 1, 1) by decide +kernel) (by decide)) ?_
  refine xA (ok_iadd hC (show decode prog_5_method_10_code 27 = .ok (.iadd, 1) by decide +kernel)) ?_
  refine xA (ok_put hC (show decode prog_5_method_10_code 28 = .ok (.putfield 9, 3) by decide +kernel) (by decide) (r0 := ("StyleCourt$Reader", xF1, 3)) rfl (by decide) rfl (by decide +kernel) w_135) ?_
  refine xA (ok_goto hC (show decode prog_5_method_10_code 31 = .ok (.goto (-31), 3) by decide +kernel) (by decide)) ?_
  refine xA (ok_aload_n hC (show decode prog_5_method_10_code 34 = .ok (.aload_n 0, 1) by decide +kernel) rfl) ?_
  refine xA (ok_get hC (show decode prog_5_method_10_code 35 = .ok (.getfield 9, 3) by decide +kernel) (by decide) (r0 := ("StyleCourt$Reader", xF1, 3)) rfl (by decide) rfl w_135) ?_
  refine xA (ok_iconst hC (show decode prog_5_method_10_code 38 = .ok (.iconst 2, 1) by decide +kernel) (by decide)) ?_
  refine xA (ok_iadd hC (show decode prog_5_method_10_code 39 = .ok (.iadd, 1) by decide +kernel)) ?_
  refine xA (ok_aload_n hC (show decode prog_5_method_10_code 40 = .ok (.aload_n 0, 1) by decide +kernel) rfl) ?_
  refine xA (ok_get hC (show decode prog_5_method_10_code 41 = .ok (.getfield 24, 3) by decide +kernel) (by decide) (r0 := ("StyleCourt$Reader", xF1, 3)) rfl (by decide) rfl w_132) ?_
  refine xA (ok_len hC (show decode prog_5_method_10_code 44 = .ok (.arraylength, 1) by decide +kernel)) ?_
  refine xA (ok_iclt hC (show decode prog_5_method_10_code 45 = .ok (.if_icmp .lt 12, 3) by decide +kernel) (by decide)) ?_
  refine xA (ok_aload_n hC (show decode prog_5_method_10_code 48 = .ok (.aload_n 0, 1) by decide +kernel) rfl) ?_
  refine xA (ok_aload_n hC (show decode prog_5_method_10_code 49 = .ok (.aload_n 0, 1) by decide +kernel) rfl) ?_
  refine xA (ok_get hC (show decode prog_5_method_10_code 50 = .ok (.getfield 24, 3) by decide +kernel) (by decide) (r0 := ("StyleCourt$Reader", xF1, 3)) rfl (by decide) rfl w_132) ?_
  refine xA (ok_len hC (show decode prog_5_method_10_code 53 = .ok (.arraylength, 1) by decide +kernel)) ?_
  refine xA (ok_callV hC hnh (show decode prog_5_method_10_code 54 = .ok (.invokevirtual 43, 3) by decide +kernel) (by decide) (by decide) (by decide) (r0 := ("StyleCourt$Reader", xF1, 3)) rfl ⟨by decide, by decide, by decide +kernel⟩ w_591 w_70 w_616 w_589 w_590) ?_
  refine xA (ok_aload_n hC (show decode prog_5_method_10_code 57 = .ok (.aload_n 0, 1) by decide +kernel) rfl) ?_
  refine xA (ok_dup hC (show decode prog_5_method_10_code 58 = .ok (.dup, 1) by decide +kernel)) ?_
  refine xA (ok_get hC (show decode prog_5_method_10_code 59 = .ok (.getfield 9, 3) by decide +kernel) (by decide) (r0 := ("StyleCourt$Reader", xF1, 3)) rfl (by decide) rfl w_135) ?_
  refine xA (ok_iconst hC (show decode prog_5_method_10_code 62 = .ok (.iconst 3, 1) by decide +kernel) (by decide)) ?_
  refine xA (ok_iadd hC (show decode prog_5_method_10_code 63 = .ok (.iadd, 1) by decide +kernel)) ?_
  refine xA (ok_put hC (show decode prog_5_method_10_code 64 = .ok (.putfield 9, 3) by decide +kernel) (by decide) (r0 := ("StyleCourt$Reader", xF1, 3)) rfl (by decide) rfl (by decide +kernel) w_135) ?_
  refine xA (ok_vret hC hr (show decode prog_5_method_10_code 67 = .ok (.return_, 1) by decide +kernel)) ?_
  exact trivial

def tb_Rd_commentEndsHere (X : xX) : List (Nat × xOp) := [(0, o_ald 0 1),
  (1, o_get 1 0 4),
  (4, o_ald 0 5),
  (5, o_get 1 1 8),
  (8, o_ld 1 9),
  (9, o_ic 45 11),
  (11, o_icne 50 14),
  (14, o_ald 0 15),
  (15, o_get 1 0 18),
  (18, o_ald 0 19),
  (19, o_get 1 1 22),
  (22, o_ic 1 23),
  (23, o_iadd 24),
  (24, o_ld 1 25),
  (25, o_ic 45 27),
  (27, o_icne 50 30),
  (30, o_ald 0 31),
  (31, o_get 1 0 34),
  (34, o_ald 0 35),
  (35, o_get 1 1 38),
  (38, o_ic 2 39),
  (39, o_iadd 40),
  (40, o_ld 1 41),
  (41, o_ic 62 43),
  (43, o_icne 50 46),
  (46, o_ic 1 47),
  (47, o_goto 51),
  (50, o_ic 0 51),
  (51, o_zret .boolean X.P)]
theorem tk_Rd_commentEndsHere {X : xX} (hC : xCx X prog_5_method_11_code "StyleCourt$Reader" 1 0) (hr : X.meth.sig.returnType = (some .boolean)) (hnh : X.c.exceptionTable.isEmpty = true) (hin : X.meth.name = "commentEndsHere") : xAll X (tb_Rd_commentEndsHere X) := by
  refine xA (ok_aload_n hC (show decode prog_5_method_11_code 0 = .ok (.aload_n 0, 1) by decide +kernel) rfl) ?_
  refine xA (ok_get hC (show decode prog_5_method_11_code 1 = .ok (.getfield 24, 3) by decide +kernel) (by decide) (r0 := ("StyleCourt$Reader", xF1, 3)) rfl (by decide) rfl w_132) ?_
  refine xA (ok_aload_n hC (show decode prog_5_method_11_code 4 = .ok (.aload_n 0, 1) by decide +kernel) rfl) ?_
  refine xA (ok_get hC (show decode prog_5_method_11_code 5 = .ok (.getfield 9, 3) by decide +kernel) (by decide) (r0 := ("StyleCourt$Reader", xF1, 3)) rfl (by decide) rfl w_135) ?_
  refine xA (ok_bald hC (show decode prog_5_method_11_code 8 = .ok (.baload, 1) by decide +kernel) (by decide) rfl) ?_
  refine xA (ok_bipush hC (show decode prog_5_method_11_code 9 = .ok (.bipush 45, 2) by decide +kernel) (by decide)) ?_
  refine xA (ok_icne hC (show decode prog_5_method_11_code 11 = .ok (.if_icmp .ne 39, 3) by decide +kernel) (by decide)) ?_
  refine xA (ok_aload_n hC (show decode prog_5_method_11_code 14 = .ok (.aload_n 0, 1) by decide +kernel) rfl) ?_
  refine xA (ok_get hC (show decode prog_5_method_11_code 15 = .ok (.getfield 24, 3) by decide +kernel) (by decide) (r0 := ("StyleCourt$Reader", xF1, 3)) rfl (by decide) rfl w_132) ?_
  refine xA (ok_aload_n hC (show decode prog_5_method_11_code 18 = .ok (.aload_n 0, 1) by decide +kernel) rfl) ?_
  refine xA (ok_get hC (show decode prog_5_method_11_code 19 = .ok (.getfield 9, 3) by decide +kernel) (by decide) (r0 := ("StyleCourt$Reader", xF1, 3)) rfl (by decide) rfl w_135) ?_
  refine xA (ok_iconst hC (show decode prog_5_method_11_code 22 = .ok (.iconst 1, 1) by decide +kernel) (by decide)) ?_
  refine xA (ok_iadd hC (show decode prog_5_method_11_code 23 = .ok (.iadd, 1) by decide +kernel)) ?_
  refine xA (ok_bald hC (show decode prog_5_method_11_code 24 = .ok (.baload, 1) by decide +kernel) (by decide) rfl) ?_
  refine xA (ok_bipush hC (show decode prog_5_method_11_code 25 = .ok (.bipush 45, 2) by decide +kernel) (by decide)) ?_
  refine xA (ok_icne hC (show decode prog_5_method_11_code 27 = .ok (.if_icmp .ne 23, 3) by decide +kernel) (by decide)) ?_
  refine xA (ok_aload_n hC (show decode prog_5_method_11_code 30 = .ok (.aload_n 0, 1) by decide +kernel) rfl) ?_
  refine xA (ok_get hC (show decode prog_5_method_11_code 31 = .ok (.getfield 24, 3) by decide +kernel) (by decide) (r0 := ("StyleCourt$Reader", xF1, 3)) rfl (by decide) rfl w_132) ?_
  refine xA (ok_aload_n hC (show decode prog_5_method_11_code 34 = .ok (.aload_n 0, 1) by decide +kernel) rfl) ?_
  refine xA (ok_get hC (show decode prog_5_method_11_code 35 = .ok (.getfield 9, 3) by decide +kernel) (by decide) (r0 := ("StyleCourt$Reader", xF1, 3)) rfl (by decide) rfl w_135) ?_
  refine xA (ok_iconst hC (show decode prog_5_method_11_code 38 = .ok (.iconst 2, 1) by decide +kernel) (by decide)) ?_
  refine xA (ok_iadd hC (show decode prog_5_method_11_code 39 = .ok (.iadd, 1) by decide +kernel)) ?_
  refine xA (ok_bald hC (show decode prog_5_method_11_code 40 = .ok (.baload, 1) by decide +kernel) (by decide) rfl) ?_
  refine xA (ok_bipush hC (show decode prog_5_method_11_code 41 = .ok (.bipush 62, 2) by decide +kernel) (by decide)) ?_
  refine xA (ok_icne hC (show decode prog_5_method_11_code 43 = .ok (.if_icmp .ne 7, 3) by decide +kernel) (by decide)) ?_
  refine xA (ok_iconst hC (show decode prog_5_method_11_code 46 = .ok (.iconst 1, 1) by decide +kernel) (by decide)) ?_
  refine xA (ok_goto hC (show decode prog_5_method_11_code 47 = .ok (.goto 4, 3) by decide +kernel) (by decide)) ?_
  refine xA (ok_iconst hC (show decode prog_5_method_11_code 50 = .ok (.iconst 0, 1) by decide +kernel) (by decide)) ?_
  refine xA (ok_zret hC hr (show decode prog_5_method_11_code 51 = .ok (.ireturn, 1) by decide +kernel)) ?_
  exact trivial

def tb_Rd_readNumber (X : xX) : List (Nat × xOp) := [(0, o_ald 0 1),
  (1, o_get 1 1 4),
  (4, o_ist 1 5),
  (5, o_ic 0 6),
  (6, o_ist 2 7),
  (7, o_ald 0 8),
  (8, o_get 1 1 11),
  (11, o_ald 0 12),
  (12, o_get 1 0 15),
  (15, o_len 16),
  (16, o_icge 65 19),
  (19, o_ald 0 20),
  (20, o_get 1 0 23),
  (23, o_ald 0 24),
  (24, o_get 1 1 27),
  (27, o_ld 1 28),
  (28, o_callS X.l X.D X.P 0 1 y_Sc_isDigit 31),
  (31, o_ifeq 65 34),
  (34, o_ild 2 35),
  (35, o_ic 10 37),
  (37, o_imul 38),
  (38, o_ald 0 39),
  (39, o_get 1 0 42),
  (42, o_ald 0 43),
  (43, o_get 1 1 46),
  (46, o_ld 1 47),
  (47, o_ic 48 49),
  (49, o_isub 50),
  (50, o_iadd 51),
  (51, o_ist 2 52),
  (52, o_ald 0 53),
  (53, o_dup 54),
  (54, o_get 1 1 57),
  (57, o_ic 1 58),
  (58, o_iadd 59),
  (59, o_put 1 1 (.int) 62),
  (62, o_goto 7),
  (65, o_ald 0 66),
  (66, o_get 1 1 69),
  (69, o_ild 1 70),
  (70, o_iceq 84 73),
  (73, o_ald 0 74),
  (74, o_get 1 1 77),
  (77, o_ild 1 78),
  (78, o_isub 79),
  (79, o_ic 7 81),
  (81, o_icle 89 84),
  (84, o_ald 0 85),
  (85, o_ild 1 86),
  (86, o_callV X.l X.D X.P 1 6 2 y_Rd_failAt 89),
  (89, o_ild 2 90),
  (90, o_iret X.P)]
theorem tk_Rd_readNumber {X : xX} (hC : xCx X prog_5_method_8_code "StyleCourt$Reader" 3 7) (hr : X.meth.sig.returnType = (some .int)) (hnh : X.c.exceptionTable.isEmpty = true) (hin : X.meth.name = "readNumber") : xAll X (tb_Rd_readNumber X) := by
  refine xA (ok_aload_n hC (show decode prog_5_method_8_code 0 = .ok (.aload_n 0, 1) by decide +kernel) rfl) ?_
  refine xA (ok_get hC (show decode prog_5_method_8_code 1 = .ok (.getfield 9, 3) by decide +kernel) (by decide) (r0 := ("StyleCourt$Reader", xF1, 3)) rfl (by decide) rfl w_135) ?_
  refine xA (ok_istore_n hC (show decode prog_5_method_8_code 4 = .ok (.istore_n 1, 1) by decide +kernel) rfl (by decide)) ?_
  refine xA (ok_iconst hC (show decode prog_5_method_8_code 5 = .ok (.iconst 0, 1) by decide +kernel) (by decide)) ?_
  refine xA (ok_istore_n hC (show decode prog_5_method_8_code 6 = .ok (.istore_n 2, 1) by decide +kernel) rfl (by decide)) ?_
  refine xA (ok_aload_n hC (show decode prog_5_method_8_code 7 = .ok (.aload_n 0, 1) by decide +kernel) rfl) ?_
  refine xA (ok_get hC (show decode prog_5_method_8_code 8 = .ok (.getfield 9, 3) by decide +kernel) (by decide) (r0 := ("StyleCourt$Reader", xF1, 3)) rfl (by decide) rfl w_135) ?_
  refine xA (ok_aload_n hC (show decode prog_5_method_8_code 11 = .ok (.aload_n 0, 1) by decide +kernel) rfl) ?_
  refine xA (ok_get hC (show decode prog_5_method_8_code 12 = .ok (.getfield 24, 3) by decide +kernel) (by decide) (r0 := ("StyleCourt$Reader", xF1, 3)) rfl (by decide) rfl w_132) ?_
  refine xA (ok_len hC (show decode prog_5_method_8_code 15 = .ok (.arraylength, 1) by decide +kernel)) ?_
  refine xA (ok_icge hC (show decode prog_5_method_8_code 16 = .ok (.if_icmp .ge 49, 3) by decide +kernel) (by decide)) ?_
  refine xA (ok_aload_n hC (show decode prog_5_method_8_code 19 = .ok (.aload_n 0, 1) by decide +kernel) rfl) ?_
  refine xA (ok_get hC (show decode prog_5_method_8_code 20 = .ok (.getfield 24, 3) by decide +kernel) (by decide) (r0 := ("StyleCourt$Reader", xF1, 3)) rfl (by decide) rfl w_132) ?_
  refine xA (ok_aload_n hC (show decode prog_5_method_8_code 23 = .ok (.aload_n 0, 1) by decide +kernel) rfl) ?_
  refine xA (ok_get hC (show decode prog_5_method_8_code 24 = .ok (.getfield 9, 3) by decide +kernel) (by decide) (r0 := ("StyleCourt$Reader", xF1, 3)) rfl (by decide) rfl w_135) ?_
  refine xA (ok_bald hC (show decode prog_5_method_8_code 27 = .ok (.baload, 1) by decide +kernel) (by decide) rfl) ?_
  refine xA (ok_callSN (hh := []) hC hnh (show decode prog_5_method_8_code 28 = .ok (.invokestatic 53, 3) by decide +kernel) (by decide) (by decide) ⟨by decide, by decide, by decide +kernel⟩ (Or.inl w_619) w_69 w_617 w_618) ?_
  refine xA (ok_ifeq hC (show decode prog_5_method_8_code 31 = .ok (.ifCond .eq 34, 3) by decide +kernel) (by decide)) ?_
  refine xA (ok_iload_n hC (show decode prog_5_method_8_code 34 = .ok (.iload_n 2, 1) by decide +kernel) rfl) ?_
  refine xA (ok_bipush hC (show decode prog_5_method_8_code 35 = .ok (.bipush 10, 2) by decide +kernel) (by decide)) ?_
  refine xA (ok_imul hC (show decode prog_5_method_8_code 37 = .ok (.imul, 1) by decide +kernel)) ?_
  refine xA (ok_aload_n hC (show decode prog_5_method_8_code 38 = .ok (.aload_n 0, 1) by decide +kernel) rfl) ?_
  refine xA (ok_get hC (show decode prog_5_method_8_code 39 = .ok (.getfield 24, 3) by decide +kernel) (by decide) (r0 := ("StyleCourt$Reader", xF1, 3)) rfl (by decide) rfl w_132) ?_
  refine xA (ok_aload_n hC (show decode prog_5_method_8_code 42 = .ok (.aload_n 0, 1) by decide +kernel) rfl) ?_
  refine xA (ok_get hC (show decode prog_5_method_8_code 43 = .ok (.getfield 9, 3) by decide +kernel) (by decide) (r0 := ("StyleCourt$Reader", xF1, 3)) rfl (by decide) rfl w_135) ?_
  refine xA (ok_bald hC (show decode prog_5_method_8_code 46 = .ok (.baload, 1) by decide +kernel) (by decide) rfl) ?_
  refine xA (ok_bipush hC (show decode prog_5_method_8_code 47 = .ok (.bipush 48, 2) by decide +kernel) (by decide)) ?_
  refine xA (ok_isub hC (show decode prog_5_method_8_code 49 = .ok (.isub, 1) by decide +kernel)) ?_
  refine xA (ok_iadd hC (show decode prog_5_method_8_code 50 = .ok (.iadd, 1) by decide +kernel)) ?_
  refine xA (ok_istore_n hC (show decode prog_5_method_8_code 51 = .ok (.istore_n 2, 1) by decide +kernel) rfl (by decide)) ?_
  refine xA (ok_aload_n hC (show decode prog_5_method_8_code 52 = .ok (.aload_n 0, 1) by decide +kernel) rfl) ?_
  refine xA (ok_dup hC (show decode prog_5_method_8_code 53 = .ok (.dup, 1) by decide +kernel)) ?_
  refine xA (ok_get hC (show decode prog_5_method_8_code 54 = .ok (.getfield 9, 3) by decide +kernel) (by decide) (r0 := ("StyleCourt$Reader", xF1, 3)) rfl (by decide) rfl w_135) ?_
  refine xA (ok_iconst hC (show decode prog_5_method_8_code 57 = .ok (.iconst 1, 1) by decide +kernel) (by decide)) ?_
  refine xA (ok_iadd hC (show decode prog_5_method_8_code 58 = .ok (.iadd, 1) by decide +kernel)) ?_
  refine xA (ok_put hC (show decode prog_5_method_8_code 59 = .ok (.putfield 9, 3) by decide +kernel) (by decide) (r0 := ("StyleCourt$Reader", xF1, 3)) rfl (by decide) rfl (by decide +kernel) w_135) ?_
  refine xA (ok_goto hC (show decode prog_5_method_8_code 62 = .ok (.goto (-55), 3) by decide +kernel) (by decide)) ?_
  refine xA (ok_aload_n hC (show decode prog_5_method_8_code 65 = .ok (.aload_n 0, 1) by decide +kernel) rfl) ?_
  refine xA (ok_get hC (show decode prog_5_method_8_code 66 = .ok (.getfield 9, 3) by decide +kernel) (by decide) (r0 := ("StyleCourt$Reader", xF1, 3)) rfl (by decide) rfl w_135) ?_
  refine xA (ok_iload_n hC (show decode prog_5_method_8_code 69 = .ok (.iload_n 1, 1) by decide +kernel) rfl) ?_
  refine xA (ok_iceq hC (show decode prog_5_method_8_code 70 = .ok (.if_icmp .eq 14, 3) by decide +kernel) (by decide)) ?_
  refine xA (ok_aload_n hC (show decode prog_5_method_8_code 73 = .ok (.aload_n 0, 1) by decide +kernel) rfl) ?_
  refine xA (ok_get hC (show decode prog_5_method_8_code 74 = .ok (.getfield 9, 3) by decide +kernel) (by decide) (r0 := ("StyleCourt$Reader", xF1, 3)) rfl (by decide) rfl w_135) ?_
  refine xA (ok_iload_n hC (show decode prog_5_method_8_code 77 = .ok (.iload_n 1, 1) by decide +kernel) rfl) ?_
  refine xA (ok_isub hC (show decode prog_5_method_8_code 78 = .ok (.isub, 1) by decide +kernel)) ?_
  refine xA (ok_bipush hC (show decode prog_5_method_8_code 79 = .ok (.bipush 7, 2) by decide +kernel) (by decide)) ?_
  refine xA (ok_icle hC (show decode prog_5_method_8_code 81 = .ok (.if_icmp .le 8, 3) by decide +kernel) (by decide)) ?_
  refine xA (ok_aload_n hC (show decode prog_5_method_8_code 84 = .ok (.aload_n 0, 1) by decide +kernel) rfl) ?_
  refine xA (ok_iload_n hC (show decode prog_5_method_8_code 85 = .ok (.iload_n 1, 1) by decide +kernel) rfl) ?_
  refine xA (ok_callV hC hnh (show decode prog_5_method_8_code 86 = .ok (.invokevirtual 43, 3) by decide +kernel) (by decide) (by decide) (by decide) (r0 := ("StyleCourt$Reader", xF1, 3)) rfl ⟨by decide, by decide, by decide +kernel⟩ w_591 w_70 w_616 w_589 w_590) ?_
  refine xA (ok_iload_n hC (show decode prog_5_method_8_code 89 = .ok (.iload_n 2, 1) by decide +kernel) rfl) ?_
  refine xA (ok_iret hC hr (show decode prog_5_method_8_code 90 = .ok (.ireturn, 1) by decide +kernel)) ?_
  exact trivial

def tb_Nd_init (X : xX) : List (Nat × xOp) := [(0, o_ald 0 1),
  (1, o_obj 4),
  (4, o_ald 0 5),
  (5, o_ald 1 6),
  (6, o_put 3 0 (.object "StyleCourt$Slice") 9),
  (9, o_ald 0 10),
  (10, o_ald 2 11),
  (11, o_put 3 1 (.object "StyleCourt$Slice") 14),
  (14, o_vret X.P)]
theorem tk_Nd_init {X : xX} (hC : xCx X prog_4_method_1_code "StyleCourt$Named" 3 1) (hr : X.meth.sig.returnType = none) (hnh : X.c.exceptionTable.isEmpty = true) (hin : X.meth.name = "<init>") : xAll X (tb_Nd_init X) := by
  refine xA (ok_aload_n hC (show decode prog_4_method_1_code 0 = .ok (.aload_n 0, 1) by decide +kernel) rfl) ?_
  refine xA (ok_obj hC (by decide) (show decode prog_4_method_1_code 1 = .ok (.invokespecial 1, 3) by decide +kernel) w_300 w_106 w_107) ?_
  refine xA (ok_aload_n hC (show decode prog_4_method_1_code 4 = .ok (.aload_n 0, 1) by decide +kernel) rfl) ?_
  refine xA (ok_aload_n hC (show decode prog_4_method_1_code 5 = .ok (.aload_n 1, 1) by decide +kernel) rfl) ?_
  refine xA (ok_putF hC hin (show decode prog_4_method_1_code 6 = .ok (.putfield 7, 3) by decide +kernel) (by decide) (r0 := ("StyleCourt$Named", xF3, 2)) rfl (by decide) rfl (by decide +kernel) w_301) ?_
  refine xA (ok_aload_n hC (show decode prog_4_method_1_code 9 = .ok (.aload_n 0, 1) by decide +kernel) rfl) ?_
  refine xA (ok_aload_n hC (show decode prog_4_method_1_code 10 = .ok (.aload_n 2, 1) by decide +kernel) rfl) ?_
  refine xA (ok_putF hC hin (show decode prog_4_method_1_code 11 = .ok (.putfield 13, 3) by decide +kernel) (by decide) (r0 := ("StyleCourt$Named", xF3, 2)) rfl (by decide) rfl (by decide +kernel) w_303) ?_
  refine xA (ok_vret hC hr (show decode prog_4_method_1_code 14 = .ok (.return_, 1) by decide +kernel)) ?_
  exact trivial

def tb_El_init (X : xX) : List (Nat × xOp) := [(0, o_ald 0 1),
  (1, o_obj 4),
  (4, o_ald 0 5),
  (5, o_new 12 3 [.int 0, .null, .int 0] 8),
  (8, o_dup 9),
  (9, o_callI X.l X.D X.P 3 1 y_AL_init 12),
  (12, o_put 4 7 (.object "java/util/ArrayList") 15),
  (15, o_ald 0 16),
  (16, o_null 17),
  (17, o_put 4 8 (.object "StyleCourt$Element") 20),
  (20, o_ald 0 21),
  (21, o_ic 0 22),
  (22, o_put 4 9 (.int) 25),
  (25, o_ald 0 26),
  (26, o_ic 0 27),
  (27, o_put 4 10 (.boolean) 30),
  (30, o_ald 0 31),
  (31, o_ic 0 32),
  (32, o_put 4 11 (.boolean) 35),
  (35, o_ald 0 36),
  (36, o_ic 0 37),
  (37, o_put 4 12 (.int) 40),
  (40, o_ald 0 41),
  (41, o_ic 0 42),
  (42, o_put 4 13 (.int) 45),
  (45, o_ald 0 46),
  (46, o_ic 0 47),
  (47, o_put 4 14 (.int) 50),
  (50, o_ald 0 51),
  (51, o_ald 1 52),
  (52, o_put 4 0 (.object "StyleCourt$Slice") 55),
  (55, o_ald 0 56),
  (56, o_ald 2 57),
  (57, o_put 4 1 (.object "StyleCourt$Element") 60),
  (60, o_ald 0 61),
  (61, o_ald 2 62),
  (62, o_nul 65 69),
  (65, o_null 66),
  (66, o_goto 73),
  (69, o_ald 2 70),
  (70, o_get 4 8 73),
  (73, o_put 4 2 (.object "StyleCourt$Element") 76),
  (76, o_ald 0 77),
  (77, o_ild 3 78),
  (78, o_put 4 3 (.int) 81),
  (81, o_ald 0 82),
  (82, o_ald 2 83),
  (83, o_nul 86 90),
  (86, o_ic 0 87),
  (87, o_goto 96),
  (90, o_ald 2 91),
  (91, o_get 4 9 94),
  (94, o_ic 1 95),
  (95, o_iadd 96),
  (96, o_put 4 4 (.int) 99),
  (99, o_ald 0 100),
  (100, o_ald 2 101),
  (101, o_nul 104 108),
  (104, o_ic (-1) 105),
  (105, o_goto 114),
  (108, o_ald 2 109),
  (109, o_get 4 5 112),
  (112, o_ic 1 113),
  (113, o_iadd 114),
  (114, o_put 4 5 (.int) 117),
  (117, o_ald 0 118),
  (118, o_ild 4 120),
  (120, o_put 4 6 (.int) 123),
  (123, o_vret X.P)]
theorem tk_El_init {X : xX} (hC : xCx X prog_3_method_1_code "StyleCourt$Element" 5 4) (hr : X.meth.sig.returnType = none) (hnh : X.c.exceptionTable.isEmpty = true) (hin : X.meth.name = "<init>") : xAll X (tb_El_init X) := by
  refine xA (ok_aload_n hC (show decode prog_3_method_1_code 0 = .ok (.aload_n 0, 1) by decide +kernel) rfl) ?_
  refine xA (ok_obj hC (by decide) (show decode prog_3_method_1_code 1 = .ok (.invokespecial 1, 3) by decide +kernel) w_213 w_106 w_107) ?_
  refine xA (ok_aload_n hC (show decode prog_3_method_1_code 4 = .ok (.aload_n 0, 1) by decide +kernel) rfl) ?_
  refine xA (ok_new hC (show decode prog_3_method_1_code 5 = .ok (.new 7, 3) by decide +kernel) (by decide) (r0 := ("java/util/ArrayList", xF12, 3)) rfl (by decide) w_214 w_161 w_77) ?_
  refine xA (ok_dup hC (show decode prog_3_method_1_code 8 = .ok (.dup, 1) by decide +kernel)) ?_
  refine xA (ok_callI hC hnh (show decode prog_3_method_1_code 9 = .ok (.invokespecial 9, 3) by decide +kernel) (by decide) (by decide) ⟨by decide, by decide, by decide +kernel⟩ rfl w_164 w_77 w_215 w_163) ?_
  refine xA (ok_putF hC hin (show decode prog_3_method_1_code 12 = .ok (.putfield 10, 3) by decide +kernel) (by decide) (r0 := ("StyleCourt$Element", xF4, 15)) rfl (by decide) rfl (by decide +kernel) w_241) ?_
  refine xA (ok_aload_n hC (show decode prog_3_method_1_code 15 = .ok (.aload_n 0, 1) by decide +kernel) rfl) ?_
  refine xA (ok_null hC (show decode prog_3_method_1_code 16 = .ok (.aconst_null, 1) by decide +kernel)) ?_
  refine xA (ok_put hC (show decode prog_3_method_1_code 17 = .ok (.putfield 16, 3) by decide +kernel) (by decide) (r0 := ("StyleCourt$Element", xF4, 15)) rfl (by decide) rfl (by decide +kernel) w_245) ?_
  refine xA (ok_aload_n hC (show decode prog_3_method_1_code 20 = .ok (.aload_n 0, 1) by decide +kernel) rfl) ?_
  refine xA (ok_iconst hC (show decode prog_3_method_1_code 21 = .ok (.iconst 0, 1) by decide +kernel) (by decide)) ?_
  refine xA (ok_put hC (show decode prog_3_method_1_code 22 = .ok (.putfield 20, 3) by decide +kernel) (by decide) (r0 := ("StyleCourt$Element", xF4, 15)) rfl (by decide) rfl (by decide +kernel) w_247) ?_
  refine xA (ok_aload_n hC (show decode prog_3_method_1_code 25 = .ok (.aload_n 0, 1) by decide +kernel) rfl) ?_
  refine xA (ok_iconst hC (show decode prog_3_method_1_code 26 = .ok (.iconst 0, 1) by decide +kernel) (by decide)) ?_
  refine xA (ok_put hC (show decode prog_3_method_1_code 27 = .ok (.putfield 24, 3) by decide +kernel) (by decide) (r0 := ("StyleCourt$Element", xF4, 15)) rfl (by decide) rfl (by decide +kernel) w_250) ?_
  refine xA (ok_aload_n hC (show decode prog_3_method_1_code 30 = .ok (.aload_n 0, 1) by decide +kernel) rfl) ?_
  refine xA (ok_iconst hC (show decode prog_3_method_1_code 31 = .ok (.iconst 0, 1) by decide +kernel) (by decide)) ?_
  refine xA (ok_put hC (show decode prog_3_method_1_code 32 = .ok (.putfield 28, 3) by decide +kernel) (by decide) (r0 := ("StyleCourt$Element", xF4, 15)) rfl (by decide) rfl (by decide +kernel) w_253) ?_
  refine xA (ok_aload_n hC (show decode prog_3_method_1_code 35 = .ok (.aload_n 0, 1) by decide +kernel) rfl) ?_
  refine xA (ok_iconst hC (show decode prog_3_method_1_code 36 = .ok (.iconst 0, 1) by decide +kernel) (by decide)) ?_
  refine xA (ok_put hC (show decode prog_3_method_1_code 37 = .ok (.putfield 31, 3) by decide +kernel) (by decide) (r0 := ("StyleCourt$Element", xF4, 15)) rfl (by decide) rfl (by decide +kernel) w_255) ?_
  refine xA (ok_aload_n hC (show decode prog_3_method_1_code 40 = .ok (.aload_n 0, 1) by decide +kernel) rfl) ?_
  refine xA (ok_iconst hC (show decode prog_3_method_1_code 41 = .ok (.iconst 0, 1) by decide +kernel) (by decide)) ?_
  refine xA (ok_put hC (show decode prog_3_method_1_code 42 = .ok (.putfield 34, 3) by decide +kernel) (by decide) (r0 := ("StyleCourt$Element", xF4, 15)) rfl (by decide) rfl (by decide +kernel) w_258) ?_
  refine xA (ok_aload_n hC (show decode prog_3_method_1_code 45 = .ok (.aload_n 0, 1) by decide +kernel) rfl) ?_
  refine xA (ok_iconst hC (show decode prog_3_method_1_code 46 = .ok (.iconst 0, 1) by decide +kernel) (by decide)) ?_
  refine xA (ok_put hC (show decode prog_3_method_1_code 47 = .ok (.putfield 37, 3) by decide +kernel) (by decide) (r0 := ("StyleCourt$Element", xF4, 15)) rfl (by decide) rfl (by decide +kernel) w_261) ?_
  refine xA (ok_aload_n hC (show decode prog_3_method_1_code 50 = .ok (.aload_n 0, 1) by decide +kernel) rfl) ?_
  refine xA (ok_aload_n hC (show decode prog_3_method_1_code 51 = .ok (.aload_n 1, 1) by decide +kernel) rfl) ?_
  refine xA (ok_putF hC hin (show decode prog_3_method_1_code 52 = .ok (.putfield 40, 3) by decide +kernel) (by decide) (r0 := ("StyleCourt$Element", xF4, 15)) rfl (by decide) rfl (by decide +kernel) w_216) ?_
  refine xA (ok_aload_n hC (show decode prog_3_method_1_code 55 = .ok (.aload_n 0, 1) by decide +kernel) rfl) ?_
  refine xA (ok_aload_n hC (show decode prog_3_method_1_code 56 = .ok (.aload_n 2, 1) by decide +kernel) rfl) ?_
  refine xA (ok_putF hC hin (show decode prog_3_method_1_code 57 = .ok (.putfield 44, 3) by decide +kernel) (by decide) (r0 := ("StyleCourt$Element", xF4, 15)) rfl (by decide) rfl (by decide +kernel) w_221) ?_
  refine xA (ok_aload_n hC (show decode prog_3_method_1_code 60 = .ok (.aload_n 0, 1) by decide +kernel) rfl) ?_
  refine xA (ok_aload_n hC (show decode prog_3_method_1_code 61 = .ok (.aload_n 2, 1) by decide +kernel) rfl) ?_
  refine xA (ok_ifnonnull hC (show decode prog_3_method_1_code 62 = .ok (.ifnonnull 7, 3) by decide +kernel) (by decide)) ?_
  refine xA (ok_null hC (show decode prog_3_method_1_code 65 = .ok (.aconst_null, 1) by decide +kernel)) ?_
  refine xA (ok_goto hC (show decode prog_3_method_1_code 66 = .ok (.goto 7, 3) by decide +kernel) (by decide)) ?_
  refine xA (ok_aload_n hC (show decode prog_3_method_1_code 69 = .ok (.aload_n 2, 1) by decide +kernel) rfl) ?_
  refine xA (ok_get hC (show decode prog_3_method_1_code 70 = .ok (.getfield 16, 3) by decide +kernel) (by decide) (r0 := ("StyleCourt$Element", xF4, 15)) rfl (by decide) rfl w_245) ?_
  refine xA (ok_putF hC hin (show decode prog_3_method_1_code 73 = .ok (.putfield 47, 3) by decide +kernel) (by decide) (r0 := ("StyleCourt$Element", xF4, 15)) rfl (by decide) rfl (by decide +kernel) w_226) ?_
  refine xA (ok_aload_n hC (show decode prog_3_method_1_code 76 = .ok (.aload_n 0, 1) by decide +kernel) rfl) ?_
  refine xA (ok_iload_n hC (show decode prog_3_method_1_code 77 = .ok (.iload_n 3, 1) by decide +kernel) rfl) ?_
  refine xA (ok_putF hC hin (show decode prog_3_method_1_code 78 = .ok (.putfield 50, 3) by decide +kernel) (by decide) (r0 := ("StyleCourt$Element", xF4, 15)) rfl (by decide) rfl (by decide +kernel) w_230) ?_
  refine xA (ok_aload_n hC (show decode prog_3_method_1_code 81 = .ok (.aload_n 0, 1) by decide +kernel) rfl) ?_
  refine xA (ok_aload_n hC (show decode prog_3_method_1_code 82 = .ok (.aload_n 2, 1) by decide +kernel) rfl) ?_
  refine xA (ok_ifnonnull hC (show decode prog_3_method_1_code 83 = .ok (.ifnonnull 7, 3) by decide +kernel) (by decide)) ?_
  refine xA (ok_iconst hC (show decode prog_3_method_1_code 86 = .ok (.iconst 0, 1) by decide +kernel) (by decide)) ?_
  refine xA (ok_goto hC (show decode prog_3_method_1_code 87 = .ok (.goto 9, 3) by decide +kernel) (by decide)) ?_
  refine xA (ok_aload_n hC (show decode prog_3_method_1_code 90 = .ok (.aload_n 2, 1) by decide +kernel) rfl) ?_
  refine xA (ok_get hC (show decode prog_3_method_1_code 91 = .ok (.getfield 20, 3) by decide +kernel) (by decide) (r0 := ("StyleCourt$Element", xF4, 15)) rfl (by decide) rfl w_247) ?_
  refine xA (ok_iconst hC (show decode prog_3_method_1_code 94 = .ok (.iconst 1, 1) by decide +kernel) (by decide)) ?_
  refine xA (ok_iadd hC (show decode prog_3_method_1_code 95 = .ok (.iadd, 1) by decide +kernel)) ?_
  refine xA (ok_putF hC hin (show decode prog_3_method_1_code 96 = .ok (.putfield 53, 3) by decide +kernel) (by decide) (r0 := ("StyleCourt$Element", xF4, 15)) rfl (by decide) rfl (by decide +kernel) w_232) ?_
  refine xA (ok_aload_n hC (show decode prog_3_method_1_code 99 = .ok (.aload_n 0, 1) by decide +kernel) rfl) ?_
  refine xA (ok_aload_n hC (show decode prog_3_method_1_code 100 = .ok (.aload_n 2, 1) by decide +kernel) rfl) ?_
  refine xA (ok_ifnonnull hC (show decode prog_3_method_1_code 101 = .ok (.ifnonnull 7, 3) by decide +kernel) (by decide)) ?_
  refine xA (ok_iconst hC (show decode prog_3_method_1_code 104 = .ok (.iconst (-1), 1) by decide +kernel) (by decide)) ?_
  refine xA (ok_goto hC (show decode prog_3_method_1_code 105 = .ok (.goto 9, 3) by decide +kernel) (by decide)) ?_
  refine xA (ok_aload_n hC (show decode prog_3_method_1_code 108 = .ok (.aload_n 2, 1) by decide +kernel) rfl) ?_
  refine xA (ok_get hC (show decode prog_3_method_1_code 109 = .ok (.getfield 56, 3) by decide +kernel) (by decide) (r0 := ("StyleCourt$Element", xF4, 15)) rfl (by decide) rfl w_235) ?_
  refine xA (ok_iconst hC (show decode prog_3_method_1_code 112 = .ok (.iconst 1, 1) by decide +kernel) (by decide)) ?_
  refine xA (ok_iadd hC (show decode prog_3_method_1_code 113 = .ok (.iadd, 1) by decide +kernel)) ?_
  refine xA (ok_putF hC hin (show decode prog_3_method_1_code 114 = .ok (.putfield 56, 3) by decide +kernel) (by decide) (r0 := ("StyleCourt$Element", xF4, 15)) rfl (by decide) rfl (by decide +kernel) w_235) ?_
  refine xA (ok_aload_n hC (show decode prog_3_method_1_code 117 = .ok (.aload_n 0, 1) by decide +kernel) rfl) ?_
  refine xA (ok_iload hC (show decode prog_3_method_1_code 118 = .ok (.iload 4, 2) by decide +kernel)) ?_
  refine xA (ok_putF hC hin (show decode prog_3_method_1_code 120 = .ok (.putfield 59, 3) by decide +kernel) (by decide) (r0 := ("StyleCourt$Element", xF4, 15)) rfl (by decide) rfl (by decide +kernel) w_239) ?_
  refine xA (ok_vret hC hr (show decode prog_3_method_1_code 123 = .ok (.return_, 1) by decide +kernel)) ?_
  exact trivial

def tb_El_isEmpty (X : xX) : List (Nat × xOp) := [(0, o_ald 0 1),
  (1, o_get 4 9 4),
  (4, o_ifne 18 7),
  (7, o_ald 0 8),
  (8, o_get 4 11 11),
  (11, o_ifne 18 14),
  (14, o_ic 1 15),
  (15, o_goto 19),
  (18, o_ic 0 19),
  (19, o_zret .boolean X.P)]
theorem tk_El_isEmpty {X : xX} (hC : xCx X prog_3_method_2_code "StyleCourt$Element" 1 0) (hr : X.meth.sig.returnType = (some .boolean)) (hnh : X.c.exceptionTable.isEmpty = true) (hin : X.meth.name = "isEmpty") : xAll X (tb_El_isEmpty X) := by
  refine xA (ok_aload_n hC (show decode prog_3_method_2_code 0 = .ok (.aload_n 0, 1) by decide +kernel) rfl) ?_
  refine xA (ok_get hC (show decode prog_3_method_2_code 1 = .ok (.getfield 20, 3) by decide +kernel) (by decide) (r0 := ("StyleCourt$Element", xF4, 15)) rfl (by decide) rfl w_247) ?_
  refine xA (ok_ifne hC (show decode prog_3_method_2_code 4 = .ok (.ifCond .ne 14, 3) by decide +kernel) (by decide)) ?_
  refine xA (ok_aload_n hC (show decode prog_3_method_2_code 7 = .ok (.aload_n 0, 1) by decide +kernel) rfl) ?_
  refine xA (ok_get hC (show decode prog_3_method_2_code 8 = .ok (.getfield 28, 3) by decide +kernel) (by decide) (r0 := ("StyleCourt$Element", xF4, 15)) rfl (by decide) rfl w_253) ?_
  refine xA (ok_ifne hC (show decode prog_3_method_2_code 11 = .ok (.ifCond .ne 7, 3) by decide +kernel) (by decide)) ?_
  refine xA (ok_iconst hC (show decode prog_3_method_2_code 14 = .ok (.iconst 1, 1) by decide +kernel) (by decide)) ?_
  refine xA (ok_goto hC (show decode prog_3_method_2_code 15 = .ok (.goto 4, 3) by decide +kernel) (by decide)) ?_
  refine xA (ok_iconst hC (show decode prog_3_method_2_code 18 = .ok (.iconst 0, 1) by decide +kernel) (by decide)) ?_
  refine xA (ok_zret hC hr (show decode prog_3_method_2_code 19 = .ok (.ireturn, 1) by decide +kernel)) ?_
  exact trivial
