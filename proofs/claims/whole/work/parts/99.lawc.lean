/-! THE LAW, 3: tables -/
set_option maxRecDepth 100000 in
theorem w_459 : Cond.classLink "StyleCourtLaw" 13 "java/lang/IndexOutOfBoundsException" ∈ xws := xws_in (wt_2 (List.mem_of_getElem? (i := 151) rfl)) rfl
set_option maxRecDepth 100000 in
theorem w_538 : Cond.classLink "StyleCourtLaw" 19 "java/lang/IllegalArgumentException" ∈ xws := xws_in (wt_2 (List.mem_of_getElem? (i := 230) rfl)) rfl
set_option maxRecDepth 100000 in
theorem w_562 : Cond.classLink "StyleCourtLaw" 25 "java/lang/UnsupportedOperationException" ∈ xws := xws_in (wt_3 (List.mem_of_getElem? (i := 14) rfl)) rfl
def tb_Lw_feed (X : xX) : List (Nat × xOp) := [(0, o_ald 6 2),
  (2, o_ic 0 3),
  (3, o_ald 0 4),
  (4, o_ild 1 5),
  (5, o_ild 2 6),
  (6, o_ild 3 7),
  (7, o_ild 4 9),
  (9, o_ild 5 11),
  (11, o_callVC X.l X.D [(14, 19)] 0 6 6 y_Sc_feed 14),
  (14, o_i2l 15),
  (15, o_last 2 16),
  (16, o_goto 23),
  (19, o_ast 7 21),
  (21, o_ic 1 22),
  (22, o_iret X.P),
  (23, o_ic 0 24),
  (24, o_iret X.P)]
theorem tk_Lw_feed {X : xX} (hC : xCx X method_3_code "StyleCourtLaw" 8 7) (hr : X.meth.sig.returnType = (some .int)) (hnh : X.c.exceptionTable.toList = [⟨0, 16, 19, 13⟩]) (hin : X.meth.name = "feed") : xAll X (tb_Lw_feed X) := by
  refine xA (ok_aload hC (show decode method_3_code 0 = .ok (.aload 6, 2) by decide +kernel)) ?_
  refine xA (ok_iconst hC (show decode method_3_code 2 = .ok (.iconst 0, 1) by decide +kernel) (by decide)) ?_
  refine xA (ok_aload_n hC (show decode method_3_code 3 = .ok (.aload_n 0, 1) by decide +kernel) rfl) ?_
  refine xA (ok_iload_n hC (show decode method_3_code 4 = .ok (.iload_n 1, 1) by decide +kernel) rfl) ?_
  refine xA (ok_iload_n hC (show decode method_3_code 5 = .ok (.iload_n 2, 1) by decide +kernel) rfl) ?_
  refine xA (ok_iload_n hC (show decode method_3_code 6 = .ok (.iload_n 3, 1) by decide +kernel) rfl) ?_
  refine xA (ok_iload hC (show decode method_3_code 7 = .ok (.iload 4, 2) by decide +kernel)) ?_
  refine xA (ok_iload hC (show decode method_3_code 9 = .ok (.iload 5, 2) by decide +kernel)) ?_
  refine xA (ok_callVC hC (x_Ct1 hC (x := ⟨0, 16, 19, 13⟩) (c1 := 14) (r1 := ("java/lang/IndexOutOfBoundsException", xF14, 0)) hnh rfl (by decide) rfl w_459) (show decode method_3_code 11 = .ok (.invokevirtual 7, 3) by decide +kernel) (by decide) (by decide) (by decide) (r0 := ("StyleCourt", xF0, 12)) rfl ⟨by decide, by decide, by decide +kernel⟩ w_463 w_69 w_460 w_461 w_462) ?_
  refine xA (ok_i2l hC (show decode method_3_code 14 = .ok (.i2l, 1) by decide +kernel)) ?_
  refine xA (ok_last hC (show decode method_3_code 15 = .ok (.lastore, 1) by decide +kernel) (by decide) rfl) ?_
  refine xA (ok_goto hC (show decode method_3_code 16 = .ok (.goto 7, 3) by decide +kernel) (by decide)) ?_
  refine xA (ok_astore hC (show decode method_3_code 19 = .ok (.astore 7, 2) by decide +kernel) (by decide)) ?_
  refine xA (ok_iconst hC (show decode method_3_code 21 = .ok (.iconst 1, 1) by decide +kernel) (by decide)) ?_
  refine xA (ok_iret hC hr (show decode method_3_code 22 = .ok (.ireturn, 1) by decide +kernel)) ?_
  refine xA (ok_iconst hC (show decode method_3_code 23 = .ok (.iconst 0, 1) by decide +kernel) (by decide)) ?_
  refine xA (ok_iret hC hr (show decode method_3_code 24 = .ok (.ireturn, 1) by decide +kernel)) ?_
  exact trivial
theorem m_Lw_feed {l : Launch} {D : xD} {av : List Value} {h : xH} {mc ms : Nat} {P : xO → xH → Prop} (hav : (lg_sl av).length ≤ 8) (body : ∀ X : xX, X.l = l → X.D = D → X.P = P → xAll X (tb_Lw_feed X) → xG X 0 (lv_args 0 av) [] h mc ms) : xMet l D 7 y_Lw_feed av h mc ms P :=
  xMet.ofH (by decide) w_458 hav (fun X h1 h2 h3 _ _ hC hr hnh hin => body X h1 h2 h3 (tk_Lw_feed hC hr (tb1 hnh) hin))
def tb_Lw_end (X : xX) : List (Nat × xOp) := [(0, o_ald 2 1),
  (1, o_ic 0 2),
  (2, o_ald 0 3),
  (3, o_ild 1 4),
  (4, o_callVC X.l X.D [(15, 12)] 0 6 2 y_Sc_end 7),
  (7, o_i2l 8),
  (8, o_last 2 9),
  (9, o_goto 15),
  (12, o_ast 3 13),
  (13, o_ic 1 14),
  (14, o_iret X.P),
  (15, o_ic 0 16),
  (16, o_iret X.P)]
theorem tk_Lw_end {X : xX} (hC : xCx X method_4_code "StyleCourtLaw" 4 7) (hr : X.meth.sig.returnType = (some .int)) (hnh : X.c.exceptionTable.toList = [⟨0, 9, 12, 19⟩]) (hin : X.meth.name = "end") : xAll X (tb_Lw_end X) := by
  refine xA (ok_aload_n hC (show decode method_4_code 0 = .ok (.aload_n 2, 1) by decide +kernel) rfl) ?_
  refine xA (ok_iconst hC (show decode method_4_code 1 = .ok (.iconst 0, 1) by decide +kernel) (by decide)) ?_
  refine xA (ok_aload_n hC (show decode method_4_code 2 = .ok (.aload_n 0, 1) by decide +kernel) rfl) ?_
  refine xA (ok_iload_n hC (show decode method_4_code 3 = .ok (.iload_n 1, 1) by decide +kernel) rfl) ?_
  refine xA (ok_callVC hC (x_Ct1 hC (x := ⟨0, 9, 12, 19⟩) (c1 := 15) (r1 := ("java/lang/IllegalArgumentException", xF15, 0)) hnh rfl (by decide) rfl w_538) (show decode method_4_code 4 = .ok (.invokevirtual 15, 3) by decide +kernel) (by decide) (by decide) (by decide) (r0 := ("StyleCourt", xF0, 12)) rfl ⟨by decide, by decide, by decide +kernel⟩ w_542 w_69 w_539 w_540 w_541) ?_
  refine xA (ok_i2l hC (show decode method_4_code 7 = .ok (.i2l, 1) by decide +kernel)) ?_
  refine xA (ok_last hC (show decode method_4_code 8 = .ok (.lastore, 1) by decide +kernel) (by decide) rfl) ?_
  refine xA (ok_goto hC (show decode method_4_code 9 = .ok (.goto 6, 3) by decide +kernel) (by decide)) ?_
  refine xA (ok_astore_n hC (show decode method_4_code 12 = .ok (.astore_n 3, 1) by decide +kernel) rfl (by decide)) ?_
  refine xA (ok_iconst hC (show decode method_4_code 13 = .ok (.iconst 1, 1) by decide +kernel) (by decide)) ?_
  refine xA (ok_iret hC hr (show decode method_4_code 14 = .ok (.ireturn, 1) by decide +kernel)) ?_
  refine xA (ok_iconst hC (show decode method_4_code 15 = .ok (.iconst 0, 1) by decide +kernel) (by decide)) ?_
  refine xA (ok_iret hC hr (show decode method_4_code 16 = .ok (.ireturn, 1) by decide +kernel)) ?_
  exact trivial
theorem m_Lw_end {l : Launch} {D : xD} {av : List Value} {h : xH} {mc ms : Nat} {P : xO → xH → Prop} (hav : (lg_sl av).length ≤ 4) (body : ∀ X : xX, X.l = l → X.D = D → X.P = P → xAll X (tb_Lw_end X) → xG X 0 (lv_args 0 av) [] h mc ms) : xMet l D 7 y_Lw_end av h mc ms P :=
  xMet.ofH (by decide) w_537 hav (fun X h1 h2 h3 _ _ hC hr hnh hin => body X h1 h2 h3 (tk_Lw_end hC hr (tb1 hnh) hin))
def tb_Lw_source (X : xX) : List (Nat × xOp) := [(0, o_ald 1 1),
  (1, o_ic 0 2),
  (2, o_ald 0 3),
  (3, o_callVC X.l X.D [(16, 11)] 0 12 1 y_Sc_source 6),
  (6, o_i2l 7),
  (7, o_last 2 8),
  (8, o_goto 14),
  (11, o_ast 2 12),
  (12, o_ic 1 13),
  (13, o_iret X.P),
  (14, o_ic 0 15),
  (15, o_iret X.P)]
theorem tk_Lw_source {X : xX} (hC : xCx X method_5_code "StyleCourtLaw" 3 13) (hr : X.meth.sig.returnType = (some .int)) (hnh : X.c.exceptionTable.toList = [⟨0, 8, 11, 25⟩]) (hin : X.meth.name = "source") : xAll X (tb_Lw_source X) := by
  refine xA (ok_aload_n hC (show decode method_5_code 0 = .ok (.aload_n 1, 1) by decide +kernel) rfl) ?_
  refine xA (ok_iconst hC (show decode method_5_code 1 = .ok (.iconst 0, 1) by decide +kernel) (by decide)) ?_
  refine xA (ok_aload_n hC (show decode method_5_code 2 = .ok (.aload_n 0, 1) by decide +kernel) rfl) ?_
  refine xA (ok_callVC hC (x_Ct1 hC (x := ⟨0, 8, 11, 25⟩) (c1 := 16) (r1 := ("java/lang/UnsupportedOperationException", xF16, 0)) hnh rfl (by decide) rfl w_562) (show decode method_5_code 3 = .ok (.invokevirtual 21, 3) by decide +kernel) (by decide) (by decide) (by decide) (r0 := ("StyleCourt", xF0, 12)) rfl ⟨by decide, by decide, by decide +kernel⟩ w_566 w_69 w_563 w_564 w_565) ?_
  refine xA (ok_i2l hC (show decode method_5_code 6 = .ok (.i2l, 1) by decide +kernel)) ?_
  refine xA (ok_last hC (show decode method_5_code 7 = .ok (.lastore, 1) by decide +kernel) (by decide) rfl) ?_
  refine xA (ok_goto hC (show decode method_5_code 8 = .ok (.goto 6, 3) by decide +kernel) (by decide)) ?_
  refine xA (ok_astore_n hC (show decode method_5_code 11 = .ok (.astore_n 2, 1) by decide +kernel) rfl (by decide)) ?_
  refine xA (ok_iconst hC (show decode method_5_code 12 = .ok (.iconst 1, 1) by decide +kernel) (by decide)) ?_
  refine xA (ok_iret hC hr (show decode method_5_code 13 = .ok (.ireturn, 1) by decide +kernel)) ?_
  refine xA (ok_iconst hC (show decode method_5_code 14 = .ok (.iconst 0, 1) by decide +kernel) (by decide)) ?_
  refine xA (ok_iret hC hr (show decode method_5_code 15 = .ok (.ireturn, 1) by decide +kernel)) ?_
  exact trivial
theorem m_Lw_source {l : Launch} {D : xD} {av : List Value} {h : xH} {mc ms : Nat} {P : xO → xH → Prop} (hav : (lg_sl av).length ≤ 3) (body : ∀ X : xX, X.l = l → X.D = D → X.P = P → xAll X (tb_Lw_source X) → xG X 0 (lv_args 0 av) [] h mc ms) : xMet l D 13 y_Lw_source av h mc ms P :=
  xMet.ofH (by decide) w_561 hav (fun X h1 h2 h3 _ _ hC hr hnh hin => body X h1 h2 h3 (tk_Lw_source hC hr (tb1 hnh) hin))
def tb_Lw_style (X : xX) : List (Nat × xOp) := [(0, o_ald 1 1),
  (1, o_ic 0 2),
  (2, o_ald 0 3),
  (3, o_callVC X.l X.D [(16, 11)] 0 12 1 y_Sc_style 6),
  (6, o_i2l 7),
  (7, o_last 2 8),
  (8, o_goto 14),
  (11, o_ast 2 12),
  (12, o_ic 1 13),
  (13, o_iret X.P),
  (14, o_ic 0 15),
  (15, o_iret X.P)]
theorem tk_Lw_style {X : xX} (hC : xCx X method_6_code "StyleCourtLaw" 3 13) (hr : X.meth.sig.returnType = (some .int)) (hnh : X.c.exceptionTable.toList = [⟨0, 8, 11, 25⟩]) (hin : X.meth.name = "style") : xAll X (tb_Lw_style X) := by
  refine xA (ok_aload_n hC (show decode method_6_code 0 = .ok (.aload_n 1, 1) by decide +kernel) rfl) ?_
  refine xA (ok_iconst hC (show decode method_6_code 1 = .ok (.iconst 0, 1) by decide +kernel) (by decide)) ?_
  refine xA (ok_aload_n hC (show decode method_6_code 2 = .ok (.aload_n 0, 1) by decide +kernel) rfl) ?_
  refine xA (ok_callVC hC (x_Ct1 hC (x := ⟨0, 8, 11, 25⟩) (c1 := 16) (r1 := ("java/lang/UnsupportedOperationException", xF16, 0)) hnh rfl (by decide) rfl w_562) (show decode method_6_code 3 = .ok (.invokevirtual 27, 3) by decide +kernel) (by decide) (by decide) (by decide) (r0 := ("StyleCourt", xF0, 12)) rfl ⟨by decide, by decide, by decide +kernel⟩ w_725 w_69 w_722 w_723 w_724) ?_
  refine xA (ok_i2l hC (show decode method_6_code 6 = .ok (.i2l, 1) by decide +kernel)) ?_
  refine xA (ok_last hC (show decode method_6_code 7 = .ok (.lastore, 1) by decide +kernel) (by decide) rfl) ?_
  refine xA (ok_goto hC (show decode method_6_code 8 = .ok (.goto 6, 3) by decide +kernel) (by decide)) ?_
  refine xA (ok_astore_n hC (show decode method_6_code 11 = .ok (.astore_n 2, 1) by decide +kernel) rfl (by decide)) ?_
  refine xA (ok_iconst hC (show decode method_6_code 12 = .ok (.iconst 1, 1) by decide +kernel) (by decide)) ?_
  refine xA (ok_iret hC hr (show decode method_6_code 13 = .ok (.ireturn, 1) by decide +kernel)) ?_
  refine xA (ok_iconst hC (show decode method_6_code 14 = .ok (.iconst 0, 1) by decide +kernel) (by decide)) ?_
  refine xA (ok_iret hC hr (show decode method_6_code 15 = .ok (.ireturn, 1) by decide +kernel)) ?_
  exact trivial
theorem m_Lw_style {l : Launch} {D : xD} {av : List Value} {h : xH} {mc ms : Nat} {P : xO → xH → Prop} (hav : (lg_sl av).length ≤ 3) (body : ∀ X : xX, X.l = l → X.D = D → X.P = P → xAll X (tb_Lw_style X) → xG X 0 (lv_args 0 av) [] h mc ms) : xMet l D 13 y_Lw_style av h mc ms P :=
  xMet.ofH (by decide) w_721 hav (fun X h1 h2 h3 _ _ hC hr hnh hin => body X h1 h2 h3 (tk_Lw_style hC hr (tb1 hnh) hin))
def tb_Lw_property (X : xX) : List (Nat × xOp) := [(0, o_ald 2 1),
  (1, o_ic 0 2),
  (2, o_ald 0 3),
  (3, o_ild 1 4),
  (4, o_callVC X.l X.D [(15, 12)] 0 9 2 y_Sc_property 7),
  (7, o_i2l 8),
  (8, o_last 2 9),
  (9, o_goto 15),
  (12, o_ast 3 13),
  (13, o_ic 1 14),
  (14, o_iret X.P),
  (15, o_ic 0 16),
  (16, o_iret X.P)]
theorem tk_Lw_property {X : xX} (hC : xCx X method_7_code "StyleCourtLaw" 4 10) (hr : X.meth.sig.returnType = (some .int)) (hnh : X.c.exceptionTable.toList = [⟨0, 9, 12, 19⟩]) (hin : X.meth.name = "property") : xAll X (tb_Lw_property X) := by
  refine xA (ok_aload_n hC (show decode method_7_code 0 = .ok (.aload_n 2, 1) by decide +kernel) rfl) ?_
  refine xA (ok_iconst hC (show decode method_7_code 1 = .ok (.iconst 0, 1) by decide +kernel) (by decide)) ?_
  refine xA (ok_aload_n hC (show decode method_7_code 2 = .ok (.aload_n 0, 1) by decide +kernel) rfl) ?_
  refine xA (ok_iload_n hC (show decode method_7_code 3 = .ok (.iload_n 1, 1) by decide +kernel) rfl) ?_
  refine xA (ok_callVC hC (x_Ct1 hC (x := ⟨0, 9, 12, 19⟩) (c1 := 15) (r1 := ("java/lang/IllegalArgumentException", xF15, 0)) hnh rfl (by decide) rfl w_538) (show decode method_7_code 4 = .ok (.invokevirtual 30, 3) by decide +kernel) (by decide) (by decide) (by decide) (r0 := ("StyleCourt", xF0, 12)) rfl ⟨by decide, by decide, by decide +kernel⟩ w_972 w_69 w_969 w_970 w_971) ?_
  refine xA (ok_i2l hC (show decode method_7_code 7 = .ok (.i2l, 1) by decide +kernel)) ?_
  refine xA (ok_last hC (show decode method_7_code 8 = .ok (.lastore, 1) by decide +kernel) (by decide) rfl) ?_
  refine xA (ok_goto hC (show decode method_7_code 9 = .ok (.goto 6, 3) by decide +kernel) (by decide)) ?_
  refine xA (ok_astore_n hC (show decode method_7_code 12 = .ok (.astore_n 3, 1) by decide +kernel) rfl (by decide)) ?_
  refine xA (ok_iconst hC (show decode method_7_code 13 = .ok (.iconst 1, 1) by decide +kernel) (by decide)) ?_
  refine xA (ok_iret hC hr (show decode method_7_code 14 = .ok (.ireturn, 1) by decide +kernel)) ?_
  refine xA (ok_iconst hC (show decode method_7_code 15 = .ok (.iconst 0, 1) by decide +kernel) (by decide)) ?_
  refine xA (ok_iret hC hr (show decode method_7_code 16 = .ok (.ireturn, 1) by decide +kernel)) ?_
  exact trivial
theorem m_Lw_property {l : Launch} {D : xD} {av : List Value} {h : xH} {mc ms : Nat} {P : xO → xH → Prop} (hav : (lg_sl av).length ≤ 4) (body : ∀ X : xX, X.l = l → X.D = D → X.P = P → xAll X (tb_Lw_property X) → xG X 0 (lv_args 0 av) [] h mc ms) : xMet l D 10 y_Lw_property av h mc ms P :=
  xMet.ofH (by decide) w_968 hav (fun X h1 h2 h3 _ _ hC hr hnh hin => body X h1 h2 h3 (tk_Lw_property hC hr (tb1 hnh) hin))
def tb_Lw_by (X : xX) : List (Nat × xOp) := [(0, o_ald 2 1),
  (1, o_ic 0 2),
  (2, o_ald 0 3),
  (3, o_ild 1 4),
  (4, o_callVC X.l X.D [(15, 12)] 0 9 2 y_Sc_by 7),
  (7, o_i2l 8),
  (8, o_last 2 9),
  (9, o_goto 15),
  (12, o_ast 3 13),
  (13, o_ic 1 14),
  (14, o_iret X.P),
  (15, o_ic 0 16),
  (16, o_iret X.P)]
theorem tk_Lw_by {X : xX} (hC : xCx X method_8_code "StyleCourtLaw" 4 10) (hr : X.meth.sig.returnType = (some .int)) (hnh : X.c.exceptionTable.toList = [⟨0, 9, 12, 19⟩]) (hin : X.meth.name = "by") : xAll X (tb_Lw_by X) := by
  refine xA (ok_aload_n hC (show decode method_8_code 0 = .ok (.aload_n 2, 1) by decide +kernel) rfl) ?_
  refine xA (ok_iconst hC (show decode method_8_code 1 = .ok (.iconst 0, 1) by decide +kernel) (by decide)) ?_
  refine xA (ok_aload_n hC (show decode method_8_code 2 = .ok (.aload_n 0, 1) by decide +kernel) rfl) ?_
  refine xA (ok_iload_n hC (show decode method_8_code 3 = .ok (.iload_n 1, 1) by decide +kernel) rfl) ?_
  refine xA (ok_callVC hC (x_Ct1 hC (x := ⟨0, 9, 12, 19⟩) (c1 := 15) (r1 := ("java/lang/IllegalArgumentException", xF15, 0)) hnh rfl (by decide) rfl w_538) (show decode method_8_code 4 = .ok (.invokevirtual 33, 3) by decide +kernel) (by decide) (by decide) (by decide) (r0 := ("StyleCourt", xF0, 12)) rfl ⟨by decide, by decide, by decide +kernel⟩ w_1071 w_69 w_1068 w_1069 w_1070) ?_
  refine xA (ok_i2l hC (show decode method_8_code 7 = .ok (.i2l, 1) by decide +kernel)) ?_
  refine xA (ok_last hC (show decode method_8_code 8 = .ok (.lastore, 1) by decide +kernel) (by decide) rfl) ?_
  refine xA (ok_goto hC (show decode method_8_code 9 = .ok (.goto 6, 3) by decide +kernel) (by decide)) ?_
  refine xA (ok_astore_n hC (show decode method_8_code 12 = .ok (.astore_n 3, 1) by decide +kernel) rfl (by decide)) ?_
  refine xA (ok_iconst hC (show decode method_8_code 13 = .ok (.iconst 1, 1) by decide +kernel) (by decide)) ?_
  refine xA (ok_iret hC hr (show decode method_8_code 14 = .ok (.ireturn, 1) by decide +kernel)) ?_
  refine xA (ok_iconst hC (show decode method_8_code 15 = .ok (.iconst 0, 1) by decide +kernel) (by decide)) ?_
  refine xA (ok_iret hC hr (show decode method_8_code 16 = .ok (.ireturn, 1) by decide +kernel)) ?_
  exact trivial
theorem m_Lw_by {l : Launch} {D : xD} {av : List Value} {h : xH} {mc ms : Nat} {P : xO → xH → Prop} (hav : (lg_sl av).length ≤ 4) (body : ∀ X : xX, X.l = l → X.D = D → X.P = P → xAll X (tb_Lw_by X) → xG X 0 (lv_args 0 av) [] h mc ms) : xMet l D 10 y_Lw_by av h mc ms P :=
  xMet.ofH (by decide) w_1067 hav (fun X h1 h2 h3 _ _ hC hr hnh hin => body X h1 h2 h3 (tk_Lw_by hC hr (tb1 hnh) hin))
def tb_Lw_select (X : xX) : List (Nat × xOp) := [(0, o_ald 1 1),
  (1, o_ic 0 2),
  (2, o_ald 0 3),
  (3, o_callVC X.l X.D [(16, 11)] 0 11 1 y_Sc_select 6),
  (6, o_i2l 7),
  (7, o_last 2 8),
  (8, o_goto 14),
  (11, o_ast 2 12),
  (12, o_ic 1 13),
  (13, o_iret X.P),
  (14, o_ic 0 15),
  (15, o_iret X.P)]
theorem tk_Lw_select {X : xX} (hC : xCx X method_9_code "StyleCourtLaw" 3 12) (hr : X.meth.sig.returnType = (some .int)) (hnh : X.c.exceptionTable.toList = [⟨0, 8, 11, 25⟩]) (hin : X.meth.name = "select") : xAll X (tb_Lw_select X) := by
  refine xA (ok_aload_n hC (show decode method_9_code 0 = .ok (.aload_n 1, 1) by decide +kernel) rfl) ?_
  refine xA (ok_iconst hC (show decode method_9_code 1 = .ok (.iconst 0, 1) by decide +kernel) (by decide)) ?_
  refine xA (ok_aload_n hC (show decode method_9_code 2 = .ok (.aload_n 0, 1) by decide +kernel) rfl) ?_
  refine xA (ok_callVC hC (x_Ct1 hC (x := ⟨0, 8, 11, 25⟩) (c1 := 16) (r1 := ("java/lang/UnsupportedOperationException", xF16, 0)) hnh rfl (by decide) rfl w_562) (show decode method_9_code 3 = .ok (.invokevirtual 36, 3) by decide +kernel) (by decide) (by decide) (by decide) (r0 := ("StyleCourt", xF0, 12)) rfl ⟨by decide, by decide, by decide +kernel⟩ w_1078 w_69 w_1075 w_1076 w_1077) ?_
  refine xA (ok_i2l hC (show decode method_9_code 6 = .ok (.i2l, 1) by decide +kernel)) ?_
  refine xA (ok_last hC (show decode method_9_code 7 = .ok (.lastore, 1) by decide +kernel) (by decide) rfl) ?_
  refine xA (ok_goto hC (show decode method_9_code 8 = .ok (.goto 6, 3) by decide +kernel) (by decide)) ?_
  refine xA (ok_astore_n hC (show decode method_9_code 11 = .ok (.astore_n 2, 1) by decide +kernel) rfl (by decide)) ?_
  refine xA (ok_iconst hC (show decode method_9_code 12 = .ok (.iconst 1, 1) by decide +kernel) (by decide)) ?_
  refine xA (ok_iret hC hr (show decode method_9_code 13 = .ok (.ireturn, 1) by decide +kernel)) ?_
  refine xA (ok_iconst hC (show decode method_9_code 14 = .ok (.iconst 0, 1) by decide +kernel) (by decide)) ?_
  refine xA (ok_iret hC hr (show decode method_9_code 15 = .ok (.ireturn, 1) by decide +kernel)) ?_
  exact trivial
theorem m_Lw_select {l : Launch} {D : xD} {av : List Value} {h : xH} {mc ms : Nat} {P : xO → xH → Prop} (hav : (lg_sl av).length ≤ 3) (body : ∀ X : xX, X.l = l → X.D = D → X.P = P → xAll X (tb_Lw_select X) → xG X 0 (lv_args 0 av) [] h mc ms) : xMet l D 12 y_Lw_select av h mc ms P :=
  xMet.ofH (by decide) w_1074 hav (fun X h1 h2 h3 _ _ hC hr hnh hin => body X h1 h2 h3 (tk_Lw_select hC hr (tb1 hnh) hin))
def tb_Lw_found (X : xX) : List (Nat × xOp) := [(0, o_ald 2 1),
  (1, o_ic 0 2),
  (2, o_ald 0 3),
  (3, o_ild 1 4),
  (4, o_callVC X.l X.D [(14, 12)] 0 6 2 y_Sc_found 7),
  (7, o_i2l 8),
  (8, o_last 2 9),
  (9, o_goto 15),
  (12, o_ast 3 13),
  (13, o_ic 1 14),
  (14, o_iret X.P),
  (15, o_ic 0 16),
  (16, o_iret X.P)]
theorem tk_Lw_found {X : xX} (hC : xCx X method_10_code "StyleCourtLaw" 4 7) (hr : X.meth.sig.returnType = (some .int)) (hnh : X.c.exceptionTable.toList = [⟨0, 9, 12, 13⟩]) (hin : X.meth.name = "found") : xAll X (tb_Lw_found X) := by
  refine xA (ok_aload_n hC (show decode method_10_code 0 = .ok (.aload_n 2, 1) by decide +kernel) rfl) ?_
  refine xA (ok_iconst hC (show decode method_10_code 1 = .ok (.iconst 0, 1) by decide +kernel) (by decide)) ?_
  refine xA (ok_aload_n hC (show decode method_10_code 2 = .ok (.aload_n 0, 1) by decide +kernel) rfl) ?_
  refine xA (ok_iload_n hC (show decode method_10_code 3 = .ok (.iload_n 1, 1) by decide +kernel) rfl) ?_
  refine xA (ok_callVC hC (x_Ct1 hC (x := ⟨0, 9, 12, 13⟩) (c1 := 14) (r1 := ("java/lang/IndexOutOfBoundsException", xF14, 0)) hnh rfl (by decide) rfl w_459) (show decode method_10_code 4 = .ok (.invokevirtual 39, 3) by decide +kernel) (by decide) (by decide) (by decide) (r0 := ("StyleCourt", xF0, 12)) rfl ⟨by decide, by decide, by decide +kernel⟩ w_1089 w_69 w_1086 w_1087 w_1088) ?_
  refine xA (ok_i2l hC (show decode method_10_code 7 = .ok (.i2l, 1) by decide +kernel)) ?_
  refine xA (ok_last hC (show decode method_10_code 8 = .ok (.lastore, 1) by decide +kernel) (by decide) rfl) ?_
  refine xA (ok_goto hC (show decode method_10_code 9 = .ok (.goto 6, 3) by decide +kernel) (by decide)) ?_
  refine xA (ok_astore_n hC (show decode method_10_code 12 = .ok (.astore_n 3, 1) by decide +kernel) rfl (by decide)) ?_
  refine xA (ok_iconst hC (show decode method_10_code 13 = .ok (.iconst 1, 1) by decide +kernel) (by decide)) ?_
  refine xA (ok_iret hC hr (show decode method_10_code 14 = .ok (.ireturn, 1) by decide +kernel)) ?_
  refine xA (ok_iconst hC (show decode method_10_code 15 = .ok (.iconst 0, 1) by decide +kernel) (by decide)) ?_
  refine xA (ok_iret hC hr (show decode method_10_code 16 = .ok (.ireturn, 1) by decide +kernel)) ?_
  exact trivial
theorem m_Lw_found {l : Launch} {D : xD} {av : List Value} {h : xH} {mc ms : Nat} {P : xO → xH → Prop} (hav : (lg_sl av).length ≤ 4) (body : ∀ X : xX, X.l = l → X.D = D → X.P = P → xAll X (tb_Lw_found X) → xG X 0 (lv_args 0 av) [] h mc ms) : xMet l D 7 y_Lw_found av h mc ms P :=
  xMet.ofH (by decide) w_1085 hav (fun X h1 h2 h3 _ _ hC hr hnh hin => body X h1 h2 h3 (tk_Lw_found hC hr (tb1 hnh) hin))
def tb_Lw_fits (X : xX) : List (Nat × xOp) := [(0, o_ald 3 1),
  (1, o_ic 0 2),
  (2, o_ald 0 3),
  (3, o_ild 1 4),
  (4, o_ild 2 5),
  (5, o_callVC X.l X.D [(15, 13)] 0 7 3 y_Sc_fits 8),
  (8, o_i2l 9),
  (9, o_last 2 10),
  (10, o_goto 17),
  (13, o_ast 4 15),
  (15, o_ic 1 16),
  (16, o_iret X.P),
  (17, o_ic 0 18),
  (18, o_iret X.P)]
theorem tk_Lw_fits {X : xX} (hC : xCx X method_11_code "StyleCourtLaw" 5 8) (hr : X.meth.sig.returnType = (some .int)) (hnh : X.c.exceptionTable.toList = [⟨0, 10, 13, 19⟩]) (hin : X.meth.name = "fits") : xAll X (tb_Lw_fits X) := by
  refine xA (ok_aload_n hC (show decode method_11_code 0 = .ok (.aload_n 3, 1) by decide +kernel) rfl) ?_
  refine xA (ok_iconst hC (show decode method_11_code 1 = .ok (.iconst 0, 1) by decide +kernel) (by decide)) ?_
  refine xA (ok_aload_n hC (show decode method_11_code 2 = .ok (.aload_n 0, 1) by decide +kernel) rfl) ?_
  refine xA (ok_iload_n hC (show decode method_11_code 3 = .ok (.iload_n 1, 1) by decide +kernel) rfl) ?_
  refine xA (ok_iload_n hC (show decode method_11_code 4 = .ok (.iload_n 2, 1) by decide +kernel) rfl) ?_
  refine xA (ok_callVC hC (x_Ct1 hC (x := ⟨0, 10, 13, 19⟩) (c1 := 15) (r1 := ("java/lang/IllegalArgumentException", xF15, 0)) hnh rfl (by decide) rfl w_538) (show decode method_11_code 5 = .ok (.invokevirtual 42, 3) by decide +kernel) (by decide) (by decide) (by decide) (r0 := ("StyleCourt", xF0, 12)) rfl ⟨by decide, by decide, by decide +kernel⟩ w_1097 w_69 w_1094 w_1095 w_1096) ?_
  refine xA (ok_i2l hC (show decode method_11_code 8 = .ok (.i2l, 1) by decide +kernel)) ?_
  refine xA (ok_last hC (show decode method_11_code 9 = .ok (.lastore, 1) by decide +kernel) (by decide) rfl) ?_
  refine xA (ok_goto hC (show decode method_11_code 10 = .ok (.goto 7, 3) by decide +kernel) (by decide)) ?_
  refine xA (ok_astore hC (show decode method_11_code 13 = .ok (.astore 4, 2) by decide +kernel) (by decide)) ?_
  refine xA (ok_iconst hC (show decode method_11_code 15 = .ok (.iconst 1, 1) by decide +kernel) (by decide)) ?_
  refine xA (ok_iret hC hr (show decode method_11_code 16 = .ok (.ireturn, 1) by decide +kernel)) ?_
  refine xA (ok_iconst hC (show decode method_11_code 17 = .ok (.iconst 0, 1) by decide +kernel) (by decide)) ?_
  refine xA (ok_iret hC hr (show decode method_11_code 18 = .ok (.ireturn, 1) by decide +kernel)) ?_
  exact trivial
theorem m_Lw_fits {l : Launch} {D : xD} {av : List Value} {h : xH} {mc ms : Nat} {P : xO → xH → Prop} (hav : (lg_sl av).length ≤ 5) (body : ∀ X : xX, X.l = l → X.D = D → X.P = P → xAll X (tb_Lw_fits X) → xG X 0 (lv_args 0 av) [] h mc ms) : xMet l D 8 y_Lw_fits av h mc ms P :=
  xMet.ofH (by decide) w_1093 hav (fun X h1 h2 h3 _ _ hC hr hnh hin => body X h1 h2 h3 (tk_Lw_fits hC hr (tb1 hnh) hin))
def tb_Lw_element (X : xX) : List (Nat × xOp) := [(0, o_ald 3 1),
  (1, o_ic 0 2),
  (2, o_ald 0 3),
  (3, o_ild 1 4),
  (4, o_ild 2 5),
  (5, o_callVC X.l X.D [(15, 13)] 0 7 3 y_Sc_element 8),
  (8, o_i2l 9),
  (9, o_last 2 10),
  (10, o_goto 17),
  (13, o_ast 4 15),
  (15, o_ic 1 16),
  (16, o_iret X.P),
  (17, o_ic 0 18),
  (18, o_iret X.P)]
theorem tk_Lw_element {X : xX} (hC : xCx X method_12_code "StyleCourtLaw" 5 8) (hr : X.meth.sig.returnType = (some .int)) (hnh : X.c.exceptionTable.toList = [⟨0, 10, 13, 19⟩]) (hin : X.meth.name = "element") : xAll X (tb_Lw_element X) := by
  refine xA (ok_aload_n hC (show decode method_12_code 0 = .ok (.aload_n 3, 1) by decide +kernel) rfl) ?_
  refine xA (ok_iconst hC (show decode method_12_code 1 = .ok (.iconst 0, 1) by decide +kernel) (by decide)) ?_
  refine xA (ok_aload_n hC (show decode method_12_code 2 = .ok (.aload_n 0, 1) by decide +kernel) rfl) ?_
  refine xA (ok_iload_n hC (show decode method_12_code 3 = .ok (.iload_n 1, 1) by decide +kernel) rfl) ?_
  refine xA (ok_iload_n hC (show decode method_12_code 4 = .ok (.iload_n 2, 1) by decide +kernel) rfl) ?_
  refine xA (ok_callVC hC (x_Ct1 hC (x := ⟨0, 10, 13, 19⟩) (c1 := 15) (r1 := ("java/lang/IllegalArgumentException", xF15, 0)) hnh rfl (by decide) rfl w_538) (show decode method_12_code 5 = .ok (.invokevirtual 46, 3) by decide +kernel) (by decide) (by decide) (by decide) (r0 := ("StyleCourt", xF0, 12)) rfl ⟨by decide, by decide, by decide +kernel⟩ w_1105 w_69 w_1102 w_1103 w_1104) ?_
  refine xA (ok_i2l hC (show decode method_12_code 8 = .ok (.i2l, 1) by decide +kernel)) ?_
  refine xA (ok_last hC (show decode method_12_code 9 = .ok (.lastore, 1) by decide +kernel) (by decide) rfl) ?_
  refine xA (ok_goto hC (show decode method_12_code 10 = .ok (.goto 7, 3) by decide +kernel) (by decide)) ?_
  refine xA (ok_astore hC (show decode method_12_code 13 = .ok (.astore 4, 2) by decide +kernel) (by decide)) ?_
  refine xA (ok_iconst hC (show decode method_12_code 15 = .ok (.iconst 1, 1) by decide +kernel) (by decide)) ?_
  refine xA (ok_iret hC hr (show decode method_12_code 16 = .ok (.ireturn, 1) by decide +kernel)) ?_
  refine xA (ok_iconst hC (show decode method_12_code 17 = .ok (.iconst 0, 1) by decide +kernel) (by decide)) ?_
  refine xA (ok_iret hC hr (show decode method_12_code 18 = .ok (.ireturn, 1) by decide +kernel)) ?_
  exact trivial
theorem m_Lw_element {l : Launch} {D : xD} {av : List Value} {h : xH} {mc ms : Nat} {P : xO → xH → Prop} (hav : (lg_sl av).length ≤ 5) (body : ∀ X : xX, X.l = l → X.D = D → X.P = P → xAll X (tb_Lw_element X) → xG X 0 (lv_args 0 av) [] h mc ms) : xMet l D 8 y_Lw_element av h mc ms P :=
  xMet.ofH (by decide) w_1101 hav (fun X h1 h2 h3 _ _ hC hr hnh hin => body X h1 h2 h3 (tk_Lw_element hC hr (tb1 hnh) hin))
def tb_Lw_tell (X : xX) : List (Nat × xOp) := [(0, o_ald 3 1),
  (1, o_ic 0 2),
  (2, o_ald 0 3),
  (3, o_ild 1 4),
  (4, o_ild 2 5),
  (5, o_callVC X.l X.D [(15, 13), (14, 17)] 0 7 3 y_Sc_tell 8),
  (8, o_i2l 9),
  (9, o_last 2 10),
  (10, o_goto 21),
  (13, o_ast 4 15),
  (15, o_ic 1 16),
  (16, o_iret X.P),
  (17, o_ast 4 19),
  (19, o_ic 2 20),
  (20, o_iret X.P),
  (21, o_ic 0 22),
  (22, o_iret X.P)]
theorem tk_Lw_tell {X : xX} (hC : xCx X method_13_code "StyleCourtLaw" 5 8) (hr : X.meth.sig.returnType = (some .int)) (hnh : X.c.exceptionTable.toList = [⟨0, 10, 13, 19⟩, ⟨0, 10, 17, 13⟩]) (hin : X.meth.name = "tell") : xAll X (tb_Lw_tell X) := by
  refine xA (ok_aload_n hC (show decode method_13_code 0 = .ok (.aload_n 3, 1) by decide +kernel) rfl) ?_
  refine xA (ok_iconst hC (show decode method_13_code 1 = .ok (.iconst 0, 1) by decide +kernel) (by decide)) ?_
  refine xA (ok_aload_n hC (show decode method_13_code 2 = .ok (.aload_n 0, 1) by decide +kernel) rfl) ?_
  refine xA (ok_iload_n hC (show decode method_13_code 3 = .ok (.iload_n 1, 1) by decide +kernel) rfl) ?_
  refine xA (ok_iload_n hC (show decode method_13_code 4 = .ok (.iload_n 2, 1) by decide +kernel) rfl) ?_
  refine xA (ok_callVC hC (x_Ct2 hC (x := ⟨0, 10, 13, 19⟩) (x' := ⟨0, 10, 17, 13⟩) (r1 := ("java/lang/IllegalArgumentException", xF15, 0)) (r2 := ("java/lang/IndexOutOfBoundsException", xF14, 0)) hnh rfl (by decide) rfl (by decide) rfl rfl w_538 w_459) (show decode method_13_code 5 = .ok (.invokevirtual 49, 3) by decide +kernel) (by decide) (by decide) (by decide) (r0 := ("StyleCourt", xF0, 12)) rfl ⟨by decide, by decide, by decide +kernel⟩ w_1114 w_69 w_1111 w_1112 w_1113) ?_
  refine xA (ok_i2l hC (show decode method_13_code 8 = .ok (.i2l, 1) by decide +kernel)) ?_
  refine xA (ok_last hC (show decode method_13_code 9 = .ok (.lastore, 1) by decide +kernel) (by decide) rfl) ?_
  refine xA (ok_goto hC (show decode method_13_code 10 = .ok (.goto 11, 3) by decide +kernel) (by decide)) ?_
  refine xA (ok_astore hC (show decode method_13_code 13 = .ok (.astore 4, 2) by decide +kernel) (by decide)) ?_
  refine xA (ok_iconst hC (show decode method_13_code 15 = .ok (.iconst 1, 1) by decide +kernel) (by decide)) ?_
  refine xA (ok_iret hC hr (show decode method_13_code 16 = .ok (.ireturn, 1) by decide +kernel)) ?_
  refine xA (ok_astore hC (show decode method_13_code 17 = .ok (.astore 4, 2) by decide +kernel) (by decide)) ?_
  refine xA (ok_iconst hC (show decode method_13_code 19 = .ok (.iconst 2, 1) by decide +kernel) (by decide)) ?_
  refine xA (ok_iret hC hr (show decode method_13_code 20 = .ok (.ireturn, 1) by decide +kernel)) ?_
  refine xA (ok_iconst hC (show decode method_13_code 21 = .ok (.iconst 0, 1) by decide +kernel) (by decide)) ?_
  refine xA (ok_iret hC hr (show decode method_13_code 22 = .ok (.ireturn, 1) by decide +kernel)) ?_
  exact trivial
theorem m_Lw_tell {l : Launch} {D : xD} {av : List Value} {h : xH} {mc ms : Nat} {P : xO → xH → Prop} (hav : (lg_sl av).length ≤ 5) (body : ∀ X : xX, X.l = l → X.D = D → X.P = P → xAll X (tb_Lw_tell X) → xG X 0 (lv_args 0 av) [] h mc ms) : xMet l D 8 y_Lw_tell av h mc ms P :=
  xMet.ofH (by decide) w_1110 hav (fun X h1 h2 h3 _ _ hC hr hnh hin => body X h1 h2 h3 (tk_Lw_tell hC hr (tb2 hnh) hin))
def tb_Lw_word (X : xX) : List (Nat × xOp) := [(0, o_ald 2 1),
  (1, o_ic 0 2),
  (2, o_ald 0 3),
  (3, o_ild 1 4),
  (4, o_callVC X.l X.D [(14, 11)] 0 6 2 y_Sc_word 7),
  (7, o_last 2 8),
  (8, o_goto 14),
  (11, o_ast 3 12),
  (12, o_ic 1 13),
  (13, o_iret X.P),
  (14, o_ic 0 15),
  (15, o_iret X.P)]
theorem tk_Lw_word {X : xX} (hC : xCx X method_14_code "StyleCourtLaw" 4 7) (hr : X.meth.sig.returnType = (some .int)) (hnh : X.c.exceptionTable.toList = [⟨0, 8, 11, 13⟩]) (hin : X.meth.name = "word") : xAll X (tb_Lw_word X) := by
  refine xA (ok_aload_n hC (show decode method_14_code 0 = .ok (.aload_n 2, 1) by decide +kernel) rfl) ?_
  refine xA (ok_iconst hC (show decode method_14_code 1 = .ok (.iconst 0, 1) by decide +kernel) (by decide)) ?_
  refine xA (ok_aload_n hC (show decode method_14_code 2 = .ok (.aload_n 0, 1) by decide +kernel) rfl) ?_
  refine xA (ok_iload_n hC (show decode method_14_code 3 = .ok (.iload_n 1, 1) by decide +kernel) rfl) ?_
  refine xA (ok_callVC hC (x_Ct1 hC (x := ⟨0, 8, 11, 13⟩) (c1 := 14) (r1 := ("java/lang/IndexOutOfBoundsException", xF14, 0)) hnh rfl (by decide) rfl w_459) (show decode method_14_code 4 = .ok (.invokevirtual 52, 3) by decide +kernel) (by decide) (by decide) (by decide) (r0 := ("StyleCourt", xF0, 12)) rfl ⟨by decide, by decide, by decide +kernel⟩ w_1128 w_69 w_1125 w_1126 w_1127) ?_
  refine xA (ok_last hC (show decode method_14_code 7 = .ok (.lastore, 1) by decide +kernel) (by decide) rfl) ?_
  refine xA (ok_goto hC (show decode method_14_code 8 = .ok (.goto 6, 3) by decide +kernel) (by decide)) ?_
  refine xA (ok_astore_n hC (show decode method_14_code 11 = .ok (.astore_n 3, 1) by decide +kernel) rfl (by decide)) ?_
  refine xA (ok_iconst hC (show decode method_14_code 12 = .ok (.iconst 1, 1) by decide +kernel) (by decide)) ?_
  refine xA (ok_iret hC hr (show decode method_14_code 13 = .ok (.ireturn, 1) by decide +kernel)) ?_
  refine xA (ok_iconst hC (show decode method_14_code 14 = .ok (.iconst 0, 1) by decide +kernel) (by decide)) ?_
  refine xA (ok_iret hC hr (show decode method_14_code 15 = .ok (.ireturn, 1) by decide +kernel)) ?_
  exact trivial
theorem m_Lw_word {l : Launch} {D : xD} {av : List Value} {h : xH} {mc ms : Nat} {P : xO → xH → Prop} (hav : (lg_sl av).length ≤ 4) (body : ∀ X : xX, X.l = l → X.D = D → X.P = P → xAll X (tb_Lw_word X) → xG X 0 (lv_args 0 av) [] h mc ms) : xMet l D 7 y_Lw_word av h mc ms P :=
  xMet.ofH (by decide) w_1124 hav (fun X h1 h2 h3 _ _ hC hr hnh hin => body X h1 h2 h3 (tk_Lw_word hC hr (tb1 hnh) hin))
def tb_Lw_count (X : xX) : List (Nat × xOp) := [(0, o_ald 2 1),
  (1, o_ic 0 2),
  (2, o_ald 0 3),
  (3, o_ild 1 4),
  (4, o_callVC X.l X.D [(15, 12)] 0 6 2 y_Sc_count 7),
  (7, o_i2l 8),
  (8, o_last 2 9),
  (9, o_goto 15),
  (12, o_ast 3 13),
  (13, o_ic 1 14),
  (14, o_iret X.P),
  (15, o_ic 0 16),
  (16, o_iret X.P)]
theorem tk_Lw_count {X : xX} (hC : xCx X method_15_code "StyleCourtLaw" 4 7) (hr : X.meth.sig.returnType = (some .int)) (hnh : X.c.exceptionTable.toList = [⟨0, 9, 12, 19⟩]) (hin : X.meth.name = "count") : xAll X (tb_Lw_count X) := by
  refine xA (ok_aload_n hC (show decode method_15_code 0 = .ok (.aload_n 2, 1) by decide +kernel) rfl) ?_
  refine xA (ok_iconst hC (show decode method_15_code 1 = .ok (.iconst 0, 1) by decide +kernel) (by decide)) ?_
  refine xA (ok_aload_n hC (show decode method_15_code 2 = .ok (.aload_n 0, 1) by decide +kernel) rfl) ?_
  refine xA (ok_iload_n hC (show decode method_15_code 3 = .ok (.iload_n 1, 1) by decide +kernel) rfl) ?_
  refine xA (ok_callVC hC (x_Ct1 hC (x := ⟨0, 9, 12, 19⟩) (c1 := 15) (r1 := ("java/lang/IllegalArgumentException", xF15, 0)) hnh rfl (by decide) rfl w_538) (show decode method_15_code 4 = .ok (.invokevirtual 56, 3) by decide +kernel) (by decide) (by decide) (by decide) (r0 := ("StyleCourt", xF0, 12)) rfl ⟨by decide, by decide, by decide +kernel⟩ w_1136 w_69 w_1133 w_1134 w_1135) ?_
  refine xA (ok_i2l hC (show decode method_15_code 7 = .ok (.i2l, 1) by decide +kernel)) ?_
  refine xA (ok_last hC (show decode method_15_code 8 = .ok (.lastore, 1) by decide +kernel) (by decide) rfl) ?_
  refine xA (ok_goto hC (show decode method_15_code 9 = .ok (.goto 6, 3) by decide +kernel) (by decide)) ?_
  refine xA (ok_astore_n hC (show decode method_15_code 12 = .ok (.astore_n 3, 1) by decide +kernel) rfl (by decide)) ?_
  refine xA (ok_iconst hC (show decode method_15_code 13 = .ok (.iconst 1, 1) by decide +kernel) (by decide)) ?_
  refine xA (ok_iret hC hr (show decode method_15_code 14 = .ok (.ireturn, 1) by decide +kernel)) ?_
  refine xA (ok_iconst hC (show decode method_15_code 15 = .ok (.iconst 0, 1) by decide +kernel) (by decide)) ?_
  refine xA (ok_iret hC hr (show decode method_15_code 16 = .ok (.ireturn, 1) by decide +kernel)) ?_
  exact trivial
theorem m_Lw_count {l : Launch} {D : xD} {av : List Value} {h : xH} {mc ms : Nat} {P : xO → xH → Prop} (hav : (lg_sl av).length ≤ 4) (body : ∀ X : xX, X.l = l → X.D = D → X.P = P → xAll X (tb_Lw_count X) → xG X 0 (lv_args 0 av) [] h mc ms) : xMet l D 7 y_Lw_count av h mc ms P :=
  xMet.ofH (by decide) w_1132 hav (fun X h1 h2 h3 _ _ hC hr hnh hin => body X h1 h2 h3 (tk_Lw_count hC hr (tb1 hnh) hin))
