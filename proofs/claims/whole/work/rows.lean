section
-- ===== PART A: goes FIRST, ahead of the names: the tables' words, and 'selects' of the private methods out of them =====
/-- a private method of a class that the tables say can be made, by its rows of tables_1 -/
def lw_okq (q : MethodName × Nat) : Prop := (q.1.cls ≠ "java/lang/invoke/MethodHandle" ∧ q.1.cls ≠ "java/lang/invoke/VarHandle") ∧ Cond.instantiable q.1.cls q.2 ∈ tables_1 ∧ Cond.privateMethod q.1 ∈ tables_1 ∧ Cond.instanceMethod q.1 ∈ tables_1
theorem lw_p0 : lw_okq (⟨"java/util/ArrayList", "add", "(Ljava/lang/Object;[Ljava/lang/Object;I)V"⟩, 3) := ⟨⟨by decide +kernel, by decide +kernel⟩, List.mem_of_getElem? (i := 93) (by decide +kernel), List.mem_of_getElem? (i := 249) (by decide +kernel), List.mem_of_getElem? (i := 250) (by decide +kernel)⟩
theorem lw_p1 : lw_okq (⟨"java/util/ArrayList", "grow", "()[Ljava/lang/Object;"⟩, 3) := ⟨⟨by decide +kernel, by decide +kernel⟩, List.mem_of_getElem? (i := 93) (by decide +kernel), List.mem_of_getElem? (i := 253) (by decide +kernel), List.mem_of_getElem? (i := 254) (by decide +kernel)⟩
theorem lw_p2 : lw_okq (⟨"java/util/ArrayList", "grow", "(I)[Ljava/lang/Object;"⟩, 3) := ⟨⟨by decide +kernel, by decide +kernel⟩, List.mem_of_getElem? (i := 93) (by decide +kernel), List.mem_of_getElem? (i := 257) (by decide +kernel), List.mem_of_getElem? (i := 258) (by decide +kernel)⟩
theorem lw_p3 : lw_okq (⟨"java/lang/Throwable", "fillInStackTrace", "(I)Ljava/lang/Throwable;"⟩, 6) := ⟨⟨by decide +kernel, by decide +kernel⟩, List.mem_of_getElem? (i := 435) (by decide +kernel), List.mem_of_getElem? (i := 433) (by decide +kernel), List.mem_of_getElem? (i := 434) (by decide +kernel)⟩
theorem lw_p4 : lw_okq (⟨"StyleCourt", "putOnTape", "(I)V"⟩, 12) := ⟨⟨by decide +kernel, by decide +kernel⟩, List.mem_of_getElem? (i := 33) (by decide +kernel), List.mem_of_getElem? (i := 464) (by decide +kernel), List.mem_of_getElem? (i := 465) (by decide +kernel)⟩
theorem lw_p5 : lw_okq (⟨"StyleCourt", "takeTape", "()LStyleCourt$Reader;"⟩, 12) := ⟨⟨by decide +kernel, by decide +kernel⟩, List.mem_of_getElem? (i := 33) (by decide +kernel), List.mem_of_getElem? (i := 500) (by decide +kernel), List.mem_of_getElem? (i := 501) (by decide +kernel)⟩
theorem lw_p6 : lw_okq (⟨"StyleCourt$Source", "readMarkup", "(LStyleCourt$Reader;I)V"⟩, 5) := ⟨⟨by decide +kernel, by decide +kernel⟩, List.mem_of_getElem? (i := 87) (by decide +kernel), List.mem_of_getElem? (i := 513) (by decide +kernel), List.mem_of_getElem? (i := 514) (by decide +kernel)⟩
theorem lw_p7 : lw_okq (⟨"StyleCourt$Source", "readEndOfElement", "(LStyleCourt$Reader;)V"⟩, 5) := ⟨⟨by decide +kernel, by decide +kernel⟩, List.mem_of_getElem? (i := 87) (by decide +kernel), List.mem_of_getElem? (i := 517) (by decide +kernel), List.mem_of_getElem? (i := 518) (by decide +kernel)⟩
theorem lw_p8 : lw_okq (⟨"StyleCourt$Source", "finish", "(LStyleCourt$Element;I)V"⟩, 5) := ⟨⟨by decide +kernel, by decide +kernel⟩, List.mem_of_getElem? (i := 87) (by decide +kernel), List.mem_of_getElem? (i := 570) (by decide +kernel), List.mem_of_getElem? (i := 571) (by decide +kernel)⟩
theorem lw_p9 : lw_okq (⟨"StyleCourt$Source", "readBeginOfElement", "(LStyleCourt$Reader;I)V"⟩, 5) := ⟨⟨by decide +kernel, by decide +kernel⟩, List.mem_of_getElem? (i := 87) (by decide +kernel), List.mem_of_getElem? (i := 578) (by decide +kernel), List.mem_of_getElem? (i := 579) (by decide +kernel)⟩
theorem lw_p10 : lw_okq (⟨"StyleCourt$Source", "readFields", "(LStyleCourt$Reader;LStyleCourt$Element;)V"⟩, 5) := ⟨⟨by decide +kernel, by decide +kernel⟩, List.mem_of_getElem? (i := 87) (by decide +kernel), List.mem_of_getElem? (i := 582) (by decide +kernel), List.mem_of_getElem? (i := 583) (by decide +kernel)⟩
theorem lw_p11 : lw_okq (⟨"StyleCourt$Reader", "commentEndsHere", "()Z"⟩, 3) := ⟨⟨by decide +kernel, by decide +kernel⟩, List.mem_of_getElem? (i := 41) (by decide +kernel), List.mem_of_getElem? (i := 623) (by decide +kernel), List.mem_of_getElem? (i := 624) (by decide +kernel)⟩
theorem lw_p12 : lw_okq (⟨"StyleCourt$Source", "readEntity", "(LStyleCourt$Reader;)V"⟩, 5) := ⟨⟨by decide +kernel, by decide +kernel⟩, List.mem_of_getElem? (i := 87) (by decide +kernel), List.mem_of_getElem? (i := 627) (by decide +kernel), List.mem_of_getElem? (i := 628) (by decide +kernel)⟩
theorem lw_p13 : lw_okq (⟨"StyleCourt$Source", "readReference", "(LStyleCourt$Reader;)V"⟩, 5) := ⟨⟨by decide +kernel, by decide +kernel⟩, List.mem_of_getElem? (i := 87) (by decide +kernel), List.mem_of_getElem? (i := 635) (by decide +kernel), List.mem_of_getElem? (i := 636) (by decide +kernel)⟩
theorem lw_p14 : lw_okq (⟨"StyleCourt$Source", "addText", "(LStyleCourt$Slice;)V"⟩, 5) := ⟨⟨by decide +kernel, by decide +kernel⟩, List.mem_of_getElem? (i := 87) (by decide +kernel), List.mem_of_getElem? (i := 639) (by decide +kernel), List.mem_of_getElem? (i := 640) (by decide +kernel)⟩
theorem lw_p15 : lw_okq (⟨"StyleCourt$Source", "readText", "(LStyleCourt$Reader;)V"⟩, 5) := ⟨⟨by decide +kernel, by decide +kernel⟩, List.mem_of_getElem? (i := 87) (by decide +kernel), List.mem_of_getElem? (i := 643) (by decide +kernel), List.mem_of_getElem? (i := 644) (by decide +kernel)⟩
def lw_privs_1 : List (MethodName × Nat) := [(⟨"java/util/ArrayList", "add", "(Ljava/lang/Object;[Ljava/lang/Object;I)V"⟩, 3), (⟨"java/util/ArrayList", "grow", "()[Ljava/lang/Object;"⟩, 3), (⟨"java/util/ArrayList", "grow", "(I)[Ljava/lang/Object;"⟩, 3), (⟨"java/lang/Throwable", "fillInStackTrace", "(I)Ljava/lang/Throwable;"⟩, 6), (⟨"StyleCourt", "putOnTape", "(I)V"⟩, 12), (⟨"StyleCourt", "takeTape", "()LStyleCourt$Reader;"⟩, 12), (⟨"StyleCourt$Source", "readMarkup", "(LStyleCourt$Reader;I)V"⟩, 5), (⟨"StyleCourt$Source", "readEndOfElement", "(LStyleCourt$Reader;)V"⟩, 5), (⟨"StyleCourt$Source", "finish", "(LStyleCourt$Element;I)V"⟩, 5), (⟨"StyleCourt$Source", "readBeginOfElement", "(LStyleCourt$Reader;I)V"⟩, 5), (⟨"StyleCourt$Source", "readFields", "(LStyleCourt$Reader;LStyleCourt$Element;)V"⟩, 5), (⟨"StyleCourt$Reader", "commentEndsHere", "()Z"⟩, 3), (⟨"StyleCourt$Source", "readEntity", "(LStyleCourt$Reader;)V"⟩, 5), (⟨"StyleCourt$Source", "readReference", "(LStyleCourt$Reader;)V"⟩, 5), (⟨"StyleCourt$Source", "addText", "(LStyleCourt$Slice;)V"⟩, 5), (⟨"StyleCourt$Source", "readText", "(LStyleCourt$Reader;)V"⟩, 5)]
theorem lw_r1 : ∀ q ∈ lw_privs_1, lw_okq q := List.forall_mem_cons.mpr ⟨lw_p0, List.forall_mem_cons.mpr ⟨lw_p1, List.forall_mem_cons.mpr ⟨lw_p2, List.forall_mem_cons.mpr ⟨lw_p3, List.forall_mem_cons.mpr ⟨lw_p4, List.forall_mem_cons.mpr ⟨lw_p5, List.forall_mem_cons.mpr ⟨lw_p6, List.forall_mem_cons.mpr ⟨lw_p7, List.forall_mem_cons.mpr ⟨lw_p8, List.forall_mem_cons.mpr ⟨lw_p9, List.forall_mem_cons.mpr ⟨lw_p10, List.forall_mem_cons.mpr ⟨lw_p11, List.forall_mem_cons.mpr ⟨lw_p12, List.forall_mem_cons.mpr ⟨lw_p13, List.forall_mem_cons.mpr ⟨lw_p14, List.forall_mem_cons.mpr ⟨lw_p15, fun _ h => absurd h List.not_mem_nil⟩⟩⟩⟩⟩⟩⟩⟩⟩⟩⟩⟩⟩⟩⟩⟩
theorem lw_p16 : lw_okq (⟨"StyleCourt$Style", "readTold", "(LStyleCourt$Reader;)LStyleCourt$Told;"⟩, 4) := ⟨⟨by decide +kernel, by decide +kernel⟩, List.mem_of_getElem? (i := 323) (by decide +kernel), List.mem_of_getElem? (i := 837) (by decide +kernel), List.mem_of_getElem? (i := 838) (by decide +kernel)⟩
theorem lw_p17 : lw_okq (⟨"StyleCourt$Told", "readAmount", "(LStyleCourt$Reader;)V"⟩, 7) := ⟨⟨by decide +kernel, by decide +kernel⟩, List.mem_of_getElem? (i := 849) (by decide +kernel), List.mem_of_getElem? (i := 892) (by decide +kernel), List.mem_of_getElem? (i := 893) (by decide +kernel)⟩
theorem lw_p18 : lw_okq (⟨"StyleCourt", "takeName", "()LStyleCourt$Slice;"⟩, 12) := ⟨⟨by decide +kernel, by decide +kernel⟩, List.mem_of_getElem? (i := 33) (by decide +kernel), List.mem_of_getElem? (i := 906) (by decide +kernel), List.mem_of_getElem? (i := 907) (by decide +kernel)⟩
theorem lw_p19 : lw_okq (⟨"StyleCourt", "elementAt", "(I)LStyleCourt$Element;"⟩, 12) := ⟨⟨by decide +kernel, by decide +kernel⟩, List.mem_of_getElem? (i := 33) (by decide +kernel), List.mem_of_getElem? (i := 912) (by decide +kernel), List.mem_of_getElem? (i := 913) (by decide +kernel)⟩
theorem lw_p20 : lw_okq (⟨"StyleCourt$Condition", "holdsForField", "(LStyleCourt$Named;)Z"⟩, 4) := ⟨⟨by decide +kernel, by decide +kernel⟩, List.mem_of_getElem? (i := 733) (by decide +kernel), List.mem_of_getElem? (i := 957) (by decide +kernel), List.mem_of_getElem? (i := 958) (by decide +kernel)⟩
theorem lw_p21 : lw_okq (⟨"StyleCourt", "putValue", "(LStyleCourt$Told;I)I"⟩, 12) := ⟨⟨by decide +kernel, by decide +kernel⟩, List.mem_of_getElem? (i := 33) (by decide +kernel), List.mem_of_getElem? (i := 974) (by decide +kernel), List.mem_of_getElem? (i := 975) (by decide +kernel)⟩
theorem lw_p22 : lw_okq (⟨"StyleCourt", "putSlice", "(LStyleCourt$Slice;)I"⟩, 12) := ⟨⟨by decide +kernel, by decide +kernel⟩, List.mem_of_getElem? (i := 33) (by decide +kernel), List.mem_of_getElem? (i := 978) (by decide +kernel), List.mem_of_getElem? (i := 979) (by decide +kernel)⟩
theorem lw_p23 : lw_okq (⟨"StyleCourt", "putNumber", "(I)V"⟩, 12) := ⟨⟨by decide +kernel, by decide +kernel⟩, List.mem_of_getElem? (i := 33) (by decide +kernel), List.mem_of_getElem? (i := 994) (by decide +kernel), List.mem_of_getElem? (i := 995) (by decide +kernel)⟩
theorem lw_p24 : lw_okq (⟨"StyleCourt", "putTexts", "(LStyleCourt$Element;)I"⟩, 12) := ⟨⟨by decide +kernel, by decide +kernel⟩, List.mem_of_getElem? (i := 33) (by decide +kernel), List.mem_of_getElem? (i := 1049) (by decide +kernel), List.mem_of_getElem? (i := 1050) (by decide +kernel)⟩
theorem lw_p25 : lw_okq (⟨"StyleCourtModel", "refuse", "(I)I"⟩, 85) := ⟨⟨by decide +kernel, by decide +kernel⟩, List.mem_of_getElem? (i := 1071) (by decide +kernel), List.mem_of_getElem? (i := 1343) (by decide +kernel), List.mem_of_getElem? (i := 1344) (by decide +kernel)⟩
theorem lw_p26 : lw_okq (⟨"StyleCourtModel", "four", "(I)V"⟩, 85) := ⟨⟨by decide +kernel, by decide +kernel⟩, List.mem_of_getElem? (i := 1071) (by decide +kernel), List.mem_of_getElem? (i := 1347) (by decide +kernel), List.mem_of_getElem? (i := 1348) (by decide +kernel)⟩
theorem lw_p27 : lw_okq (⟨"StyleCourtModel", "take", "(I)V"⟩, 85) := ⟨⟨by decide +kernel, by decide +kernel⟩, List.mem_of_getElem? (i := 1071) (by decide +kernel), List.mem_of_getElem? (i := 1362) (by decide +kernel), List.mem_of_getElem? (i := 1363) (by decide +kernel)⟩
theorem lw_p28 : lw_okq (⟨"StyleCourtModel", "readSource", "()V"⟩, 85) := ⟨⟨by decide +kernel, by decide +kernel⟩, List.mem_of_getElem? (i := 1071) (by decide +kernel), List.mem_of_getElem? (i := 1366) (by decide +kernel), List.mem_of_getElem? (i := 1367) (by decide +kernel)⟩
theorem lw_p29 : lw_okq (⟨"StyleCourtModel", "byteAt", "(I)I"⟩, 85) := ⟨⟨by decide +kernel, by decide +kernel⟩, List.mem_of_getElem? (i := 1071) (by decide +kernel), List.mem_of_getElem? (i := 1370) (by decide +kernel), List.mem_of_getElem? (i := 1371) (by decide +kernel)⟩
theorem lw_p30 : lw_okq (⟨"StyleCourtModel", "closed", "(I)I"⟩, 85) := ⟨⟨by decide +kernel, by decide +kernel⟩, List.mem_of_getElem? (i := 1071) (by decide +kernel), List.mem_of_getElem? (i := 1374) (by decide +kernel), List.mem_of_getElem? (i := 1375) (by decide +kernel)⟩
theorem lw_p31 : lw_okq (⟨"StyleCourtModel", "wrong", "(I)V"⟩, 85) := ⟨⟨by decide +kernel, by decide +kernel⟩, List.mem_of_getElem? (i := 1071) (by decide +kernel), List.mem_of_getElem? (i := 1378) (by decide +kernel), List.mem_of_getElem? (i := 1379) (by decide +kernel)⟩
def lw_privs_2 : List (MethodName × Nat) := [(⟨"StyleCourt$Style", "readTold", "(LStyleCourt$Reader;)LStyleCourt$Told;"⟩, 4), (⟨"StyleCourt$Told", "readAmount", "(LStyleCourt$Reader;)V"⟩, 7), (⟨"StyleCourt", "takeName", "()LStyleCourt$Slice;"⟩, 12), (⟨"StyleCourt", "elementAt", "(I)LStyleCourt$Element;"⟩, 12), (⟨"StyleCourt$Condition", "holdsForField", "(LStyleCourt$Named;)Z"⟩, 4), (⟨"StyleCourt", "putValue", "(LStyleCourt$Told;I)I"⟩, 12), (⟨"StyleCourt", "putSlice", "(LStyleCourt$Slice;)I"⟩, 12), (⟨"StyleCourt", "putNumber", "(I)V"⟩, 12), (⟨"StyleCourt", "putTexts", "(LStyleCourt$Element;)I"⟩, 12), (⟨"StyleCourtModel", "refuse", "(I)I"⟩, 85), (⟨"StyleCourtModel", "four", "(I)V"⟩, 85), (⟨"StyleCourtModel", "take", "(I)V"⟩, 85), (⟨"StyleCourtModel", "readSource", "()V"⟩, 85), (⟨"StyleCourtModel", "byteAt", "(I)I"⟩, 85), (⟨"StyleCourtModel", "closed", "(I)I"⟩, 85), (⟨"StyleCourtModel", "wrong", "(I)V"⟩, 85)]
theorem lw_r2 : ∀ q ∈ lw_privs_2, lw_okq q := List.forall_mem_cons.mpr ⟨lw_p16, List.forall_mem_cons.mpr ⟨lw_p17, List.forall_mem_cons.mpr ⟨lw_p18, List.forall_mem_cons.mpr ⟨lw_p19, List.forall_mem_cons.mpr ⟨lw_p20, List.forall_mem_cons.mpr ⟨lw_p21, List.forall_mem_cons.mpr ⟨lw_p22, List.forall_mem_cons.mpr ⟨lw_p23, List.forall_mem_cons.mpr ⟨lw_p24, List.forall_mem_cons.mpr ⟨lw_p25, List.forall_mem_cons.mpr ⟨lw_p26, List.forall_mem_cons.mpr ⟨lw_p27, List.forall_mem_cons.mpr ⟨lw_p28, List.forall_mem_cons.mpr ⟨lw_p29, List.forall_mem_cons.mpr ⟨lw_p30, List.forall_mem_cons.mpr ⟨lw_p31, fun _ h => absurd h List.not_mem_nil⟩⟩⟩⟩⟩⟩⟩⟩⟩⟩⟩⟩⟩⟩⟩⟩
theorem lw_p32 : lw_okq (⟨"StyleCourtModel", "nameFrom", "(I)I"⟩, 85) := ⟨⟨by decide +kernel, by decide +kernel⟩, List.mem_of_getElem? (i := 1071) (by decide +kernel), List.mem_of_getElem? (i := 1382) (by decide +kernel), List.mem_of_getElem? (i := 1383) (by decide +kernel)⟩
theorem lw_p33 : lw_okq (⟨"StyleCourtModel", "same", "(IIII)Z"⟩, 85) := ⟨⟨by decide +kernel, by decide +kernel⟩, List.mem_of_getElem? (i := 1071) (by decide +kernel), List.mem_of_getElem? (i := 1392) (by decide +kernel), List.mem_of_getElem? (i := 1393) (by decide +kernel)⟩
theorem lw_p34 : lw_okq (⟨"StyleCourtModel", "blanks", "()V"⟩, 85) := ⟨⟨by decide +kernel, by decide +kernel⟩, List.mem_of_getElem? (i := 1071) (by decide +kernel), List.mem_of_getElem? (i := 1396) (by decide +kernel), List.mem_of_getElem? (i := 1397) (by decide +kernel)⟩
theorem lw_p35 : lw_okq (⟨"StyleCourtModel", "comment", "()V"⟩, 85) := ⟨⟨by decide +kernel, by decide +kernel⟩, List.mem_of_getElem? (i := 1071) (by decide +kernel), List.mem_of_getElem? (i := 1403) (by decide +kernel), List.mem_of_getElem? (i := 1404) (by decide +kernel)⟩
theorem lw_p36 : lw_okq (⟨"StyleCourtModel", "defined", "()V"⟩, 85) := ⟨⟨by decide +kernel, by decide +kernel⟩, List.mem_of_getElem? (i := 1071) (by decide +kernel), List.mem_of_getElem? (i := 1407) (by decide +kernel), List.mem_of_getElem? (i := 1408) (by decide +kernel)⟩
theorem lw_p37 : lw_okq (⟨"StyleCourtModel", "isFixed", "(II)Z"⟩, 85) := ⟨⟨by decide +kernel, by decide +kernel⟩, List.mem_of_getElem? (i := 1071) (by decide +kernel), List.mem_of_getElem? (i := 1411) (by decide +kernel), List.mem_of_getElem? (i := 1412) (by decide +kernel)⟩
theorem lw_p38 : lw_okq (⟨"StyleCourtModel", "isWord", "(IIJ)Z"⟩, 85) := ⟨⟨by decide +kernel, by decide +kernel⟩, List.mem_of_getElem? (i := 1071) (by decide +kernel), List.mem_of_getElem? (i := 1416) (by decide +kernel), List.mem_of_getElem? (i := 1417) (by decide +kernel)⟩
theorem lw_p39 : lw_okq (⟨"StyleCourtModel", "entity", "(II)I"⟩, 85) := ⟨⟨by decide +kernel, by decide +kernel⟩, List.mem_of_getElem? (i := 1071) (by decide +kernel), List.mem_of_getElem? (i := 1421) (by decide +kernel), List.mem_of_getElem? (i := 1422) (by decide +kernel)⟩
theorem lw_p40 : lw_okq (⟨"StyleCourtModel", "stringFrom", "(I)I"⟩, 85) := ⟨⟨by decide +kernel, by decide +kernel⟩, List.mem_of_getElem? (i := 1071) (by decide +kernel), List.mem_of_getElem? (i := 1425) (by decide +kernel), List.mem_of_getElem? (i := 1426) (by decide +kernel)⟩
theorem lw_p41 : lw_okq (⟨"StyleCourtModel", "behindString", "(I)I"⟩, 85) := ⟨⟨by decide +kernel, by decide +kernel⟩, List.mem_of_getElem? (i := 1071) (by decide +kernel), List.mem_of_getElem? (i := 1429) (by decide +kernel), List.mem_of_getElem? (i := 1430) (by decide +kernel)⟩
theorem lw_p42 : lw_okq (⟨"StyleCourtModel", "opened", "(I)I"⟩, 85) := ⟨⟨by decide +kernel, by decide +kernel⟩, List.mem_of_getElem? (i := 1071) (by decide +kernel), List.mem_of_getElem? (i := 1433) (by decide +kernel), List.mem_of_getElem? (i := 1434) (by decide +kernel)⟩
theorem lw_p43 : lw_okq (⟨"StyleCourtModel", "field", "(I)V"⟩, 85) := ⟨⟨by decide +kernel, by decide +kernel⟩, List.mem_of_getElem? (i := 1071) (by decide +kernel), List.mem_of_getElem? (i := 1437) (by decide +kernel), List.mem_of_getElem? (i := 1438) (by decide +kernel)⟩
theorem lw_p44 : lw_okq (⟨"StyleCourtModel", "reference", "(I)V"⟩, 85) := ⟨⟨by decide +kernel, by decide +kernel⟩, List.mem_of_getElem? (i := 1071) (by decide +kernel), List.mem_of_getElem? (i := 1441) (by decide +kernel), List.mem_of_getElem? (i := 1442) (by decide +kernel)⟩
theorem lw_p45 : lw_okq (⟨"StyleCourtModel", "piece", "(III)V"⟩, 85) := ⟨⟨by decide +kernel, by decide +kernel⟩, List.mem_of_getElem? (i := 1071) (by decide +kernel), List.mem_of_getElem? (i := 1445) (by decide +kernel), List.mem_of_getElem? (i := 1446) (by decide +kernel)⟩
theorem lw_p46 : lw_okq (⟨"StyleCourtModel", "readStyle", "()V"⟩, 85) := ⟨⟨by decide +kernel, by decide +kernel⟩, List.mem_of_getElem? (i := 1071) (by decide +kernel), List.mem_of_getElem? (i := 1453) (by decide +kernel), List.mem_of_getElem? (i := 1454) (by decide +kernel)⟩
theorem lw_p47 : lw_okq (⟨"StyleCourtModel", "next", "()V"⟩, 85) := ⟨⟨by decide +kernel, by decide +kernel⟩, List.mem_of_getElem? (i := 1071) (by decide +kernel), List.mem_of_getElem? (i := 1457) (by decide +kernel), List.mem_of_getElem? (i := 1458) (by decide +kernel)⟩
def lw_privs_3 : List (MethodName × Nat) := [(⟨"StyleCourtModel", "nameFrom", "(I)I"⟩, 85), (⟨"StyleCourtModel", "same", "(IIII)Z"⟩, 85), (⟨"StyleCourtModel", "blanks", "()V"⟩, 85), (⟨"StyleCourtModel", "comment", "()V"⟩, 85), (⟨"StyleCourtModel", "defined", "()V"⟩, 85), (⟨"StyleCourtModel", "isFixed", "(II)Z"⟩, 85), (⟨"StyleCourtModel", "isWord", "(IIJ)Z"⟩, 85), (⟨"StyleCourtModel", "entity", "(II)I"⟩, 85), (⟨"StyleCourtModel", "stringFrom", "(I)I"⟩, 85), (⟨"StyleCourtModel", "behindString", "(I)I"⟩, 85), (⟨"StyleCourtModel", "opened", "(I)I"⟩, 85), (⟨"StyleCourtModel", "field", "(I)V"⟩, 85), (⟨"StyleCourtModel", "reference", "(I)V"⟩, 85), (⟨"StyleCourtModel", "piece", "(III)V"⟩, 85), (⟨"StyleCourtModel", "readStyle", "()V"⟩, 85), (⟨"StyleCourtModel", "next", "()V"⟩, 85)]
theorem lw_r3 : ∀ q ∈ lw_privs_3, lw_okq q := List.forall_mem_cons.mpr ⟨lw_p32, List.forall_mem_cons.mpr ⟨lw_p33, List.forall_mem_cons.mpr ⟨lw_p34, List.forall_mem_cons.mpr ⟨lw_p35, List.forall_mem_cons.mpr ⟨lw_p36, List.forall_mem_cons.mpr ⟨lw_p37, List.forall_mem_cons.mpr ⟨lw_p38, List.forall_mem_cons.mpr ⟨lw_p39, List.forall_mem_cons.mpr ⟨lw_p40, List.forall_mem_cons.mpr ⟨lw_p41, List.forall_mem_cons.mpr ⟨lw_p42, List.forall_mem_cons.mpr ⟨lw_p43, List.forall_mem_cons.mpr ⟨lw_p44, List.forall_mem_cons.mpr ⟨lw_p45, List.forall_mem_cons.mpr ⟨lw_p46, List.forall_mem_cons.mpr ⟨lw_p47, fun _ h => absurd h List.not_mem_nil⟩⟩⟩⟩⟩⟩⟩⟩⟩⟩⟩⟩⟩⟩⟩⟩
theorem lw_p48 : lw_okq (⟨"StyleCourtModel", "selector", "(I)V"⟩, 85) := ⟨⟨by decide +kernel, by decide +kernel⟩, List.mem_of_getElem? (i := 1071) (by decide +kernel), List.mem_of_getElem? (i := 1461) (by decide +kernel), List.mem_of_getElem? (i := 1462) (by decide +kernel)⟩
theorem lw_p49 : lw_okq (⟨"StyleCourtModel", "step", "(II)V"⟩, 85) := ⟨⟨by decide +kernel, by decide +kernel⟩, List.mem_of_getElem? (i := 1071) (by decide +kernel), List.mem_of_getElem? (i := 1465) (by decide +kernel), List.mem_of_getElem? (i := 1466) (by decide +kernel)⟩
theorem lw_p50 : lw_okq (⟨"StyleCourtModel", "isSign", "(I)Z"⟩, 85) := ⟨⟨by decide +kernel, by decide +kernel⟩, List.mem_of_getElem? (i := 1071) (by decide +kernel), List.mem_of_getElem? (i := 1469) (by decide +kernel), List.mem_of_getElem? (i := 1470) (by decide +kernel)⟩
theorem lw_p51 : lw_okq (⟨"StyleCourtModel", "bracket", "()V"⟩, 85) := ⟨⟨by decide +kernel, by decide +kernel⟩, List.mem_of_getElem? (i := 1071) (by decide +kernel), List.mem_of_getElem? (i := 1473) (by decide +kernel), List.mem_of_getElem? (i := 1474) (by decide +kernel)⟩
theorem lw_p52 : lw_okq (⟨"StyleCourtModel", "needKind", "(I)V"⟩, 85) := ⟨⟨by decide +kernel, by decide +kernel⟩, List.mem_of_getElem? (i := 1071) (by decide +kernel), List.mem_of_getElem? (i := 1477) (by decide +kernel), List.mem_of_getElem? (i := 1478) (by decide +kernel)⟩
theorem lw_p53 : lw_okq (⟨"StyleCourtModel", "need", "(I)V"⟩, 85) := ⟨⟨by decide +kernel, by decide +kernel⟩, List.mem_of_getElem? (i := 1071) (by decide +kernel), List.mem_of_getElem? (i := 1481) (by decide +kernel), List.mem_of_getElem? (i := 1482) (by decide +kernel)⟩
theorem lw_p54 : lw_okq (⟨"StyleCourtModel", "colon", "()V"⟩, 85) := ⟨⟨by decide +kernel, by decide +kernel⟩, List.mem_of_getElem? (i := 1071) (by decide +kernel), List.mem_of_getElem? (i := 1485) (by decide +kernel), List.mem_of_getElem? (i := 1486) (by decide +kernel)⟩
theorem lw_p55 : lw_okq (⟨"StyleCourtModel", "body", "(I)V"⟩, 85) := ⟨⟨by decide +kernel, by decide +kernel⟩, List.mem_of_getElem? (i := 1071) (by decide +kernel), List.mem_of_getElem? (i := 1494) (by decide +kernel), List.mem_of_getElem? (i := 1495) (by decide +kernel)⟩
theorem lw_p56 : lw_okq (⟨"StyleCourtModel", "known", "(II)I"⟩, 85) := ⟨⟨by decide +kernel, by decide +kernel⟩, List.mem_of_getElem? (i := 1071) (by decide +kernel), List.mem_of_getElem? (i := 1498) (by decide +kernel), List.mem_of_getElem? (i := 1499) (by decide +kernel)⟩
theorem lw_p57 : lw_okq (⟨"StyleCourtModel", "oneValue", "()V"⟩, 85) := ⟨⟨by decide +kernel, by decide +kernel⟩, List.mem_of_getElem? (i := 1071) (by decide +kernel), List.mem_of_getElem? (i := 1502) (by decide +kernel), List.mem_of_getElem? (i := 1503) (by decide +kernel)⟩
theorem lw_p58 : lw_okq (⟨"StyleCourtModel", "asked", "()I"⟩, 85) := ⟨⟨by decide +kernel, by decide +kernel⟩, List.mem_of_getElem? (i := 1071) (by decide +kernel), List.mem_of_getElem? (i := 1514) (by decide +kernel), List.mem_of_getElem? (i := 1515) (by decide +kernel)⟩
theorem lw_p59 : lw_okq (⟨"StyleCourtModel", "isThere", "(I)Z"⟩, 85) := ⟨⟨by decide +kernel, by decide +kernel⟩, List.mem_of_getElem? (i := 1071) (by decide +kernel), List.mem_of_getElem? (i := 1519) (by decide +kernel), List.mem_of_getElem? (i := 1520) (by decide +kernel)⟩
theorem lw_p60 : lw_okq (⟨"StyleCourtModel", "counts", "(II)I"⟩, 85) := ⟨⟨by decide +kernel, by decide +kernel⟩, List.mem_of_getElem? (i := 1071) (by decide +kernel), List.mem_of_getElem? (i := 1523) (by decide +kernel), List.mem_of_getElem? (i := 1524) (by decide +kernel)⟩
theorem lw_p61 : lw_okq (⟨"StyleCourtModel", "selectorFits", "(II)Z"⟩, 85) := ⟨⟨by decide +kernel, by decide +kernel⟩, List.mem_of_getElem? (i := 1071) (by decide +kernel), List.mem_of_getElem? (i := 1527) (by decide +kernel), List.mem_of_getElem? (i := 1528) (by decide +kernel)⟩
theorem lw_p62 : lw_okq (⟨"StyleCourtModel", "stepFits", "(II)Z"⟩, 85) := ⟨⟨by decide +kernel, by decide +kernel⟩, List.mem_of_getElem? (i := 1071) (by decide +kernel), List.mem_of_getElem? (i := 1531) (by decide +kernel), List.mem_of_getElem? (i := 1532) (by decide +kernel)⟩
theorem lw_p63 : lw_okq (⟨"StyleCourtModel", "isSo", "(II)Z"⟩, 85) := ⟨⟨by decide +kernel, by decide +kernel⟩, List.mem_of_getElem? (i := 1071) (by decide +kernel), List.mem_of_getElem? (i := 1535) (by decide +kernel), List.mem_of_getElem? (i := 1536) (by decide +kernel)⟩
def lw_privs_4 : List (MethodName × Nat) := [(⟨"StyleCourtModel", "selector", "(I)V"⟩, 85), (⟨"StyleCourtModel", "step", "(II)V"⟩, 85), (⟨"StyleCourtModel", "isSign", "(I)Z"⟩, 85), (⟨"StyleCourtModel", "bracket", "()V"⟩, 85), (⟨"StyleCourtModel", "needKind", "(I)V"⟩, 85), (⟨"StyleCourtModel", "need", "(I)V"⟩, 85), (⟨"StyleCourtModel", "colon", "()V"⟩, 85), (⟨"StyleCourtModel", "body", "(I)V"⟩, 85), (⟨"StyleCourtModel", "known", "(II)I"⟩, 85), (⟨"StyleCourtModel", "oneValue", "()V"⟩, 85), (⟨"StyleCourtModel", "asked", "()I"⟩, 85), (⟨"StyleCourtModel", "isThere", "(I)Z"⟩, 85), (⟨"StyleCourtModel", "counts", "(II)I"⟩, 85), (⟨"StyleCourtModel", "selectorFits", "(II)Z"⟩, 85), (⟨"StyleCourtModel", "stepFits", "(II)Z"⟩, 85), (⟨"StyleCourtModel", "isSo", "(II)Z"⟩, 85)]
theorem lw_r4 : ∀ q ∈ lw_privs_4, lw_okq q := List.forall_mem_cons.mpr ⟨lw_p48, List.forall_mem_cons.mpr ⟨lw_p49, List.forall_mem_cons.mpr ⟨lw_p50, List.forall_mem_cons.mpr ⟨lw_p51, List.forall_mem_cons.mpr ⟨lw_p52, List.forall_mem_cons.mpr ⟨lw_p53, List.forall_mem_cons.mpr ⟨lw_p54, List.forall_mem_cons.mpr ⟨lw_p55, List.forall_mem_cons.mpr ⟨lw_p56, List.forall_mem_cons.mpr ⟨lw_p57, List.forall_mem_cons.mpr ⟨lw_p58, List.forall_mem_cons.mpr ⟨lw_p59, List.forall_mem_cons.mpr ⟨lw_p60, List.forall_mem_cons.mpr ⟨lw_p61, List.forall_mem_cons.mpr ⟨lw_p62, List.forall_mem_cons.mpr ⟨lw_p63, fun _ h => absurd h List.not_mem_nil⟩⟩⟩⟩⟩⟩⟩⟩⟩⟩⟩⟩⟩⟩⟩⟩
theorem lw_p64 : lw_okq (⟨"StyleCourtModel", "fieldOf", "(III)I"⟩, 85) := ⟨⟨by decide +kernel, by decide +kernel⟩, List.mem_of_getElem? (i := 1071) (by decide +kernel), List.mem_of_getElem? (i := 1539) (by decide +kernel), List.mem_of_getElem? (i := 1540) (by decide +kernel)⟩
theorem lw_p65 : lw_okq (⟨"StyleCourtModel", "among", "(I)I"⟩, 85) := ⟨⟨by decide +kernel, by decide +kernel⟩, List.mem_of_getElem? (i := 1071) (by decide +kernel), List.mem_of_getElem? (i := 1543) (by decide +kernel), List.mem_of_getElem? (i := 1544) (by decide +kernel)⟩
theorem lw_p66 : lw_okq (⟨"StyleCourtModel", "sayNumber", "(J)V"⟩, 85) := ⟨⟨by decide +kernel, by decide +kernel⟩, List.mem_of_getElem? (i := 1071) (by decide +kernel), List.mem_of_getElem? (i := 1554) (by decide +kernel), List.mem_of_getElem? (i := 1555) (by decide +kernel)⟩
theorem lw_p67 : lw_okq (⟨"StyleCourtModel", "say", "(II)V"⟩, 85) := ⟨⟨by decide +kernel, by decide +kernel⟩, List.mem_of_getElem? (i := 1071) (by decide +kernel), List.mem_of_getElem? (i := 1561) (by decide +kernel), List.mem_of_getElem? (i := 1562) (by decide +kernel)⟩
def lw_privs_5 : List (MethodName × Nat) := [(⟨"StyleCourtModel", "fieldOf", "(III)I"⟩, 85), (⟨"StyleCourtModel", "among", "(I)I"⟩, 85), (⟨"StyleCourtModel", "sayNumber", "(J)V"⟩, 85), (⟨"StyleCourtModel", "say", "(II)V"⟩, 85)]
theorem lw_r5 : ∀ q ∈ lw_privs_5, lw_okq q := List.forall_mem_cons.mpr ⟨lw_p64, List.forall_mem_cons.mpr ⟨lw_p65, List.forall_mem_cons.mpr ⟨lw_p66, List.forall_mem_cons.mpr ⟨lw_p67, fun _ h => absurd h List.not_mem_nil⟩⟩⟩⟩
def lw_privs : List (MethodName × Nat) := lw_privs_1 ++ (lw_privs_2 ++ (lw_privs_3 ++ (lw_privs_4 ++ (lw_privs_5))))
def lw_tbl : List Cond := k2_sels lw_privs ++ tables_1
theorem lw_privs_ok : ∀ q ∈ lw_privs, lw_okq q := by
  show ∀ q ∈ lw_privs_1 ++ (lw_privs_2 ++ (lw_privs_3 ++ (lw_privs_4 ++ (lw_privs_5)))), lw_okq q
  exact List.forall_mem_append.mpr ⟨lw_r1, List.forall_mem_append.mpr ⟨lw_r2, List.forall_mem_append.mpr ⟨lw_r3, List.forall_mem_append.mpr ⟨lw_r4, lw_r5⟩⟩⟩⟩
end
section
def xF0 : u_T := fun k => match k with
  | 0 => ("StyleCourt", "tape", "[B", true)
  | 1 => ("StyleCourt", "tapeLength", "I", false)
  | 2 => ("StyleCourt", "out", "[B", true)
  | 3 => ("StyleCourt", "outLength", "I", false)
  | 4 => ("StyleCourt", "foundOnes", "[I", true)
  | 5 => ("StyleCourt", "foundCount", "I", false)
  | 6 => ("StyleCourt", "askedWeight", "I", false)
  | 7 => ("StyleCourt", "latestReader", "LStyleCourt$Reader;", false)
  | 8 => ("StyleCourt", "latestSource", "LStyleCourt$Source;", false)
  | 9 => ("StyleCourt", "latestStyle", "LStyleCourt$Style;", false)
  | 10 => ("StyleCourt", "reach", "[LStyleCourt$Element;", true)
  | _ => ("StyleCourt", "shares", "[I", true)
def xT0 : Nat → FieldType := fun k => match k with
  | 0 => .array .byte
  | 1 => .int
  | 2 => .array .byte
  | 3 => .int
  | 4 => .array .int
  | 5 => .int
  | 6 => .int
  | 7 => .object "StyleCourt$Reader"
  | 8 => .object "StyleCourt$Source"
  | 9 => .object "StyleCourt$Style"
  | 10 => .array (.object "StyleCourt$Element")
  | _ => .array .int
def xF1 : u_T := fun k => match k with
  | 0 => ("StyleCourt$Reader", "bytes", "[B", true)
  | 1 => ("StyleCourt$Reader", "at", "I", false)
  | _ => ("StyleCourt$Reader", "brokenAt", "I", false)
def xT1 : Nat → FieldType := fun k => match k with
  | 0 => .array .byte
  | 1 => .int
  | _ => .int
def xF2 : u_T := fun k => match k with
  | 0 => ("StyleCourt$Slice", "bytes", "[B", true)
  | 1 => ("StyleCourt$Slice", "from", "I", true)
  | _ => ("StyleCourt$Slice", "length", "I", true)
def xT2 : Nat → FieldType := fun k => match k with
  | 0 => .array .byte
  | 1 => .int
  | _ => .int
def xF3 : u_T := fun k => match k with
  | 0 => ("StyleCourt$Named", "name", "LStyleCourt$Slice;", true)
  | _ => ("StyleCourt$Named", "text", "LStyleCourt$Slice;", true)
def xT3 : Nat → FieldType := fun k => match k with
  | 0 => .object "StyleCourt$Slice"
  | _ => .object "StyleCourt$Slice"
def xF4 : u_T := fun k => match k with
  | 0 => ("StyleCourt$Element", "name", "LStyleCourt$Slice;", true)
  | 1 => ("StyleCourt$Element", "parent", "LStyleCourt$Element;", true)
  | 2 => ("StyleCourt$Element", "before", "LStyleCourt$Element;", true)
  | 3 => ("StyleCourt$Element", "index", "I", true)
  | 4 => ("StyleCourt$Element", "number", "I", true)
  | 5 => ("StyleCourt$Element", "depth", "I", true)
  | 6 => ("StyleCourt$Element", "begin", "I", true)
  | 7 => ("StyleCourt$Element", "fields", "Ljava/util/ArrayList;", true)
  | 8 => ("StyleCourt$Element", "lastChild", "LStyleCourt$Element;", false)
  | 9 => ("StyleCourt$Element", "children", "I", false)
  | 10 => ("StyleCourt$Element", "followed", "Z", false)
  | 11 => ("StyleCourt$Element", "hasText", "Z", false)
  | 12 => ("StyleCourt$Element", "end", "I", false)
  | 13 => ("StyleCourt$Element", "firstText", "I", false)
  | _ => ("StyleCourt$Element", "endText", "I", false)
def xT4 : Nat → FieldType := fun k => match k with
  | 0 => .object "StyleCourt$Slice"
  | 1 => .object "StyleCourt$Element"
  | 2 => .object "StyleCourt$Element"
  | 3 => .int
  | 4 => .int
  | 5 => .int
  | 6 => .int
  | 7 => .object "java/util/ArrayList"
  | 8 => .object "StyleCourt$Element"
  | 9 => .int
  | 10 => .boolean
  | 11 => .boolean
  | 12 => .int
  | 13 => .int
  | _ => .int
def xF5 : u_T := fun k => match k with
  | 0 => ("StyleCourt$Source", "elements", "Ljava/util/ArrayList;", true)
  | 1 => ("StyleCourt$Source", "texts", "Ljava/util/ArrayList;", true)
  | 2 => ("StyleCourt$Source", "entities", "Ljava/util/ArrayList;", true)
  | 3 => ("StyleCourt$Source", "root", "LStyleCourt$Element;", true)
  | _ => ("StyleCourt$Source", "open", "LStyleCourt$Element;", false)
def xT5 : Nat → FieldType := fun k => match k with
  | 0 => .object "java/util/ArrayList"
  | 1 => .object "java/util/ArrayList"
  | 2 => .object "java/util/ArrayList"
  | 3 => .object "StyleCourt$Element"
  | _ => .object "StyleCourt$Element"
def xF6 : u_T := fun k => match k with
  | 0 => ("StyleCourt$Condition", "kind", "I", false)
  | 1 => ("StyleCourt$Condition", "name", "LStyleCourt$Slice;", false)
  | 2 => ("StyleCourt$Condition", "text", "LStyleCourt$Slice;", false)
  | _ => ("StyleCourt$Condition", "number", "I", false)
def xT6 : Nat → FieldType := fun k => match k with
  | 0 => .int
  | 1 => .object "StyleCourt$Slice"
  | 2 => .object "StyleCourt$Slice"
  | _ => .int
def xF7 : u_T := fun k => match k with
  | 0 => ("StyleCourt$Step", "link", "I", true)
  | 1 => ("StyleCourt$Step", "name", "LStyleCourt$Slice;", false)
  | _ => ("StyleCourt$Step", "conditions", "Ljava/util/ArrayList;", true)
def xT7 : Nat → FieldType := fun k => match k with
  | 0 => .int
  | 1 => .object "StyleCourt$Slice"
  | _ => .object "java/util/ArrayList"
def xF8 : u_T := fun k => match k with
  | 0 => ("StyleCourt$Selector", "steps", "Ljava/util/ArrayList;", true)
  | _ => ("StyleCourt$Selector", "weight", "I", false)
def xT8 : Nat → FieldType := fun k => match k with
  | 0 => .object "java/util/ArrayList"
  | _ => .int
def xF9 : u_T := fun k => match k with
  | 0 => ("StyleCourt$Told", "index", "I", true)
  | 1 => ("StyleCourt$Told", "which", "I", true)
  | 2 => ("StyleCourt$Told", "kind", "I", false)
  | 3 => ("StyleCourt$Told", "text", "LStyleCourt$Slice;", false)
  | 4 => ("StyleCourt$Told", "number", "I", false)
  | 5 => ("StyleCourt$Told", "share", "I", false)
  | _ => ("StyleCourt$Told", "strong", "Z", false)
def xT9 : Nat → FieldType := fun k => match k with
  | 0 => .int
  | 1 => .int
  | 2 => .int
  | 3 => .object "StyleCourt$Slice"
  | 4 => .int
  | 5 => .int
  | _ => .boolean
def xF10 : u_T := fun k => match k with
  | 0 => ("StyleCourt$Rule", "selectors", "Ljava/util/ArrayList;", true)
  | _ => ("StyleCourt$Rule", "allTold", "Ljava/util/ArrayList;", true)
def xT10 : Nat → FieldType := fun k => match k with
  | 0 => .object "java/util/ArrayList"
  | _ => .object "java/util/ArrayList"
def xF11 : u_T := fun k => match k with
  | 0 => ("StyleCourt$Style", "rules", "Ljava/util/ArrayList;", true)
  | 1 => ("StyleCourt$Style", "selectors", "Ljava/util/ArrayList;", true)
  | 2 => ("StyleCourt$Style", "names", "Ljava/util/ArrayList;", true)
  | _ => ("StyleCourt$Style", "toldCount", "I", false)
def xT11 : Nat → FieldType := fun k => match k with
  | 0 => .object "java/util/ArrayList"
  | 1 => .object "java/util/ArrayList"
  | 2 => .object "java/util/ArrayList"
  | _ => .int
def xF12 : u_T := fun k => match k with
  | 0 => ("java/util/AbstractList", "modCount", "I", false)
  | 1 => ("java/util/ArrayList", "elementData", "[Ljava/lang/Object;", false)
  | _ => ("java/util/ArrayList", "size", "I", false)
def xT12 : Nat → FieldType := fun k => match k with
  | 0 => .int
  | 1 => .array (.object "java/lang/Object")
  | _ => .int
def xF13 : u_T := fun k => match k with
  | 0 => ("StyleCourtModel", "thrown", "I", false)
  | 1 => ("StyleCourtModel", "tape", "[I", true)
  | 2 => ("StyleCourtModel", "taped", "I", false)
  | 3 => ("StyleCourtModel", "out", "[I", true)
  | 4 => ("StyleCourtModel", "outLong", "I", false)
  | 5 => ("StyleCourtModel", "place", "I", false)
  | 6 => ("StyleCourtModel", "fault", "I", false)
  | 7 => ("StyleCourtModel", "text", "[I", true)
  | 8 => ("StyleCourtModel", "base", "I", false)
  | 9 => ("StyleCourtModel", "length", "I", false)
  | 10 => ("StyleCourtModel", "elements", "I", false)
  | 11 => ("StyleCourtModel", "newElements", "I", false)
  | 12 => ("StyleCourtModel", "nameAt", "[I", true)
  | 13 => ("StyleCourtModel", "nameLong", "[I", true)
  | 14 => ("StyleCourtModel", "parent", "[I", true)
  | 15 => ("StyleCourtModel", "before", "[I", true)
  | 16 => ("StyleCourtModel", "many", "[I", true)
  | 17 => ("StyleCourtModel", "number", "[I", true)
  | 18 => ("StyleCourtModel", "depth", "[I", true)
  | 19 => ("StyleCourtModel", "fields", "[I", true)
  | 20 => ("StyleCourtModel", "begins", "[I", true)
  | 21 => ("StyleCourtModel", "ends", "[I", true)
  | 22 => ("StyleCourtModel", "pieceFrom", "[I", true)
  | 23 => ("StyleCourtModel", "pieceTo", "[I", true)
  | 24 => ("StyleCourtModel", "lastIn", "[I", true)
  | 25 => ("StyleCourtModel", "empty", "[Z", true)
  | 26 => ("StyleCourtModel", "fieldAt", "[I", true)
  | 27 => ("StyleCourtModel", "fieldLong", "[I", true)
  | 28 => ("StyleCourtModel", "valueAt", "[I", true)
  | 29 => ("StyleCourtModel", "valueLong", "[I", true)
  | 30 => ("StyleCourtModel", "pieceAt", "[I", true)
  | 31 => ("StyleCourtModel", "pieceLong", "[I", true)
  | 32 => ("StyleCourtModel", "pieces", "I", false)
  | 33 => ("StyleCourtModel", "entityAt", "[I", true)
  | 34 => ("StyleCourtModel", "entityLong", "[I", true)
  | 35 => ("StyleCourtModel", "entityText", "[I", true)
  | 36 => ("StyleCourtModel", "entityTextLong", "[I", true)
  | 37 => ("StyleCourtModel", "entities", "I", false)
  | 38 => ("StyleCourtModel", "at", "I", false)
  | 39 => ("StyleCourtModel", "topMany", "I", false)
  | 40 => ("StyleCourtModel", "lastTop", "I", false)
  | 41 => ("StyleCourtModel", "spare", "[I", true)
  | 42 => ("StyleCourtModel", "founds", "I", false)
  | 43 => ("StyleCourtModel", "found", "[I", true)
  | 44 => ("StyleCourtModel", "sourceLong", "I", false)
  | 45 => ("StyleCourtModel", "kind", "I", false)
  | 46 => ("StyleCourtModel", "from", "I", false)
  | 47 => ("StyleCourtModel", "to", "I", false)
  | 48 => ("StyleCourtModel", "value", "I", false)
  | 49 => ("StyleCourtModel", "sign", "I", false)
  | 50 => ("StyleCourtModel", "selectors", "I", false)
  | 51 => ("StyleCourtModel", "steps", "I", false)
  | 52 => ("StyleCourtModel", "tests", "I", false)
  | 53 => ("StyleCourtModel", "firstStep", "[I", true)
  | 54 => ("StyleCourtModel", "stepsOf", "[I", true)
  | 55 => ("StyleCourtModel", "bodyOf", "[I", true)
  | 56 => ("StyleCourtModel", "heavy", "[I", true)
  | 57 => ("StyleCourtModel", "stepAt", "[I", true)
  | 58 => ("StyleCourtModel", "stepLong", "[I", true)
  | 59 => ("StyleCourtModel", "link", "[I", true)
  | 60 => ("StyleCourtModel", "firstTest", "[I", true)
  | 61 => ("StyleCourtModel", "testsOf", "[I", true)
  | 62 => ("StyleCourtModel", "test", "[I", true)
  | 63 => ("StyleCourtModel", "testAt", "[I", true)
  | 64 => ("StyleCourtModel", "testLong", "[I", true)
  | 65 => ("StyleCourtModel", "testText", "[I", true)
  | 66 => ("StyleCourtModel", "testTextLong", "[I", true)
  | 67 => ("StyleCourtModel", "testNumber", "[I", true)
  | 68 => ("StyleCourtModel", "props", "I", false)
  | 69 => ("StyleCourtModel", "names", "I", false)
  | 70 => ("StyleCourtModel", "propName", "[I", true)
  | 71 => ("StyleCourtModel", "propBody", "[I", true)
  | 72 => ("StyleCourtModel", "propKind", "[I", true)
  | 73 => ("StyleCourtModel", "propAt", "[I", true)
  | 74 => ("StyleCourtModel", "propLong", "[I", true)
  | 75 => ("StyleCourtModel", "propNumber", "[I", true)
  | 76 => ("StyleCourtModel", "propFirst", "[Z", true)
  | 77 => ("StyleCourtModel", "knownAt", "[I", true)
  | 78 => ("StyleCourtModel", "knownLong", "[I", true)
  | 79 => ("StyleCourtModel", "styleLong", "I", false)
  | 80 => ("StyleCourtModel", "good", "[Z", true)
  | 81 => ("StyleCourtModel", "ahead", "[Z", true)
  | 82 => ("StyleCourtModel", "isFit", "[Z", true)
  | 83 => ("StyleCourtModel", "way", "[I", true)
  | _ => ("StyleCourtModel", "latestHeavy", "I", false)
def xT13 : Nat → FieldType := fun k => match k with
  | 0 => .int
  | 1 => .array .int
  | 2 => .int
  | 3 => .array .int
  | 4 => .int
  | 5 => .int
  | 6 => .int
  | 7 => .array .int
  | 8 => .int
  | 9 => .int
  | 10 => .int
  | 11 => .int
  | 12 => .array .int
  | 13 => .array .int
  | 14 => .array .int
  | 15 => .array .int
  | 16 => .array .int
  | 17 => .array .int
  | 18 => .array .int
  | 19 => .array .int
  | 20 => .array .int
  | 21 => .array .int
  | 22 => .array .int
  | 23 => .array .int
  | 24 => .array .int
  | 25 => .array .boolean
  | 26 => .array .int
  | 27 => .array .int
  | 28 => .array .int
  | 29 => .array .int
  | 30 => .array .int
  | 31 => .array .int
  | 32 => .int
  | 33 => .array .int
  | 34 => .array .int
  | 35 => .array .int
  | 36 => .array .int
  | 37 => .int
  | 38 => .int
  | 39 => .int
  | 40 => .int
  | 41 => .array .int
  | 42 => .int
  | 43 => .array .int
  | 44 => .int
  | 45 => .int
  | 46 => .int
  | 47 => .int
  | 48 => .int
  | 49 => .int
  | 50 => .int
  | 51 => .int
  | 52 => .int
  | 53 => .array .int
  | 54 => .array .int
  | 55 => .array .int
  | 56 => .array .int
  | 57 => .array .int
  | 58 => .array .int
  | 59 => .array .int
  | 60 => .array .int
  | 61 => .array .int
  | 62 => .array .int
  | 63 => .array .int
  | 64 => .array .int
  | 65 => .array .int
  | 66 => .array .int
  | 67 => .array .int
  | 68 => .int
  | 69 => .int
  | 70 => .array .int
  | 71 => .array .int
  | 72 => .array .int
  | 73 => .array .int
  | 74 => .array .int
  | 75 => .array .int
  | 76 => .array .boolean
  | 77 => .array .int
  | 78 => .array .int
  | 79 => .int
  | 80 => .array .boolean
  | 81 => .array .boolean
  | 82 => .array .boolean
  | 83 => .array .int
  | _ => .int
def xF14 : u_T := fun k => match k with
  | _ => ("", "", "", false)
def xT14 : Nat → FieldType := fun k => match k with
  | _ => .int
def xF15 : u_T := fun k => match k with
  | _ => ("", "", "", false)
def xT15 : Nat → FieldType := fun k => match k with
  | _ => .int
def xF16 : u_T := fun k => match k with
  | _ => ("", "", "", false)
def xT16 : Nat → FieldType := fun k => match k with
  | _ => .int
def xcl : List vw_C := [("StyleCourt", xF0, 12), ("StyleCourt$Reader", xF1, 3), ("StyleCourt$Slice", xF2, 3), ("StyleCourt$Named", xF3, 2), ("StyleCourt$Element", xF4, 15), ("StyleCourt$Source", xF5, 5), ("StyleCourt$Condition", xF6, 4), ("StyleCourt$Step", xF7, 3), ("StyleCourt$Selector", xF8, 2), ("StyleCourt$Told", xF9, 7), ("StyleCourt$Rule", xF10, 2), ("StyleCourt$Style", xF11, 4), ("java/util/ArrayList", xF12, 3), ("StyleCourtModel", xF13, 85), ("java/lang/IndexOutOfBoundsException", xF14, 0), ("java/lang/IllegalArgumentException", xF15, 0), ("java/lang/UnsupportedOperationException", xF16, 0)]
def xty : Nat → Nat → FieldType := fun c => match c with
  | 0 => xT0
  | 1 => xT1
  | 2 => xT2
  | 3 => xT3
  | 4 => xT4
  | 5 => xT5
  | 6 => xT6
  | 7 => xT7
  | 8 => xT8
  | 9 => xT9
  | 10 => xT10
  | 11 => xT11
  | 12 => xT12
  | 13 => xT13
  | 14 => xT14
  | 15 => xT15
  | _ => xT16
def xela : List FieldType := [.int, .byte, .long, .boolean, .object "java/lang/Object", .object "StyleCourt$Element"]
def xst : List (String × String × String) := [("StyleCourt", "KNOWN", "[B"), ("java/util/ArrayList", "DEFAULTCAPACITY_EMPTY_ELEMENTDATA", "[Ljava/lang/Object;"), ("java/lang/String", "COMPACT_STRINGS", "Z")]
def xsr : List (String × Nat × String) := [("StyleCourt", 70, "the tape is full"), ("StyleCourt", 81, "the tape is not that long"), ("StyleCourt$Reader", 30, "the text is broken"), ("StyleCourt$Condition", 45, "first"), ("StyleCourt$Condition", 53, "last"), ("StyleCourt$Condition", 55, "empty"), ("StyleCourt$Condition", 57, "nth"), ("StyleCourt$Condition", 62, "not"), ("StyleCourt", 254, "no such element"), ("StyleCourt$Told", 66, "up"), ("StyleCourt", 192, "not so many are found"), ("StyleCourt", 194, "no such selector"), ("StyleCourt", 221, "nothing is asked by that number"), ("StyleCourt", 223, "the element has no such part"), ("StyleCourt", 293, "the text is too long"), ("StyleCourt", 242, "no byte of what is out"), ("StyleCourt", 247, "nothing is counted by that number")]
def xws : List Cond := lw_tbl.filter goodWord
theorem xws_in {w : Cond} (h : w ∈ lw_tbl) (g : goodWord w = true) : w ∈ xws := List.mem_filter.mpr ⟨h, g⟩
theorem xws_at {w : Cond} (i : Nat) (h : lw_tbl[i]? = some w) (g : goodWord w = true) : w ∈ xws := xws_in (List.mem_of_getElem? h) g
theorem xws_ps {ws : List Cond} (ps : List Nat) (hp : ws = ps.filterMap (fun i => lw_tbl[i]?)) (h : ws.all goodWord = true) : ∀ w ∈ ws, w ∈ xws := by
  intro w hw
  have h1 := List.all_eq_true.mp h w hw
  rw [hp] at hw
  obtain ⟨i, -, hi⟩ := List.mem_filterMap.mp hw
  exact xws_in (List.mem_of_getElem? hi) h1
theorem xin_0 : ∀ w ∈ u_ws "StyleCourt" xF0 12, w ∈ xws := xws_ps [427, 429, 431, 433, 435, 437, 439, 441, 443, 445, 447, 449] (by decide +kernel) (by decide +kernel)
theorem xnm_0 : ∀ a, a < 12 → ∀ b, b < 12 → a ≠ b → (xF0 a).2.1 ≠ (xF0 b).2.1 := by decide +kernel
theorem xpd_0 : ∀ k, k < 12 → parseFieldDescriptor (xF0 k).2.2.1 = some (xT0 k) := by decide +kernel
theorem xin_1 : ∀ w ∈ u_ws "StyleCourt$Reader" xF1 3, w ∈ xws := xws_ps [145, 147, 149] (by decide +kernel) (by decide +kernel)
theorem xnm_1 : ∀ a, a < 3 → ∀ b, b < 3 → a ≠ b → (xF1 a).2.1 ≠ (xF1 b).2.1 := by decide +kernel
theorem xpd_1 : ∀ k, k < 3 → parseFieldDescriptor (xF1 k).2.2.1 = some (xT1 k) := by decide +kernel
theorem xin_2 : ∀ w ∈ u_ws "StyleCourt$Slice" xF2 3, w ∈ xws := xws_ps [203, 205, 207] (by decide +kernel) (by decide +kernel)
theorem xnm_2 : ∀ a, a < 3 → ∀ b, b < 3 → a ≠ b → (xF2 a).2.1 ≠ (xF2 b).2.1 := by decide +kernel
theorem xpd_2 : ∀ k, k < 3 → parseFieldDescriptor (xF2 k).2.2.1 = some (xT2 k) := by decide +kernel
theorem xin_3 : ∀ w ∈ u_ws "StyleCourt$Named" xF3 2, w ∈ xws := xws_ps [307, 309] (by decide +kernel) (by decide +kernel)
theorem xnm_3 : ∀ a, a < 2 → ∀ b, b < 2 → a ≠ b → (xF3 a).2.1 ≠ (xF3 b).2.1 := by decide +kernel
theorem xpd_3 : ∀ k, k < 2 → parseFieldDescriptor (xF3 k).2.2.1 = some (xT3 k) := by decide +kernel
theorem xin_4 : ∀ w ∈ u_ws "StyleCourt$Element" xF4 15, w ∈ xws := xws_ps [264, 266, 268, 270, 272, 274, 276, 278, 280, 282, 284, 286, 288, 290, 292] (by decide +kernel) (by decide +kernel)
theorem xnm_4 : ∀ a, a < 15 → ∀ b, b < 15 → a ≠ b → (xF4 a).2.1 ≠ (xF4 b).2.1 := by decide +kernel
theorem xpd_4 : ∀ k, k < 15 → parseFieldDescriptor (xF4 k).2.2.1 = some (xT4 k) := by decide +kernel
theorem xin_5 : ∀ w ∈ u_ws "StyleCourt$Source" xF5 5, w ∈ xws := xws_ps [379, 381, 383, 385, 387] (by decide +kernel) (by decide +kernel)
theorem xnm_5 : ∀ a, a < 5 → ∀ b, b < 5 → a ≠ b → (xF5 a).2.1 ≠ (xF5 b).2.1 := by decide +kernel
theorem xpd_5 : ∀ k, k < 5 → parseFieldDescriptor (xF5 k).2.2.1 = some (xT5 k) := by decide +kernel
theorem xin_6 : ∀ w ∈ u_ws "StyleCourt$Condition" xF6 4, w ∈ xws := xws_ps [810, 812, 814, 816] (by decide +kernel) (by decide +kernel)
theorem xnm_6 : ∀ a, a < 4 → ∀ b, b < 4 → a ≠ b → (xF6 a).2.1 ≠ (xF6 b).2.1 := by decide +kernel
theorem xpd_6 : ∀ k, k < 4 → parseFieldDescriptor (xF6 k).2.2.1 = some (xT6 k) := by decide +kernel
theorem xin_7 : ∀ w ∈ u_ws "StyleCourt$Step" xF7 3, w ∈ xws := xws_ps [786, 788, 790] (by decide +kernel) (by decide +kernel)
theorem xnm_7 : ∀ a, a < 3 → ∀ b, b < 3 → a ≠ b → (xF7 a).2.1 ≠ (xF7 b).2.1 := by decide +kernel
theorem xpd_7 : ∀ k, k < 3 → parseFieldDescriptor (xF7 k).2.2.1 = some (xT7 k) := by decide +kernel
theorem xin_8 : ∀ w ∈ u_ws "StyleCourt$Selector" xF8 2, w ∈ xws := xws_ps [763, 765] (by decide +kernel) (by decide +kernel)
theorem xnm_8 : ∀ a, a < 2 → ∀ b, b < 2 → a ≠ b → (xF8 a).2.1 ≠ (xF8 b).2.1 := by decide +kernel
theorem xpd_8 : ∀ k, k < 2 → parseFieldDescriptor (xF8 k).2.2.1 = some (xT8 k) := by decide +kernel
theorem xin_9 : ∀ w ∈ u_ws "StyleCourt$Told" xF9 7, w ∈ xws := xws_ps [937, 939, 941, 943, 945, 947, 949] (by decide +kernel) (by decide +kernel)
theorem xnm_9 : ∀ a, a < 7 → ∀ b, b < 7 → a ≠ b → (xF9 a).2.1 ≠ (xF9 b).2.1 := by decide +kernel
theorem xpd_9 : ∀ k, k < 7 → parseFieldDescriptor (xF9 k).2.2.1 = some (xT9 k) := by decide +kernel
theorem xin_10 : ∀ w ∈ u_ws "StyleCourt$Rule" xF10 2, w ∈ xws := xws_ps [739, 741] (by decide +kernel) (by decide +kernel)
theorem xnm_10 : ∀ a, a < 2 → ∀ b, b < 2 → a ≠ b → (xF10 a).2.1 ≠ (xF10 b).2.1 := by decide +kernel
theorem xpd_10 : ∀ k, k < 2 → parseFieldDescriptor (xF10 k).2.2.1 = some (xT10 k) := by decide +kernel
theorem xin_11 : ∀ w ∈ u_ws "StyleCourt$Style" xF11 4, w ∈ xws := xws_ps [404, 406, 408, 410] (by decide +kernel) (by decide +kernel)
theorem xnm_11 : ∀ a, a < 4 → ∀ b, b < 4 → a ≠ b → (xF11 a).2.1 ≠ (xF11 b).2.1 := by decide +kernel
theorem xpd_11 : ∀ k, k < 4 → parseFieldDescriptor (xF11 k).2.2.1 = some (xT11 k) := by decide +kernel
theorem xin_12 : ∀ w ∈ u_ws "java/util/ArrayList" xF12 3, w ∈ xws := xws_ps [183, 179, 181] (by decide +kernel) (by decide +kernel)
theorem xnm_12 : ∀ a, a < 3 → ∀ b, b < 3 → a ≠ b → (xF12 a).2.1 ≠ (xF12 b).2.1 := by decide +kernel
theorem xpd_12 : ∀ k, k < 3 → parseFieldDescriptor (xF12 k).2.2.1 = some (xT12 k) := by decide +kernel
theorem xin_13 : ∀ w ∈ u_ws "StyleCourtModel" xF13 85, w ∈ xws := xws_ps [1230, 1232, 1234, 1236, 1238, 1240, 1242, 1244, 1246, 1248, 1250, 1252, 1254, 1256, 1258, 1260, 1262, 1264, 1266, 1268, 1270, 1272, 1274, 1276, 1278, 1280, 1282, 1284, 1286, 1288, 1290, 1292, 1294, 1296, 1298, 1300, 1302, 1304, 1306, 1308, 1310, 1312, 1314, 1316, 1318, 1320, 1322, 1324, 1326, 1328, 1330, 1332, 1334, 1336, 1338, 1340, 1342, 1344, 1346, 1348, 1350, 1352, 1354, 1356, 1358, 1360, 1362, 1364, 1366, 1368, 1370, 1372, 1374, 1376, 1378, 1380, 1382, 1384, 1386, 1388, 1390, 1392, 1394, 1396, 1398] (by decide +kernel) (by decide +kernel)
theorem xnm_13 : ∀ a, a < 85 → ∀ b, b < 85 → a ≠ b → (xF13 a).2.1 ≠ (xF13 b).2.1 := by decide +kernel
theorem xpd_13 : ∀ k, k < 85 → parseFieldDescriptor (xF13 k).2.2.1 = some (xT13 k) := by decide +kernel
theorem xin_14 : ∀ w ∈ u_ws "java/lang/IndexOutOfBoundsException" xF14 0, w ∈ xws := xws_ps [] (by decide +kernel) (by decide +kernel)
theorem xnm_14 : ∀ a, a < 0 → ∀ b, b < 0 → a ≠ b → (xF14 a).2.1 ≠ (xF14 b).2.1 := by decide +kernel
theorem xpd_14 : ∀ k, k < 0 → parseFieldDescriptor (xF14 k).2.2.1 = some (xT14 k) := by decide +kernel
theorem xin_15 : ∀ w ∈ u_ws "java/lang/IllegalArgumentException" xF15 0, w ∈ xws := xws_ps [] (by decide +kernel) (by decide +kernel)
theorem xnm_15 : ∀ a, a < 0 → ∀ b, b < 0 → a ≠ b → (xF15 a).2.1 ≠ (xF15 b).2.1 := by decide +kernel
theorem xpd_15 : ∀ k, k < 0 → parseFieldDescriptor (xF15 k).2.2.1 = some (xT15 k) := by decide +kernel
theorem xin_16 : ∀ w ∈ u_ws "java/lang/UnsupportedOperationException" xF16 0, w ∈ xws := xws_ps [] (by decide +kernel) (by decide +kernel)
theorem xnm_16 : ∀ a, a < 0 → ∀ b, b < 0 → a ≠ b → (xF16 a).2.1 ≠ (xF16 b).2.1 := by decide +kernel
theorem xpd_16 : ∀ k, k < 0 → parseFieldDescriptor (xF16 k).2.2.1 = some (xT16 k) := by decide +kernel
theorem xcl_in : ∀ {ci : Nat} {r : vw_C}, xcl[ci]? = some r → ∀ w ∈ u_ws r.1 r.2.1 r.2.2, w ∈ xws
  | 0, _, h => by cases h; exact xin_0
  | 1, _, h => by cases h; exact xin_1
  | 2, _, h => by cases h; exact xin_2
  | 3, _, h => by cases h; exact xin_3
  | 4, _, h => by cases h; exact xin_4
  | 5, _, h => by cases h; exact xin_5
  | 6, _, h => by cases h; exact xin_6
  | 7, _, h => by cases h; exact xin_7
  | 8, _, h => by cases h; exact xin_8
  | 9, _, h => by cases h; exact xin_9
  | 10, _, h => by cases h; exact xin_10
  | 11, _, h => by cases h; exact xin_11
  | 12, _, h => by cases h; exact xin_12
  | 13, _, h => by cases h; exact xin_13
  | 14, _, h => by cases h; exact xin_14
  | 15, _, h => by cases h; exact xin_15
  | 16, _, h => by cases h; exact xin_16
  | n + 17, _, h => by simp [xcl] at h
theorem xcl_ty : ∀ {ci : Nat} {r : vw_C}, xcl[ci]? = some r → ∀ k, k < r.2.2 → parseFieldDescriptor (r.2.1 k).2.2.1 = some (xty ci k)
  | 0, _, h => by cases h; exact xpd_0
  | 1, _, h => by cases h; exact xpd_1
  | 2, _, h => by cases h; exact xpd_2
  | 3, _, h => by cases h; exact xpd_3
  | 4, _, h => by cases h; exact xpd_4
  | 5, _, h => by cases h; exact xpd_5
  | 6, _, h => by cases h; exact xpd_6
  | 7, _, h => by cases h; exact xpd_7
  | 8, _, h => by cases h; exact xpd_8
  | 9, _, h => by cases h; exact xpd_9
  | 10, _, h => by cases h; exact xpd_10
  | 11, _, h => by cases h; exact xpd_11
  | 12, _, h => by cases h; exact xpd_12
  | 13, _, h => by cases h; exact xpd_13
  | 14, _, h => by cases h; exact xpd_14
  | 15, _, h => by cases h; exact xpd_15
  | 16, _, h => by cases h; exact xpd_16
  | n + 17, _, h => by simp [xcl] at h
theorem xcl_nm : ∀ {ci : Nat} {r : vw_C}, xcl[ci]? = some r → ∀ a, a < r.2.2 → ∀ b, b < r.2.2 → a ≠ b → (r.2.1 a).2.1 ≠ (r.2.1 b).2.1
  | 0, _, h => by cases h; exact xnm_0
  | 1, _, h => by cases h; exact xnm_1
  | 2, _, h => by cases h; exact xnm_2
  | 3, _, h => by cases h; exact xnm_3
  | 4, _, h => by cases h; exact xnm_4
  | 5, _, h => by cases h; exact xnm_5
  | 6, _, h => by cases h; exact xnm_6
  | 7, _, h => by cases h; exact xnm_7
  | 8, _, h => by cases h; exact xnm_8
  | 9, _, h => by cases h; exact xnm_9
  | 10, _, h => by cases h; exact xnm_10
  | 11, _, h => by cases h; exact xnm_11
  | 12, _, h => by cases h; exact xnm_12
  | 13, _, h => by cases h; exact xnm_13
  | 14, _, h => by cases h; exact xnm_14
  | 15, _, h => by cases h; exact xnm_15
  | 16, _, h => by cases h; exact xnm_16
  | n + 17, _, h => by simp [xcl] at h
end
section
/-! THE ABSTRACT MACHINE, 1: abstract heaps, worlds, contracts -/
abbrev xC : Type := Nat × List Value
abbrev xH : Type := Nat → Option xC
abbrev xO : Type := Option Value ⊕ (Nat × Nat)
abbrev xD : Type := (Nat → ClassId) × (Nat → Nat → Nat) × Nat × (Nat → Value)
abbrev xD.cid (D : xD) : Nat → ClassId := D.1
abbrev xD.slo (D : xD) : Nat → Nat → Nat := D.2.1
abbrev xD.sz (D : xD) : Nat := D.2.2.1
abbrev xD.sv (D : xD) : Nat → Value := D.2.2.2
def xset (h : xH) (a : Nat) (c : xC) : xH := fun q => if q = a then some c else h q
theorem xset_same (h : xH) (a : Nat) (c : xC) : xset h a c a = some c := if_pos rfl
theorem xset_ne (h : xH) {a q : Nat} (c : xC) (hq : q ≠ a) : xset h a c q = h q := if_neg hq
theorem xset_set (h : xH) (a : Nat) (c d : xC) : xset (xset h a c) a d = xset h a d := by
  funext q; unfold xset; split <;> rfl
theorem xset_comm (h : xH) {a b : Nat} (c d : xC) (hab : a ≠ b) : xset (xset h a c) b d = xset (xset h b d) a c := by
  funext q; unfold xset; split
  · rename_i e; rw [if_neg (by rw [e]; exact fun z => hab z.symm)]
  · rfl
theorem xset_self {h : xH} {a : Nat} {c : xC} (e : h a = some c) : xset h a c = h := by
  funext q; unfold xset; split
  · rename_i z; rw [z, e]
  · rfl
theorem xne {h : xH} {a b : Nat} {c d : xC} (ha : h a = some c) (hb : h b = some d) (hk : c.1 ≠ d.1) : a ≠ b := by
  intro e; subst e; rw [ha] at hb; cases hb; exact hk rfl
theorem xnn {h : xH} {a b : Nat} {c : xC} (ha : h a = some c) (hb : h b = none) : a ≠ b := by
  intro e; subst e; rw [ha] at hb; cases hb
def xel (t : Nat) : FieldType := xela.getD t .int
def xO_RO (D : xD) (U : State) (H : Heap) (a : Nat) (ci : Nat) (vs : List Value) : Prop :=
  ∃ (r : vw_C) (cell : Cell), xcl[ci]? = some r ∧ vs.length = r.2.2 ∧ H[a]? = some cell ∧ cell.vm.isStatics = false ∧ cell.vm ≠ .unknown ∧ U.vm.findClass r.1 = some cell.cls ∧ ∀ k, k < r.2.2 → cell.slots[D.slo ci k]? = some (vp_V vs k)
/-- what a cell of the abstract heap says of the heap: objects (kinds below 100), arrays (100 ..), arrays and objects of before the run (200 .., 300 ..) -/
def x_at (D : xD) (U : State) (H : Heap) (a : Nat) (c : xC) : Prop :=
  if c.1 < 100 then D.sz ≤ a ∧ ∃ r : vw_C, xcl[c.1]? = some r ∧ c.2.length = r.2.2 ∧ t_OB a (D.cid c.1) r.2.2 (D.slo c.1) H (vp_V c.2)
  else if c.1 < 200 then D.sz ≤ a ∧ c.2.length < 2 ^ 31 ∧ (∃ ty, xela[c.1 - 100]? = some ty) ∧ H[a]? = some { cls := D.cid c.1, slots := c.2.toArray, vm := .none }
  else if c.1 < 300 then a < D.sz ∧ c.2.length < 2 ^ 31 ∧ ∃ cell : Cell, H[a]? = some cell ∧ U.isArrayOf cell (xel (c.1 - 200)) ∧ cell.vm ≠ .unknown ∧ cell.slots = c.2.toArray
  else a < D.sz ∧ xO_RO D U H a (c.1 - 300) c.2
def x_K (D : xD) (U : State) : Prop := (∀ (c : Nat) (q : vw_C), xcl[c]? = some q → u_Kn U q.1 q.2.1 q.2.2 (D.cid c) (D.slo c)) ∧ ∀ (t : Nat) (ty : FieldType), xela[t]? = some ty → ArrOfT U (D.cid (100 + t)) ty ∧ va_RA U (D.cid (100 + t)) ty
def x_E (D : xD) (U : State) (H : Heap) : Prop := (∀ (i : Nat) (q : String × String × String), xst[i]? = some q → va_Z q.1 q.2.1 q.2.2 (D.sv i) (fun q => D.sz ≤ q) U H) ∧ (∀ (i : Nat) (q : String × Nat × String), xsr[i]? = some q → ∃ a : Nat, D.sv (1000 + i) = .ref a ∧ vk_R q.1 q.2.1 q.2.2 a U) ∧ va_Zq Bundle.tN "UNASSIGNED_STACK" Bundle.steD (fun q => D.sz ≤ q) U H ∧ va_Zq Bundle.tN "SUPPRESSED_SENTINEL" Bundle.listD (fun q => D.sz ≤ q) U H
def x_R (D : xD) (U : State) (h : xH) (H : Heap) : Prop := ∀ (a : Nat) (c : xC), h a = some c → x_at D U H a c
def x_S (D : xD) (H0 H : Heap) (locs : List Loc) : Prop := H0.size ≤ H.size ∧ (∀ q : Nat, q < D.sz → H[q]? = H0[q]?) ∧ ∀ l ∈ locs, D.sz ≤ l.base
theorem x_at.lt {D : xD} {U : State} {H : Heap} {a : Nat} {c : xC} (h : x_at D U H a c) : a < H.size := by
  unfold x_at at h
  split at h
  · obtain ⟨-, r, -, -, cell, h1, -⟩ := h
    exact (Array.getElem?_eq_some_iff.mp h1).1
  · split at h
    · exact (Array.getElem?_eq_some_iff.mp h.2.2.2).1
    · split at h
      · obtain ⟨-, -, cell, h1, -⟩ := h
        exact (Array.getElem?_eq_some_iff.mp h1).1
      · obtain ⟨-, r, cell, -, -, h1, -⟩ := h
        exact (Array.getElem?_eq_some_iff.mp h1).1
theorem x_at.kept {D : xD} {U : State} {H H1 : Heap} {a : Nat} {c : xC} (h : x_at D U H a c) (hq : H1[a]? = H[a]?) : x_at D U H1 a c := by
  unfold x_at at h ⊢
  split at h
  · rename_i z
    rw [if_pos z]
    obtain ⟨h0, r, h1, h2, h3⟩ := h
    exact ⟨h0, r, h1, h2, h3.kept hq⟩
  · rename_i z
    rw [if_neg z]
    split at h
    · rename_i z
      rw [if_pos z, hq]
      exact h
    · rename_i z
      rw [if_neg z]
      split at h
      · rename_i z
        rw [if_pos z, hq]
        exact h
      · rename_i z
        rw [if_neg z]
        unfold xO_RO at h ⊢
        rw [hq]
        exact h
theorem x_at.moved {D : xD} {u U : State} {H : Heap} {a : Nat} {c : xC} (hvm : u.vm.Alike U.vm) (h : x_at D u H a c) : x_at D U H a c := by
  unfold x_at at h ⊢
  split at h
  · rename_i z
    rw [if_pos z]
    exact h
  · rename_i z
    rw [if_neg z]
    split at h
    · rename_i z
      rw [if_pos z]
      exact h
    · rename_i z
      rw [if_neg z]
      split at h
      · rename_i z
        rw [if_pos z]
        obtain ⟨h0, h1, cell, h2, h3, h4⟩ := h
        exact ⟨h0, h1, cell, h2, State.isArrayOf_alike hvm h3, h4⟩
      · rename_i z
        rw [if_neg z]
        obtain ⟨h0, r, cell, h1, h2, h3, h4, h5, h6, h7⟩ := h
        exact ⟨h0, r, cell, h1, h2, h3, h4, h5, by rw [hvm.findClass]; exact h6, h7⟩
theorem x_R.moved {D : xD} {u U : State} {h : xH} {H : Heap} (hvm : u.vm.Alike U.vm) (hR : x_R D u h H) : x_R D U h H := fun a c e => (hR a c e).moved hvm
theorem x_K.moved {D : xD} {u U : State} (hvm : u.vm.Alike U.vm) (hK : x_K D u) : x_K D U := ⟨fun c q hq => u_Kn_moved hvm (hK.1 c q hq), fun t ty ht => ⟨arrOfT_moved hvm (hK.2 t ty ht).1, (hK.2 t ty ht).2.moved hvm⟩⟩
theorem x_E.warm {D : xD} {s U : State} {H : Heap} (hW : s.WarmedH U.vm) (hE : x_E D s H) : x_E D U H := ⟨fun i q hq => (hE.1 i q hq).moved hW.alike, fun i q hq => by obtain ⟨a, h1, h2⟩ := hE.2.1 i q hq; exact ⟨a, h1, h2.warm hW⟩, hE.2.2.1.moved hW.alike, hE.2.2.2.moved hW.alike⟩
theorem x_E.kept {D : xD} {U : State} {H H1 : Heap} (hE : x_E D U H) (hq : ∀ q : Nat, q < D.sz → H1[q]? = H[q]?) : x_E D U H1 := ⟨fun i q hi => (hE.1 i q hi).kept (fun a _ ha => hq a (Nat.not_le.mp ha)), hE.2.1, hE.2.2.1.kept (fun a _ ha => hq a (Nat.not_le.mp ha)), hE.2.2.2.kept (fun a _ ha => hq a (Nat.not_le.mp ha))⟩
theorem x_R.set {D : xD} {U : State} {h : xH} {H H1 : Heap} {a : Nat} {c : xC} (hR : x_R D U h H) (hc : x_at D U H1 a c) (hq : ∀ q, q ≠ a → H1[q]? = H[q]?) : x_R D U (xset h a c) H1 := by
  intro q d e
  by_cases z : q = a
  · subst z; rw [xset_same] at e; cases e; exact hc
  · rw [xset_ne _ _ z] at e; exact (hR q d e).kept (hq q z)
theorem x_R.push {D : xD} {U : State} {h : xH} {H H1 : Heap} {c : xC} (hR : x_R D U h H) (hc : x_at D U H1 H.size c) (hq : ∀ q, q < H.size → H1[q]? = H[q]?) : x_R D U (xset h H.size c) H1 := by
  intro q d e
  by_cases z : q = H.size
  · subst z; rw [xset_same] at e; cases e; exact hc
  · rw [xset_ne _ _ z] at e; exact (hR q d e).kept (hq q (hR q d e).lt)
theorem x_R.fresh {D : xD} {U : State} {h : xH} {H : Heap} (hR : x_R D U h H) : h H.size = none := by
  cases e : h H.size with
  | none => rfl
  | some c => exact absurd (hR _ _ e).lt (Nat.lt_irrefl _)
/-- words -/
theorem xws_warm {args : Array Value} {s : State} (hts : ∀ w ∈ xws, w.before args s = true) : ∀ w ∈ xws, ∀ (a' : Array Value) (U : State), s.WarmedH U.vm → w.before a' U = true :=
  fun w hw a' U hW => word_at hW (good_of_word (List.mem_filter.mp hw).2) (hts w hw)
/-- outcomes -/
def xout (o : xO) (oc : Outcome) : Prop := match o with
  | .inl v => oc = .returned v
  | .inr q => oc = .threw q.2
def xOe (o : xO) (h : xH) : Prop := match o with
  | .inl _ => True
  | .inr q => q.1 < 100 ∧ h q.2 = some (q.1, [])
def xQ (D : xD) (P : xO → xH → Prop) : State → Outcome → State → Prop := fun st oc t =>
  ∃ (o : xO) (h' : xH), xout o oc ∧ xOe o h' ∧ P o h' ∧ x_R D st h' t.heap ∧ (∀ q : Nat, q < D.sz → t.heap[q]? = st.heap[q]?) ∧ st.heap.size ≤ t.heap.size
def xFE (first t : State) (L : List Loc) (k n : Nat) : Prop := first.WarmedH t.vm ∧ first.sameButNew ({ t with vm := first.vm } : State) L k n
def xrm (d mc ms : Nat) : Room := { frames := d, cells := mc, slots := ms, locals := 30 * d + 130 }
/-- A CONTRACT at a start: method y with the arguments av over the abstract heap h, within mc cells of ms slots, ends so that P -/
def xMet (l : Launch) (D : xD) (d : Nat) (y : MethodName) (av : List Value) (h : xH) (mc ms : Nat) (P : xO → xH → Prop) : Prop :=
  MetFree l y (headSpec xws (xrm d mc ms)) (fun a U => a = av.toArray ∧ x_R D U h U.heap ∧ x_K D U ∧ x_E D U U.heap ∧ D.sz ≤ U.heap.size) (fun _ e _ _ _ => e.platform.stackTraces = false)
    (fun _ st oc t => xQ D P st oc t ∧ ∃ L, xFE st t L mc ms ∧ ∀ q ∈ L, D.sz ≤ q.base)
theorem xMet.mono {l : Launch} {D : xD} {d : Nat} {y : MethodName} {av : List Value} {h : xH} {mc ms : Nat} {P Q : xO → xH → Prop} (hM : xMet l D d y av h mc ms P) (hPQ : ∀ o h', P o h' → Q o h') : xMet l D d y av h mc ms Q := by
  intro p e ha hc hk s m args below hf happ hP hK
  obtain ⟨n, o, h1, h2, h3, ⟨o', h', q1, q2, q3, q4⟩, q5⟩ := hM p e ha hc hk s m args below hf happ hP hK
  exact ⟨n, o, h1, h2, h3, ⟨o', h', q1, q2, hPQ _ _ q3, q4⟩, q5⟩
/-! THE ABSTRACT MACHINE, 2: a walk's context, its judgement, tables of operations -/
abbrev xX : Type := Program × Launch × Env × Room × State × MethodId × Array Value × List Frame × Method × Code × xD × (xO → xH → Prop)
abbrev xX.p (X : xX) : Program := X.1
abbrev xX.l (X : xX) : Launch := X.2.1
abbrev xX.e (X : xX) : Env := X.2.2.1
abbrev xX.R (X : xX) : Room := X.2.2.2.1
abbrev xX.s (X : xX) : State := X.2.2.2.2.1
abbrev xX.m (X : xX) : MethodId := X.2.2.2.2.2.1
abbrev xX.args (X : xX) : Array Value := X.2.2.2.2.2.2.1
abbrev xX.below (X : xX) : List Frame := X.2.2.2.2.2.2.2.1
abbrev xX.meth (X : xX) : Method := X.2.2.2.2.2.2.2.2.1
abbrev xX.c (X : xX) : Code := X.2.2.2.2.2.2.2.2.2.1
abbrev xX.D (X : xX) : xD := X.2.2.2.2.2.2.2.2.2.2.1
abbrev xX.P (X : xX) : xO → xH → Prop := X.2.2.2.2.2.2.2.2.2.2.2
def xZ (X : xX) : State → Prop := fun t => ∃ oc, t.status = .running ∧ Ended t X.below oc ∧ xQ X.D X.P X.s oc t ∧ ∃ L, xFE X.s t L X.R.cells X.R.slots ∧ ∀ q ∈ L, X.D.sz ≤ q.base
abbrev xW (X : xX) (H : Heap) (locs : List Loc) (k n : Nat) (g : JFrame) : Prop := W X.p X.l X.e X.R X.s X.m X.args X.below X.meth X.c H locs k n (xZ X) g
abbrev xL : Type := List (Nat × Value)
abbrev xK : Type := xL → List Value → xH → Nat → Nat → Prop
abbrev xOp : Type := (Nat → xK) → xK
/-- at pc, with these locals, this stack, this heap, and room for rc cells of rs slots: the walk ends well -/
def xG (X : xX) (pc : Nat) : xK := fun ls st h rc rs =>
  ∀ (A : Array Slot) (H : Heap) (locs : List Loc) (k n : Nat), lv_has A X.c.maxLocals ls → x_R X.D X.s h H → x_S X.D X.s.heap H locs → k + rc ≤ X.R.cells → n + rs ≤ X.R.slots → xW X H locs k n (F0 X.m pc A st)
def xCx (X : xX) (cc : ByteArray) (own : String) (nL d : Nat) : Prop :=
  X.p.tables.exec = Jvm.exec ∧ X.c.code = cc ∧ X.c.maxLocals = nL ∧ X.s.vm.findClass own = some X.m.cls ∧ (∀ w ∈ xws, w.before X.args X.s = true) ∧ X.meth.locks = false ∧ x_K X.D X.s ∧ x_E X.D X.s X.s.heap ∧ X.D.sz ≤ X.s.heap.size ∧ X.e.platform.stackTraces = false ∧ d ≤ X.R.frames ∧ 30 * d + 130 ≤ X.R.locals
section XCX
variable {X : xX} {cc : ByteArray} {own : String} {nL d : Nat}
theorem xCx.x (h : xCx X cc own nL d) : X.p.tables.exec = Jvm.exec := h.1
theorem xCx.b (h : xCx X cc own nL d) : X.c.code = cc := h.2.1
theorem xCx.ml (h : xCx X cc own nL d) : X.c.maxLocals = nL := h.2.2.1
theorem xCx.ow (h : xCx X cc own nL d) : X.s.vm.findClass own = some X.m.cls := h.2.2.2.1
theorem xCx.ts (h : xCx X cc own nL d) : ∀ w ∈ xws, w.before X.args X.s = true := h.2.2.2.2.1
theorem xCx.lk (h : xCx X cc own nL d) : X.meth.locks = false := h.2.2.2.2.2.1
theorem xCx.K (h : xCx X cc own nL d) : x_K X.D X.s := h.2.2.2.2.2.2.1
theorem xCx.E (h : xCx X cc own nL d) : x_E X.D X.s X.s.heap := h.2.2.2.2.2.2.2.1
theorem xCx.z (h : xCx X cc own nL d) : X.D.sz ≤ X.s.heap.size := h.2.2.2.2.2.2.2.2.1
theorem xCx.tr (h : xCx X cc own nL d) : X.e.platform.stackTraces = false := h.2.2.2.2.2.2.2.2.2.1
theorem xCx.fr (h : xCx X cc own nL d) : d ≤ X.R.frames := h.2.2.2.2.2.2.2.2.2.2.1
theorem xCx.lo (h : xCx X cc own nL d) : 30 * d + 130 ≤ X.R.locals := h.2.2.2.2.2.2.2.2.2.2.2
end XCX
def xOk (X : xX) (pc : Nat) (o : xOp) : Prop := ∀ K : Nat → xK, (∀ q ls st h rc rs, K q ls st h rc rs → xG X q ls st h rc rs) → ∀ ls st h rc rs, o K ls st h rc rs → xG X pc ls st h rc rs
def xAll (X : xX) : List (Nat × xOp) → Prop
  | [] => True
  | q :: t => xOk X q.1 q.2 ∧ xAll X t
def xlk : List (Nat × xOp) → Nat → xOp
  | [], _ => fun _ _ _ _ _ _ => False
  | q :: t, pc => cond (Nat.beq q.1 pc) q.2 (xlk t pc)
def xrun (X : xX) (tb : List (Nat × xOp)) (cut : List Nat) (n : Nat) : Nat → xK :=
  Nat.rec (fun pc => xG X pc) (fun _ ih pc => cond (cut.any (Nat.beq pc)) (xG X pc) (xlk tb pc ih)) n
theorem xlk_ok {X : xX} : ∀ {tb : List (Nat × xOp)}, xAll X tb → ∀ pc, xOk X pc (xlk tb pc)
  | [], _, _ => fun _ _ _ _ _ _ _ h => h.elim
  | q :: t, h, pc => by
    unfold xlk
    cases e : Nat.beq q.1 pc with
    | true =>
      have e1 : q.1 = pc := Nat.eq_of_beq_eq_true e
      subst e1
      exact h.1
    | false => exact xlk_ok h.2 pc
theorem xrun_ok {X : xX} {tb : List (Nat × xOp)} {cut : List Nat} (hA : xAll X tb) : ∀ (n pc : Nat) ls st h rc rs, xrun X tb cut n pc ls st h rc rs → xG X pc ls st h rc rs := by
  intro n
  induction n with
  | zero => intro pc ls st h rc rs q; exact q
  | succ n ih =>
    intro pc ls st h rc rs q
    change (cond (cut.any (Nat.beq pc)) (xG X pc) (xlk tb pc (xrun X tb cut n))) ls st h rc rs at q
    cases e : cut.any (Nat.beq pc) with
    | true => rw [e] at q; exact q
    | false => rw [e] at q; exact xlk_ok hA pc _ ih _ _ _ _ _ q
theorem xgo {X : xX} {tb : List (Nat × xOp)} (cut : List Nat) (n : Nat) (hA : xAll X tb) {pc : Nat} {ls : xL} {st : List Value} {h : xH} {rc rs : Nat} (q : xlk tb pc (xrun X tb cut n) ls st h rc rs) : xG X pc ls st h rc rs :=
  xlk_ok hA pc _ (xrun_ok hA n) _ _ _ _ _ q
/-- an induction on a measure -/
theorem xind {σ : Type} (P I : σ → Prop) (μ : σ → Nat) (hs : ∀ s, I s → (∀ s', I s' → μ s' < μ s → P s') → P s) : ∀ s, I s → P s := by
  have H : ∀ n s, μ s < n → I s → P s := by
    intro n
    induction n with
    | zero => intro s h; exact absurd h (Nat.not_lt_zero _)
    | succ n ih => intro s h hi; exact hs s hi (fun s' h1 h2 => ih s' (by omega) h1)
  exact fun s hi => H (μ s + 1) s (Nat.lt_succ_self _) hi
/-- less room will do -/
theorem xG.room {X : xX} {pc : Nat} {ls : xL} {st : List Value} {h : xH} {rc rs rc' rs' : Nat} (hG : xG X pc ls st h rc' rs') (h1 : rc' ≤ rc) (h2 : rs' ≤ rs) : xG X pc ls st h rc rs :=
  fun A H locs k n a b c d e => hG A H locs k n a b c (by omega) (by omega)
/-- fewer locals will do -/
theorem xG.locs {X : xX} {pc : Nat} {ls ls' : xL} {st : List Value} {h : xH} {rc rs : Nat} (hG : xG X pc ls' st h rc rs) (hl : ∀ q ∈ ls', q ∈ ls) : xG X pc ls st h rc rs :=
  fun A H locs k n a => hG A H locs k n ⟨a.1, a.2.1, fun q hq => a.2.2 q (hl q hq)⟩
def xget : xL → Nat → Option Value
  | [], _ => none
  | q :: t, i => cond (Nat.beq q.1 i) (some q.2) (xget t i)
theorem xget_mem : ∀ {ls : xL} {i : Nat} {v : Value}, xget ls i = some v → (i, v) ∈ ls
  | [], _, _, h => by cases h
  | q :: t, i, v, h => by
    unfold xget at h
    cases e : Nat.beq q.1 i with
    | true =>
      rw [e] at h
      have e1 : q.1 = i := Nat.eq_of_beq_eq_true e
      subst e1
      cases h
      exact List.mem_cons_self
    | false => rw [e] at h; exact List.mem_cons_of_mem _ (xget_mem h)
theorem xget_at {A : Array Slot} {nL : Nat} {ls : xL} (hl : lv_has A nL ls) {i : Nat} {v : Value} (h : xget ls i = some v) : A[i]? = some (.val v) := hl.2.2 (i, v) (xget_mem h)
def xfo {α : Type} : List α → (List α → Prop) → Prop
  | [], k => k []
  | a :: t, k => xfo t (fun t' => k (a :: t'))
theorem xfo_iff {α : Type} : ∀ (l : List α) (k : List α → Prop), xfo l k ↔ k l
  | [], _ => Iff.rfl
  | a :: t, k => xfo_iff t (fun t' => k (a :: t'))
abbrev xput1 (ls : xL) (i : Nat) (v : Value) : xL := (i, v) :: ls.filter (fun q => !(q.1 == i) && !(q.1 + 1 == i && q.2.category == 2))
abbrev xput2 (ls : xL) (i : Nat) (v : Value) : xL := (i, v) :: ls.filter (fun q => !(q.1 == i) && (!(q.1 == i + 1) && !(q.1 + 1 == i && q.2.category == 2)))
end
section
/-! THE ABSTRACT MACHINE, 3: the operations that touch no heap -/
section XOPS
variable {X : xX} {cc : ByteArray} {own : String} {nL d pc : Nat}
def o_ic (v : Int32) (n : Nat) : xOp := fun K ls st h rc rs => K n ls (.int v :: st) h rc rs
def o_lc (v : Int64) (n : Nat) : xOp := fun K ls st h rc rs => K n ls (.long v :: st) h rc rs
def o_null (n : Nat) : xOp := fun K ls st h rc rs => K n ls (.null :: st) h rc rs
theorem ok_iconst (hC : xCx X cc own nL d) {i : Int} {v : Int32} (hd : decode cc pc = .ok (.iconst i, 1)) (hv : Int32.ofInt i = v) : xOk X pc (o_ic v (pc + 1)) := by
  intro K hK ls st h rc rs ho A H locs k n h1 h2 h3 h4 h5
  exact lv_iconst hC.x hC.b hd hv (hK _ _ _ _ _ _ ho A H locs k n h1 h2 h3 h4 h5)
theorem ok_bipush (hC : xCx X cc own nL d) {i : Int} {v : Int32} (hd : decode cc pc = .ok (.bipush i, 2)) (hv : (Int8.ofInt i).toInt32 = v) : xOk X pc (o_ic v (pc + 2)) := by
  intro K hK ls st h rc rs ho A H locs k n h1 h2 h3 h4 h5
  exact lv_bipush hC.x hC.b hd hv (hK _ _ _ _ _ _ ho A H locs k n h1 h2 h3 h4 h5)
theorem ok_sipush (hC : xCx X cc own nL d) {i : Int} {v : Int32} (hd : decode cc pc = .ok (.sipush i, 3)) (hv : (Int16.ofInt i).toInt32 = v) : xOk X pc (o_ic v (pc + 3)) := by
  intro K hK ls st h rc rs ho A H locs k n h1 h2 h3 h4 h5
  exact lv_sipush hC.x hC.b hd hv (hK _ _ _ _ _ _ ho A H locs k n h1 h2 h3 h4 h5)
theorem ok_ldc (hC : xCx X cc own nL d) {i : Nat} {v : Int32} (hd : decode cc pc = .ok (.ldc i, 2)) (hw : Cond.constant own i v ∈ xws) : xOk X pc (o_ic v (pc + 2)) := by
  intro K hK ls st h rc rs ho A H locs k n h1 h2 h3 h4 h5
  exact lv_ldc hC.x hC.b hC.ow (hC.ts _ hw) hd (hK _ _ _ _ _ _ ho A H locs k n h1 h2 h3 h4 h5)
theorem ok_ldcw (hC : xCx X cc own nL d) {i : Nat} {v : Int32} (hd : decode cc pc = .ok (.ldc_w i, 3)) (hw : Cond.constant own i v ∈ xws) : xOk X pc (o_ic v (pc + 3)) := by
  intro K hK ls st h rc rs ho A H locs k n h1 h2 h3 h4 h5
  exact lv_ldcw hC.x hC.b hC.ow (hC.ts _ hw) hd (hK _ _ _ _ _ _ ho A H locs k n h1 h2 h3 h4 h5)
theorem ok_lconst (hC : xCx X cc own nL d) {i : Fin 2} {v : Int64} (hd : decode cc pc = .ok (.lconst i, 1)) (hv : Int64.ofNat (i : Nat) = v) : xOk X pc (o_lc v (pc + 1)) := by
  intro K hK ls st h rc rs ho A H locs k n h1 h2 h3 h4 h5
  exact lv_lconst hC.x hC.b hd hv (hK _ _ _ _ _ _ ho A H locs k n h1 h2 h3 h4 h5)
theorem ok_ldc2 (hC : xCx X cc own nL d) {i : Nat} {v : Int64} (hd : decode cc pc = .ok (.ldc2_w i, 3)) (hw : Cond.constantLong own i v ∈ xws) : xOk X pc (o_lc v (pc + 3)) := by
  intro K hK ls st h rc rs ho A H locs k n h1 h2 h3 h4 h5
  exact lv_ldc2 hC.x hC.b hC.ow (hC.ts _ hw) hd (hK _ _ _ _ _ _ ho A H locs k n h1 h2 h3 h4 h5)
theorem ok_null (hC : xCx X cc own nL d) (hd : decode cc pc = .ok (.aconst_null, 1)) : xOk X pc (o_null (pc + 1)) := by
  intro K hK ls st h rc rs ho A H locs k n h1 h2 h3 h4 h5
  exact lv_null hC.x hC.b hd (hK _ _ _ _ _ _ ho A H locs k n h1 h2 h3 h4 h5)
def o_ild (i n : Nat) : xOp := fun K ls st h rc rs => match xget ls i with
  | some (.int x) => K n ls (.int x :: st) h rc rs
  | _ => False
def o_lld (i n : Nat) : xOp := fun K ls st h rc rs => match xget ls i with
  | some (.long x) => K n ls (.long x :: st) h rc rs
  | _ => False
def o_ald (i n : Nat) : xOp := fun K ls st h rc rs => match xget ls i with
  | some (.ref x) => K n ls (.ref x :: st) h rc rs
  | some .null => K n ls (.null :: st) h rc rs
  | _ => False
theorem ok_iload (hC : xCx X cc own nL d) {i : Nat} (hd : decode cc pc = .ok (.iload i, 2)) : xOk X pc (o_ild i (pc + 2)) := by
  intro K hK ls st h rc rs ho A H locs k n h1 h2 h3 h4 h5
  unfold o_ild at ho
  split at ho
  · rename_i e
    exact lv_iload hC.x hC.b hd (xget_at h1 e) (hK _ _ _ _ _ _ ho A H locs k n h1 h2 h3 h4 h5)
  · exact ho.elim
theorem ok_iload_n (hC : xCx X cc own nL d) {j : Fin 4} {i : Nat} (hd : decode cc pc = .ok (.iload_n j, 1)) (hi : (j : Nat) = i) : xOk X pc (o_ild i (pc + 1)) := by
  intro K hK ls st h rc rs ho A H locs k n h1 h2 h3 h4 h5
  unfold o_ild at ho
  split at ho
  · rename_i e
    exact lv_iload_n hC.x hC.b hd hi (xget_at h1 e) (hK _ _ _ _ _ _ ho A H locs k n h1 h2 h3 h4 h5)
  · exact ho.elim
theorem ok_lload (hC : xCx X cc own nL d) {i : Nat} (hd : decode cc pc = .ok (.lload i, 2)) : xOk X pc (o_lld i (pc + 2)) := by
  intro K hK ls st h rc rs ho A H locs k n h1 h2 h3 h4 h5
  unfold o_lld at ho
  split at ho
  · rename_i e
    exact lv_lload hC.x hC.b hd (xget_at h1 e) (hK _ _ _ _ _ _ ho A H locs k n h1 h2 h3 h4 h5)
  · exact ho.elim
theorem ok_lload_n (hC : xCx X cc own nL d) {j : Fin 4} {i : Nat} (hd : decode cc pc = .ok (.lload_n j, 1)) (hi : (j : Nat) = i) : xOk X pc (o_lld i (pc + 1)) := by
  intro K hK ls st h rc rs ho A H locs k n h1 h2 h3 h4 h5
  unfold o_lld at ho
  split at ho
  · rename_i e
    exact lv_lload_n hC.x hC.b hd hi (xget_at h1 e) (hK _ _ _ _ _ _ ho A H locs k n h1 h2 h3 h4 h5)
  · exact ho.elim
theorem ok_aload (hC : xCx X cc own nL d) {i : Nat} (hd : decode cc pc = .ok (.aload i, 2)) : xOk X pc (o_ald i (pc + 2)) := by
  intro K hK ls st h rc rs ho A H locs k n h1 h2 h3 h4 h5
  unfold o_ald at ho
  split at ho
  · rename_i e
    exact lv_aload hC.x hC.b hd (xget_at h1 e) (hK _ _ _ _ _ _ ho A H locs k n h1 h2 h3 h4 h5)
  · rename_i e
    exact lv_aloadN hC.x hC.b hd (xget_at h1 e) (hK _ _ _ _ _ _ ho A H locs k n h1 h2 h3 h4 h5)
  · exact ho.elim
theorem ok_aload_n (hC : xCx X cc own nL d) {j : Fin 4} {i : Nat} (hd : decode cc pc = .ok (.aload_n j, 1)) (hi : (j : Nat) = i) : xOk X pc (o_ald i (pc + 1)) := by
  intro K hK ls st h rc rs ho A H locs k n h1 h2 h3 h4 h5
  unfold o_ald at ho
  split at ho
  · rename_i e
    exact lv_aload_n hC.x hC.b hd hi (xget_at h1 e) (hK _ _ _ _ _ _ ho A H locs k n h1 h2 h3 h4 h5)
  · rename_i e
    exact lv_aload_nN hC.x hC.b hd hi (xget_at h1 e) (hK _ _ _ _ _ _ ho A H locs k n h1 h2 h3 h4 h5)
  · exact ho.elim
def o_ist (i n : Nat) : xOp := fun K ls st h rc rs => match st with
  | .int x :: r => xfo (xput1 ls i (.int x)) (fun l => K n l r h rc rs)
  | _ => False
def o_lst (i n : Nat) : xOp := fun K ls st h rc rs => match st with
  | .long x :: r => xfo (xput2 ls i (.long x)) (fun l => K n l r h rc rs)
  | _ => False
def o_ast (i n : Nat) : xOp := fun K ls st h rc rs => match st with
  | .ref x :: r => xfo (xput1 ls i (.ref x)) (fun l => K n l r h rc rs)
  | .null :: r => xfo (xput1 ls i .null) (fun l => K n l r h rc rs)
  | _ => False
theorem ok_istore (hC : xCx X cc own nL d) {i : Nat} (hd : decode cc pc = .ok (.istore i, 2)) (hn : i < nL) : xOk X pc (o_ist i (pc + 2)) := by
  intro K hK ls st h rc rs ho A H locs k n h1 h2 h3 h4 h5
  unfold o_ist at ho
  split at ho
  · rw [xfo_iff] at ho
    exact lv_istore hC.x hC.b hd h1 (by rw [hC.ml]; exact hn) rfl (fun A' h1' => hK _ _ _ _ _ _ ho A' H locs k n h1' h2 h3 h4 h5)
  · exact ho.elim
theorem ok_istore_n (hC : xCx X cc own nL d) {j : Fin 4} {i : Nat} (hd : decode cc pc = .ok (.istore_n j, 1)) (hi : (j : Nat) = i) (hn : i < nL) : xOk X pc (o_ist i (pc + 1)) := by
  intro K hK ls st h rc rs ho A H locs k n h1 h2 h3 h4 h5
  unfold o_ist at ho
  split at ho
  · rw [xfo_iff] at ho
    exact lv_istore_n hC.x hC.b hd hi h1 (by rw [hC.ml]; exact hn) rfl (fun A' h1' => hK _ _ _ _ _ _ ho A' H locs k n h1' h2 h3 h4 h5)
  · exact ho.elim
theorem ok_lstore (hC : xCx X cc own nL d) {i : Nat} (hd : decode cc pc = .ok (.lstore i, 2)) (hn : i + 1 < nL) : xOk X pc (o_lst i (pc + 2)) := by
  intro K hK ls st h rc rs ho A H locs k n h1 h2 h3 h4 h5
  unfold o_lst at ho
  split at ho
  · rw [xfo_iff] at ho
    exact lv_lstore hC.x hC.b hd h1 (by rw [hC.ml]; exact hn) rfl (fun A' h1' => hK _ _ _ _ _ _ ho A' H locs k n h1' h2 h3 h4 h5)
  · exact ho.elim
theorem ok_lstore_n (hC : xCx X cc own nL d) {j : Fin 4} {i : Nat} (hd : decode cc pc = .ok (.lstore_n j, 1)) (hi : (j : Nat) = i) (hn : i + 1 < nL) : xOk X pc (o_lst i (pc + 1)) := by
  intro K hK ls st h rc rs ho A H locs k n h1 h2 h3 h4 h5
  unfold o_lst at ho
  split at ho
  · rw [xfo_iff] at ho
    exact lv_lstore_n hC.x hC.b hd hi h1 (by rw [hC.ml]; exact hn) rfl (fun A' h1' => hK _ _ _ _ _ _ ho A' H locs k n h1' h2 h3 h4 h5)
  · exact ho.elim
theorem ok_astore (hC : xCx X cc own nL d) {i : Nat} (hd : decode cc pc = .ok (.astore i, 2)) (hn : i < nL) : xOk X pc (o_ast i (pc + 2)) := by
  intro K hK ls st h rc rs ho A H locs k n h1 h2 h3 h4 h5
  unfold o_ast at ho
  split at ho
  · rw [xfo_iff] at ho
    exact lv_astore hC.x hC.b hd h1 (by rw [hC.ml]; exact hn) rfl (fun A' h1' => hK _ _ _ _ _ _ ho A' H locs k n h1' h2 h3 h4 h5)
  · rw [xfo_iff] at ho
    exact lv_astoreN hC.x hC.b hd h1 (by rw [hC.ml]; exact hn) rfl (fun A' h1' => hK _ _ _ _ _ _ ho A' H locs k n h1' h2 h3 h4 h5)
  · exact ho.elim
theorem ok_astore_n (hC : xCx X cc own nL d) {j : Fin 4} {i : Nat} (hd : decode cc pc = .ok (.astore_n j, 1)) (hi : (j : Nat) = i) (hn : i < nL) : xOk X pc (o_ast i (pc + 1)) := by
  intro K hK ls st h rc rs ho A H locs k n h1 h2 h3 h4 h5
  unfold o_ast at ho
  split at ho
  · rw [xfo_iff] at ho
    exact lv_astore_n hC.x hC.b hd hi h1 (by rw [hC.ml]; exact hn) rfl (fun A' h1' => hK _ _ _ _ _ _ ho A' H locs k n h1' h2 h3 h4 h5)
  · rw [xfo_iff] at ho
    exact lv_astore_nN hC.x hC.b hd hi h1 (by rw [hC.ml]; exact hn) rfl (fun A' h1' => hK _ _ _ _ _ _ ho A' H locs k n h1' h2 h3 h4 h5)
  · exact ho.elim
def o_inc (i : Nat) (v : Int32) (n : Nat) : xOp := fun K ls st h rc rs => match xget ls i with
  | some (.int x) => xfo (xput1 ls i (.int (x + v))) (fun l => K n l st h rc rs)
  | _ => False
theorem ok_iinc (hC : xCx X cc own nL d) {i : Nat} {z : Int} {v : Int32} (hd : decode cc pc = .ok (.iinc i z, 3)) (hv : Int32.ofInt z = v) (hn : i < nL) : xOk X pc (o_inc i v (pc + 3)) := by
  intro K hK ls st h rc rs ho A H locs k n h1 h2 h3 h4 h5
  unfold o_inc at ho
  split at ho
  · rename_i e
    rw [xfo_iff] at ho
    obtain ⟨j, hj⟩ := List.getElem?_of_mem (xget_mem e)
    exact lv_iinc hC.x hC.b hd h1 hj (by rw [hv]) (by rw [hC.ml]; exact hn) rfl (fun A' h1' => hK _ _ _ _ _ _ ho A' H locs k n h1' h2 h3 h4 h5)
  · exact ho.elim
def o_iadd (n : Nat) : xOp := fun K ls st h rc rs => match st with
  | .int y :: .int x :: r => K n ls (.int (x + y) :: r) h rc rs
  | _ => False
theorem ok_iadd (hC : xCx X cc own nL d) (hd : decode cc pc = .ok (.iadd, 1)) : xOk X pc (o_iadd (pc + 1)) := by
  intro K hK ls st h rc rs ho A H locs k n h1 h2 h3 h4 h5
  unfold o_iadd at ho
  split at ho
  · exact lv_iadd hC.x hC.b hd (hK _ _ _ _ _ _ ho A H locs k n h1 h2 h3 h4 h5)
  · exact ho.elim
def o_isub (n : Nat) : xOp := fun K ls st h rc rs => match st with
  | .int y :: .int x :: r => K n ls (.int (x - y) :: r) h rc rs
  | _ => False
theorem ok_isub (hC : xCx X cc own nL d) (hd : decode cc pc = .ok (.isub, 1)) : xOk X pc (o_isub (pc + 1)) := by
  intro K hK ls st h rc rs ho A H locs k n h1 h2 h3 h4 h5
  unfold o_isub at ho
  split at ho
  · exact lv_isub hC.x hC.b hd (hK _ _ _ _ _ _ ho A H locs k n h1 h2 h3 h4 h5)
  · exact ho.elim
def o_imul (n : Nat) : xOp := fun K ls st h rc rs => match st with
  | .int y :: .int x :: r => K n ls (.int (x * y) :: r) h rc rs
  | _ => False
theorem ok_imul (hC : xCx X cc own nL d) (hd : decode cc pc = .ok (.imul, 1)) : xOk X pc (o_imul (pc + 1)) := by
  intro K hK ls st h rc rs ho A H locs k n h1 h2 h3 h4 h5
  unfold o_imul at ho
  split at ho
  · exact lv_imul hC.x hC.b hd (hK _ _ _ _ _ _ ho A H locs k n h1 h2 h3 h4 h5)
  · exact ho.elim
def o_iand (n : Nat) : xOp := fun K ls st h rc rs => match st with
  | .int y :: .int x :: r => K n ls (.int (x &&& y) :: r) h rc rs
  | _ => False
theorem ok_iand (hC : xCx X cc own nL d) (hd : decode cc pc = .ok (.iand, 1)) : xOk X pc (o_iand (pc + 1)) := by
  intro K hK ls st h rc rs ho A H locs k n h1 h2 h3 h4 h5
  unfold o_iand at ho
  split at ho
  · exact lv_iand hC.x hC.b hd (hK _ _ _ _ _ _ ho A H locs k n h1 h2 h3 h4 h5)
  · exact ho.elim
def o_ior (n : Nat) : xOp := fun K ls st h rc rs => match st with
  | .int y :: .int x :: r => K n ls (.int (x ||| y) :: r) h rc rs
  | _ => False
theorem ok_ior (hC : xCx X cc own nL d) (hd : decode cc pc = .ok (.ior, 1)) : xOk X pc (o_ior (pc + 1)) := by
  intro K hK ls st h rc rs ho A H locs k n h1 h2 h3 h4 h5
  unfold o_ior at ho
  split at ho
  · exact lv_ior hC.x hC.b hd (hK _ _ _ _ _ _ ho A H locs k n h1 h2 h3 h4 h5)
  · exact ho.elim
def o_ixor (n : Nat) : xOp := fun K ls st h rc rs => match st with
  | .int y :: .int x :: r => K n ls (.int (x ^^^ y) :: r) h rc rs
  | _ => False
theorem ok_ixor (hC : xCx X cc own nL d) (hd : decode cc pc = .ok (.ixor, 1)) : xOk X pc (o_ixor (pc + 1)) := by
  intro K hK ls st h rc rs ho A H locs k n h1 h2 h3 h4 h5
  unfold o_ixor at ho
  split at ho
  · exact lv_ixor hC.x hC.b hd (hK _ _ _ _ _ _ ho A H locs k n h1 h2 h3 h4 h5)
  · exact ho.elim
def o_ishl (n : Nat) : xOp := fun K ls st h rc rs => match st with
  | .int y :: .int x :: r => K n ls (.int (x <<< (y &&& 31)) :: r) h rc rs
  | _ => False
theorem ok_ishl (hC : xCx X cc own nL d) (hd : decode cc pc = .ok (.ishl, 1)) : xOk X pc (o_ishl (pc + 1)) := by
  intro K hK ls st h rc rs ho A H locs k n h1 h2 h3 h4 h5
  unfold o_ishl at ho
  split at ho
  · exact lv_ishl hC.x hC.b hd (hK _ _ _ _ _ _ ho A H locs k n h1 h2 h3 h4 h5)
  · exact ho.elim
def o_ishr (n : Nat) : xOp := fun K ls st h rc rs => match st with
  | .int y :: .int x :: r => K n ls (.int (x >>> (y &&& 31)) :: r) h rc rs
  | _ => False
theorem ok_ishr (hC : xCx X cc own nL d) (hd : decode cc pc = .ok (.ishr, 1)) : xOk X pc (o_ishr (pc + 1)) := by
  intro K hK ls st h rc rs ho A H locs k n h1 h2 h3 h4 h5
  unfold o_ishr at ho
  split at ho
  · exact lv_ishr hC.x hC.b hd (hK _ _ _ _ _ _ ho A H locs k n h1 h2 h3 h4 h5)
  · exact ho.elim
def o_iushr (n : Nat) : xOp := fun K ls st h rc rs => match st with
  | .int y :: .int x :: r => K n ls (.int ((x.toUInt32 >>> (y.toUInt32 &&& Int32.toUInt32 31)).toInt32) :: r) h rc rs
  | _ => False
theorem ok_iushr (hC : xCx X cc own nL d) (hd : decode cc pc = .ok (.iushr, 1)) : xOk X pc (o_iushr (pc + 1)) := by
  intro K hK ls st h rc rs ho A H locs k n h1 h2 h3 h4 h5
  unfold o_iushr at ho
  split at ho
  · exact lv_iushr hC.x hC.b hd rfl (hK _ _ _ _ _ _ ho A H locs k n h1 h2 h3 h4 h5)
  · exact ho.elim
def o_idiv (n : Nat) : xOp := fun K ls st h rc rs => match st with
  | .int y :: .int x :: r => ¬ y = 0 ∧ K n ls (.int (x / y) :: r) h rc rs
  | _ => False
theorem ok_idiv (hC : xCx X cc own nL d) (hd : decode cc pc = .ok (.idiv, 1)) : xOk X pc (o_idiv (pc + 1)) := by
  intro K hK ls st h rc rs ho A H locs k n h1 h2 h3 h4 h5
  unfold o_idiv at ho
  split at ho
  · exact lv_idiv hC.x hC.b hd ho.1 (hK _ _ _ _ _ _ ho.2 A H locs k n h1 h2 h3 h4 h5)
  · exact ho.elim
def o_irem (n : Nat) : xOp := fun K ls st h rc rs => match st with
  | .int y :: .int x :: r => ¬ y = 0 ∧ K n ls (.int (x - x / y * y) :: r) h rc rs
  | _ => False
theorem ok_irem (hC : xCx X cc own nL d) (hd : decode cc pc = .ok (.irem, 1)) : xOk X pc (o_irem (pc + 1)) := by
  intro K hK ls st h rc rs ho A H locs k n h1 h2 h3 h4 h5
  unfold o_irem at ho
  split at ho
  · exact lv_irem hC.x hC.b hd ho.1 (hK _ _ _ _ _ _ ho.2 A H locs k n h1 h2 h3 h4 h5)
  · exact ho.elim
def o_ladd (n : Nat) : xOp := fun K ls st h rc rs => match st with
  | .long y :: .long x :: r => K n ls (.long (x + y) :: r) h rc rs
  | _ => False
theorem ok_ladd (hC : xCx X cc own nL d) (hd : decode cc pc = .ok (.ladd, 1)) : xOk X pc (o_ladd (pc + 1)) := by
  intro K hK ls st h rc rs ho A H locs k n h1 h2 h3 h4 h5
  unfold o_ladd at ho
  split at ho
  · exact lv_ladd hC.x hC.b hd (hK _ _ _ _ _ _ ho A H locs k n h1 h2 h3 h4 h5)
  · exact ho.elim
def o_lsub (n : Nat) : xOp := fun K ls st h rc rs => match st with
  | .long y :: .long x :: r => K n ls (.long (x - y) :: r) h rc rs
  | _ => False
theorem ok_lsub (hC : xCx X cc own nL d) (hd : decode cc pc = .ok (.lsub, 1)) : xOk X pc (o_lsub (pc + 1)) := by
  intro K hK ls st h rc rs ho A H locs k n h1 h2 h3 h4 h5
  unfold o_lsub at ho
  split at ho
  · exact lv_lsub hC.x hC.b hd (hK _ _ _ _ _ _ ho A H locs k n h1 h2 h3 h4 h5)
  · exact ho.elim
def o_lmul (n : Nat) : xOp := fun K ls st h rc rs => match st with
  | .long y :: .long x :: r => K n ls (.long (x * y) :: r) h rc rs
  | _ => False
theorem ok_lmul (hC : xCx X cc own nL d) (hd : decode cc pc = .ok (.lmul, 1)) : xOk X pc (o_lmul (pc + 1)) := by
  intro K hK ls st h rc rs ho A H locs k n h1 h2 h3 h4 h5
  unfold o_lmul at ho
  split at ho
  · exact lv_lmul hC.x hC.b hd (hK _ _ _ _ _ _ ho A H locs k n h1 h2 h3 h4 h5)
  · exact ho.elim
def o_land (n : Nat) : xOp := fun K ls st h rc rs => match st with
  | .long y :: .long x :: r => K n ls (.long (x &&& y) :: r) h rc rs
  | _ => False
theorem ok_land (hC : xCx X cc own nL d) (hd : decode cc pc = .ok (.land, 1)) : xOk X pc (o_land (pc + 1)) := by
  intro K hK ls st h rc rs ho A H locs k n h1 h2 h3 h4 h5
  unfold o_land at ho
  split at ho
  · exact lv_land hC.x hC.b hd (hK _ _ _ _ _ _ ho A H locs k n h1 h2 h3 h4 h5)
  · exact ho.elim
def o_lor (n : Nat) : xOp := fun K ls st h rc rs => match st with
  | .long y :: .long x :: r => K n ls (.long (x ||| y) :: r) h rc rs
  | _ => False
theorem ok_lor (hC : xCx X cc own nL d) (hd : decode cc pc = .ok (.lor, 1)) : xOk X pc (o_lor (pc + 1)) := by
  intro K hK ls st h rc rs ho A H locs k n h1 h2 h3 h4 h5
  unfold o_lor at ho
  split at ho
  · exact lv_lor hC.x hC.b hd (hK _ _ _ _ _ _ ho A H locs k n h1 h2 h3 h4 h5)
  · exact ho.elim
def o_lxor (n : Nat) : xOp := fun K ls st h rc rs => match st with
  | .long y :: .long x :: r => K n ls (.long (x ^^^ y) :: r) h rc rs
  | _ => False
theorem ok_lxor (hC : xCx X cc own nL d) (hd : decode cc pc = .ok (.lxor, 1)) : xOk X pc (o_lxor (pc + 1)) := by
  intro K hK ls st h rc rs ho A H locs k n h1 h2 h3 h4 h5
  unfold o_lxor at ho
  split at ho
  · exact lv_lxor hC.x hC.b hd (hK _ _ _ _ _ _ ho A H locs k n h1 h2 h3 h4 h5)
  · exact ho.elim
def o_ldiv (n : Nat) : xOp := fun K ls st h rc rs => match st with
  | .long y :: .long x :: r => ¬ y = 0 ∧ K n ls (.long (x / y) :: r) h rc rs
  | _ => False
theorem ok_ldiv (hC : xCx X cc own nL d) (hd : decode cc pc = .ok (.ldiv, 1)) : xOk X pc (o_ldiv (pc + 1)) := by
  intro K hK ls st h rc rs ho A H locs k n h1 h2 h3 h4 h5
  unfold o_ldiv at ho
  split at ho
  · exact lv_ldiv hC.x hC.b hd ho.1 (hK _ _ _ _ _ _ ho.2 A H locs k n h1 h2 h3 h4 h5)
  · exact ho.elim
def o_lrem (n : Nat) : xOp := fun K ls st h rc rs => match st with
  | .long y :: .long x :: r => ¬ y = 0 ∧ K n ls (.long (x - x / y * y) :: r) h rc rs
  | _ => False
theorem ok_lrem (hC : xCx X cc own nL d) (hd : decode cc pc = .ok (.lrem, 1)) : xOk X pc (o_lrem (pc + 1)) := by
  intro K hK ls st h rc rs ho A H locs k n h1 h2 h3 h4 h5
  unfold o_lrem at ho
  split at ho
  · exact lv_lrem hC.x hC.b hd ho.1 (hK _ _ _ _ _ _ ho.2 A H locs k n h1 h2 h3 h4 h5)
  · exact ho.elim
def o_lshl (n : Nat) : xOp := fun K ls st h rc rs => match st with
  | .int y :: .long x :: r => K n ls (.long (x <<< (y.toInt64 &&& 63)) :: r) h rc rs
  | _ => False
theorem ok_lshl (hC : xCx X cc own nL d) (hd : decode cc pc = .ok (.lshl, 1)) : xOk X pc (o_lshl (pc + 1)) := by
  intro K hK ls st h rc rs ho A H locs k n h1 h2 h3 h4 h5
  unfold o_lshl at ho
  split at ho
  · exact lv_lshl hC.x hC.b hd rfl (hK _ _ _ _ _ _ ho A H locs k n h1 h2 h3 h4 h5)
  · exact ho.elim
def o_lcmp (n : Nat) : xOp := fun K ls st h rc rs => match st with
  | .long y :: .long x :: r => K n ls (.int (lg_cmp x y) :: r) h rc rs
  | _ => False
theorem ok_lcmp (hC : xCx X cc own nL d) (hd : decode cc pc = .ok (.lcmp, 1)) : xOk X pc (o_lcmp (pc + 1)) := by
  intro K hK ls st h rc rs ho A H locs k n h1 h2 h3 h4 h5
  unfold o_lcmp at ho
  split at ho
  · exact W.lcmp hC.x hC.b hd (hK _ _ _ _ _ _ ho A H locs k n h1 h2 h3 h4 h5)
  · exact ho.elim
def o_ineg (n : Nat) : xOp := fun K ls st h rc rs => match st with
  | .int x :: r => K n ls (.int (-x) :: r) h rc rs
  | _ => False
theorem ok_ineg (hC : xCx X cc own nL d) (hd : decode cc pc = .ok (.ineg, 1)) : xOk X pc (o_ineg (pc + 1)) := by
  intro K hK ls st h rc rs ho A H locs k n h1 h2 h3 h4 h5
  unfold o_ineg at ho
  split at ho
  · exact lv_ineg hC.x hC.b hd (hK _ _ _ _ _ _ ho A H locs k n h1 h2 h3 h4 h5)
  · exact ho.elim
def o_i2l (n : Nat) : xOp := fun K ls st h rc rs => match st with
  | .int x :: r => K n ls (.long x.toInt64 :: r) h rc rs
  | _ => False
theorem ok_i2l (hC : xCx X cc own nL d) (hd : decode cc pc = .ok (.i2l, 1)) : xOk X pc (o_i2l (pc + 1)) := by
  intro K hK ls st h rc rs ho A H locs k n h1 h2 h3 h4 h5
  unfold o_i2l at ho
  split at ho
  · exact lv_i2l hC.x hC.b hd rfl (hK _ _ _ _ _ _ ho A H locs k n h1 h2 h3 h4 h5)
  · exact ho.elim
def o_l2i (n : Nat) : xOp := fun K ls st h rc rs => match st with
  | .long x :: r => K n ls (.int x.toInt32 :: r) h rc rs
  | _ => False
theorem ok_l2i (hC : xCx X cc own nL d) (hd : decode cc pc = .ok (.l2i, 1)) : xOk X pc (o_l2i (pc + 1)) := by
  intro K hK ls st h rc rs ho A H locs k n h1 h2 h3 h4 h5
  unfold o_l2i at ho
  split at ho
  · exact lv_l2i hC.x hC.b hd rfl (hK _ _ _ _ _ _ ho A H locs k n h1 h2 h3 h4 h5)
  · exact ho.elim
def o_i2b (n : Nat) : xOp := fun K ls st h rc rs => match st with
  | .int x :: r => K n ls (.int x.toInt8.toInt32 :: r) h rc rs
  | _ => False
theorem ok_i2b (hC : xCx X cc own nL d) (hd : decode cc pc = .ok (.i2b, 1)) : xOk X pc (o_i2b (pc + 1)) := by
  intro K hK ls st h rc rs ho A H locs k n h1 h2 h3 h4 h5
  unfold o_i2b at ho
  split at ho
  · exact lv_i2b hC.x hC.b hd rfl (hK _ _ _ _ _ _ ho A H locs k n h1 h2 h3 h4 h5)
  · exact ho.elim
theorem xcat {v : Value} {n : Nat} (h : Nat.beq v.category n = true) : v.category = n := Nat.eq_of_beq_eq_true h
def xif (b : Bool) (q : Prop) : Prop := match b with
  | true => q
  | false => False
theorem xif_iff {b : Bool} {q : Prop} (h : xif b q) : b = true ∧ q := by
  cases b with
  | true => exact ⟨rfl, h⟩
  | false => exact h.elim
def o_dup (n : Nat) : xOp := fun K ls st h rc rs => match st with
  | v :: r => xif (Nat.beq v.category 1) (K n ls (v :: v :: r) h rc rs)
  | _ => False
theorem ok_dup (hC : xCx X cc own nL d) (hd : decode cc pc = .ok (.dup, 1)) : xOk X pc (o_dup (pc + 1)) := by
  intro K hK ls st h rc rs ho A H locs k n h1 h2 h3 h4 h5
  unfold o_dup at ho
  split at ho
  · obtain ⟨e1, ho⟩ := xif_iff ho
    exact lv_dup hC.x hC.b hd (xcat e1) (hK _ _ _ _ _ _ ho A H locs k n h1 h2 h3 h4 h5)
  · exact ho.elim
def o_pop (n : Nat) : xOp := fun K ls st h rc rs => match st with
  | v :: r => xif (Nat.beq v.category 1) (K n ls r h rc rs)
  | _ => False
theorem ok_pop (hC : xCx X cc own nL d) (hd : decode cc pc = .ok (.pop, 1)) : xOk X pc (o_pop (pc + 1)) := by
  intro K hK ls st h rc rs ho A H locs k n h1 h2 h3 h4 h5
  unfold o_pop at ho
  split at ho
  · obtain ⟨e1, ho⟩ := xif_iff ho
    exact lv_pop hC.x hC.b hd (xcat e1) (hK _ _ _ _ _ _ ho A H locs k n h1 h2 h3 h4 h5)
  · exact ho.elim
def o_pop2 (n : Nat) : xOp := fun K ls st h rc rs => match st with
  | v :: r => xif (Nat.beq v.category 2) (K n ls r h rc rs)
  | _ => False
theorem ok_pop2 (hC : xCx X cc own nL d) (hd : decode cc pc = .ok (.pop2, 1)) : xOk X pc (o_pop2 (pc + 1)) := by
  intro K hK ls st h rc rs ho A H locs k n h1 h2 h3 h4 h5
  unfold o_pop2 at ho
  split at ho
  · obtain ⟨e1, ho⟩ := xif_iff ho
    exact lv_pop2_2 hC.x hC.b hd (xcat e1) (hK _ _ _ _ _ _ ho A H locs k n h1 h2 h3 h4 h5)
  · exact ho.elim
def o_dup_x1 (n : Nat) : xOp := fun K ls st h rc rs => match st with
  | v :: w :: r => xif (Nat.beq v.category 1) (xif (Nat.beq w.category 1) (K n ls (v :: w :: v :: r) h rc rs))
  | _ => False
theorem ok_dup_x1 (hC : xCx X cc own nL d) (hd : decode cc pc = .ok (.dup_x1, 1)) : xOk X pc (o_dup_x1 (pc + 1)) := by
  intro K hK ls st h rc rs ho A H locs k n h1 h2 h3 h4 h5
  unfold o_dup_x1 at ho
  split at ho
  · obtain ⟨e1, ho⟩ := xif_iff ho
    obtain ⟨e2, ho⟩ := xif_iff ho
    exact lv_dup_x1 hC.x hC.b hd (xcat e1) (xcat e2) (hK _ _ _ _ _ _ ho A H locs k n h1 h2 h3 h4 h5)
  · exact ho.elim
def o_dup_x2 (n : Nat) : xOp := fun K ls st h rc rs => match st with
  | v :: w :: u :: r => xif (Nat.beq v.category 1) (xif (Nat.beq w.category 1) (xif (Nat.beq u.category 1) (K n ls (v :: w :: u :: v :: r) h rc rs)))
  | _ => False
theorem ok_dup_x2 (hC : xCx X cc own nL d) (hd : decode cc pc = .ok (.dup_x2, 1)) : xOk X pc (o_dup_x2 (pc + 1)) := by
  intro K hK ls st h rc rs ho A H locs k n h1 h2 h3 h4 h5
  unfold o_dup_x2 at ho
  split at ho
  · obtain ⟨e1, ho⟩ := xif_iff ho
    obtain ⟨e2, ho⟩ := xif_iff ho
    obtain ⟨e3, ho⟩ := xif_iff ho
    exact lv_dup_x2 hC.x hC.b hd (xcat e1) (xcat e2) (xcat e3) (hK _ _ _ _ _ _ ho A H locs k n h1 h2 h3 h4 h5)
  · exact ho.elim
def o_dup2 (n : Nat) : xOp := fun K ls st h rc rs => match st with
  | v :: w :: r => xif (Nat.beq v.category 1) (xif (Nat.beq w.category 1) (K n ls (v :: w :: v :: w :: r) h rc rs))
  | _ => False
theorem ok_dup2 (hC : xCx X cc own nL d) (hd : decode cc pc = .ok (.dup2, 1)) : xOk X pc (o_dup2 (pc + 1)) := by
  intro K hK ls st h rc rs ho A H locs k n h1 h2 h3 h4 h5
  unfold o_dup2 at ho
  split at ho
  · obtain ⟨e1, ho⟩ := xif_iff ho
    obtain ⟨e2, ho⟩ := xif_iff ho
    exact lv_dup2_11 hC.x hC.b hd (xcat e1) (xcat e2) (hK _ _ _ _ _ _ ho A H locs k n h1 h2 h3 h4 h5)
  · exact ho.elim
def o_dup2L (n : Nat) : xOp := fun K ls st h rc rs => match st with
  | v :: r => xif (Nat.beq v.category 2) (K n ls (v :: v :: r) h rc rs)
  | _ => False
theorem ok_dup2L (hC : xCx X cc own nL d) (hd : decode cc pc = .ok (.dup2, 1)) : xOk X pc (o_dup2L (pc + 1)) := by
  intro K hK ls st h rc rs ho A H locs k n h1 h2 h3 h4 h5
  unfold o_dup2L at ho
  split at ho
  · obtain ⟨e1, ho⟩ := xif_iff ho
    exact lv_dup2_2 hC.x hC.b hd (xcat e1) (hK _ _ _ _ _ _ ho A H locs k n h1 h2 h3 h4 h5)
  · exact ho.elim
def o_goto (t : Nat) : xOp := fun K ls st h rc rs => K t ls st h rc rs
theorem ok_goto (hC : xCx X cc own nL d) {off : Int} {t : Nat} (hd : decode cc pc = .ok (.goto off, 3)) (ht : (pc : Int) + off = (t : Int)) : xOk X pc (o_goto t) := by
  intro K hK ls st h rc rs ho A H locs k n h1 h2 h3 h4 h5
  exact lv_goto hC.x hC.b hd ht (hK _ _ _ _ _ _ ho A H locs k n h1 h2 h3 h4 h5)
def o_ifeq (t n : Nat) : xOp := fun K ls st h rc rs => match st with
  | .int x :: r => (x = 0 → K t ls r h rc rs) ∧ (¬ x = 0 → K n ls r h rc rs)
  | _ => False
theorem ok_ifeq (hC : xCx X cc own nL d) {off : Int} {t : Nat} (hd : decode cc pc = .ok (.ifCond .eq off, 3)) (ht : (pc : Int) + off = (t : Int)) : xOk X pc (o_ifeq t (pc + 3)) := by
  intro K hK ls st h rc rs ho A H locs k n h1 h2 h3 h4 h5
  unfold o_ifeq at ho
  split at ho
  · exact lv_if_eq hC.x hC.b hd ht (fun z => hK _ _ _ _ _ _ (ho.1 z) A H locs k n h1 h2 h3 h4 h5) (fun z => hK _ _ _ _ _ _ (ho.2 z) A H locs k n h1 h2 h3 h4 h5)
  · exact ho.elim
def o_ifne (t n : Nat) : xOp := fun K ls st h rc rs => match st with
  | .int x :: r => (¬ x = 0 → K t ls r h rc rs) ∧ (x = 0 → K n ls r h rc rs)
  | _ => False
theorem ok_ifne (hC : xCx X cc own nL d) {off : Int} {t : Nat} (hd : decode cc pc = .ok (.ifCond .ne off, 3)) (ht : (pc : Int) + off = (t : Int)) : xOk X pc (o_ifne t (pc + 3)) := by
  intro K hK ls st h rc rs ho A H locs k n h1 h2 h3 h4 h5
  unfold o_ifne at ho
  split at ho
  · exact lv_if_ne hC.x hC.b hd ht (fun z => hK _ _ _ _ _ _ (ho.1 z) A H locs k n h1 h2 h3 h4 h5) (fun z => hK _ _ _ _ _ _ (ho.2 z) A H locs k n h1 h2 h3 h4 h5)
  · exact ho.elim
def o_iflt (t n : Nat) : xOp := fun K ls st h rc rs => match st with
  | .int x :: r => (x < 0 → K t ls r h rc rs) ∧ (¬ x < 0 → K n ls r h rc rs)
  | _ => False
theorem ok_iflt (hC : xCx X cc own nL d) {off : Int} {t : Nat} (hd : decode cc pc = .ok (.ifCond .lt off, 3)) (ht : (pc : Int) + off = (t : Int)) : xOk X pc (o_iflt t (pc + 3)) := by
  intro K hK ls st h rc rs ho A H locs k n h1 h2 h3 h4 h5
  unfold o_iflt at ho
  split at ho
  · exact lv_if_lt hC.x hC.b hd ht (fun z => hK _ _ _ _ _ _ (ho.1 z) A H locs k n h1 h2 h3 h4 h5) (fun z => hK _ _ _ _ _ _ (ho.2 z) A H locs k n h1 h2 h3 h4 h5)
  · exact ho.elim
def o_ifge (t n : Nat) : xOp := fun K ls st h rc rs => match st with
  | .int x :: r => (0 ≤ x → K t ls r h rc rs) ∧ (¬ 0 ≤ x → K n ls r h rc rs)
  | _ => False
theorem ok_ifge (hC : xCx X cc own nL d) {off : Int} {t : Nat} (hd : decode cc pc = .ok (.ifCond .ge off, 3)) (ht : (pc : Int) + off = (t : Int)) : xOk X pc (o_ifge t (pc + 3)) := by
  intro K hK ls st h rc rs ho A H locs k n h1 h2 h3 h4 h5
  unfold o_ifge at ho
  split at ho
  · exact lv_if_ge hC.x hC.b hd ht (fun z => hK _ _ _ _ _ _ (ho.1 z) A H locs k n h1 h2 h3 h4 h5) (fun z => hK _ _ _ _ _ _ (ho.2 z) A H locs k n h1 h2 h3 h4 h5)
  · exact ho.elim
def o_ifgt (t n : Nat) : xOp := fun K ls st h rc rs => match st with
  | .int x :: r => (0 < x → K t ls r h rc rs) ∧ (¬ 0 < x → K n ls r h rc rs)
  | _ => False
theorem ok_ifgt (hC : xCx X cc own nL d) {off : Int} {t : Nat} (hd : decode cc pc = .ok (.ifCond .gt off, 3)) (ht : (pc : Int) + off = (t : Int)) : xOk X pc (o_ifgt t (pc + 3)) := by
  intro K hK ls st h rc rs ho A H locs k n h1 h2 h3 h4 h5
  unfold o_ifgt at ho
  split at ho
  · exact lv_if_gt hC.x hC.b hd ht (fun z => hK _ _ _ _ _ _ (ho.1 z) A H locs k n h1 h2 h3 h4 h5) (fun z => hK _ _ _ _ _ _ (ho.2 z) A H locs k n h1 h2 h3 h4 h5)
  · exact ho.elim
def o_ifle (t n : Nat) : xOp := fun K ls st h rc rs => match st with
  | .int x :: r => (x ≤ 0 → K t ls r h rc rs) ∧ (¬ x ≤ 0 → K n ls r h rc rs)
  | _ => False
theorem ok_ifle (hC : xCx X cc own nL d) {off : Int} {t : Nat} (hd : decode cc pc = .ok (.ifCond .le off, 3)) (ht : (pc : Int) + off = (t : Int)) : xOk X pc (o_ifle t (pc + 3)) := by
  intro K hK ls st h rc rs ho A H locs k n h1 h2 h3 h4 h5
  unfold o_ifle at ho
  split at ho
  · exact lv_if_le hC.x hC.b hd ht (fun z => hK _ _ _ _ _ _ (ho.1 z) A H locs k n h1 h2 h3 h4 h5) (fun z => hK _ _ _ _ _ _ (ho.2 z) A H locs k n h1 h2 h3 h4 h5)
  · exact ho.elim
def o_iceq (t n : Nat) : xOp := fun K ls st h rc rs => match st with
  | .int y :: .int x :: r => (x = y → K t ls r h rc rs) ∧ (¬ x = y → K n ls r h rc rs)
  | _ => False
theorem ok_iceq (hC : xCx X cc own nL d) {off : Int} {t : Nat} (hd : decode cc pc = .ok (.if_icmp .eq off, 3)) (ht : (pc : Int) + off = (t : Int)) : xOk X pc (o_iceq t (pc + 3)) := by
  intro K hK ls st h rc rs ho A H locs k n h1 h2 h3 h4 h5
  unfold o_iceq at ho
  split at ho
  · exact lv_icmp_eq hC.x hC.b hd ht (fun z => hK _ _ _ _ _ _ (ho.1 z) A H locs k n h1 h2 h3 h4 h5) (fun z => hK _ _ _ _ _ _ (ho.2 z) A H locs k n h1 h2 h3 h4 h5)
  · exact ho.elim
def o_icne (t n : Nat) : xOp := fun K ls st h rc rs => match st with
  | .int y :: .int x :: r => (¬ x = y → K t ls r h rc rs) ∧ (x = y → K n ls r h rc rs)
  | _ => False
theorem ok_icne (hC : xCx X cc own nL d) {off : Int} {t : Nat} (hd : decode cc pc = .ok (.if_icmp .ne off, 3)) (ht : (pc : Int) + off = (t : Int)) : xOk X pc (o_icne t (pc + 3)) := by
  intro K hK ls st h rc rs ho A H locs k n h1 h2 h3 h4 h5
  unfold o_icne at ho
  split at ho
  · exact lv_icmp_ne hC.x hC.b hd ht (fun z => hK _ _ _ _ _ _ (ho.1 z) A H locs k n h1 h2 h3 h4 h5) (fun z => hK _ _ _ _ _ _ (ho.2 z) A H locs k n h1 h2 h3 h4 h5)
  · exact ho.elim
def o_iclt (t n : Nat) : xOp := fun K ls st h rc rs => match st with
  | .int y :: .int x :: r => (x < y → K t ls r h rc rs) ∧ (¬ x < y → K n ls r h rc rs)
  | _ => False
theorem ok_iclt (hC : xCx X cc own nL d) {off : Int} {t : Nat} (hd : decode cc pc = .ok (.if_icmp .lt off, 3)) (ht : (pc : Int) + off = (t : Int)) : xOk X pc (o_iclt t (pc + 3)) := by
  intro K hK ls st h rc rs ho A H locs k n h1 h2 h3 h4 h5
  unfold o_iclt at ho
  split at ho
  · exact lv_icmp_lt hC.x hC.b hd ht (fun z => hK _ _ _ _ _ _ (ho.1 z) A H locs k n h1 h2 h3 h4 h5) (fun z => hK _ _ _ _ _ _ (ho.2 z) A H locs k n h1 h2 h3 h4 h5)
  · exact ho.elim
def o_icge (t n : Nat) : xOp := fun K ls st h rc rs => match st with
  | .int y :: .int x :: r => (y ≤ x → K t ls r h rc rs) ∧ (¬ y ≤ x → K n ls r h rc rs)
  | _ => False
theorem ok_icge (hC : xCx X cc own nL d) {off : Int} {t : Nat} (hd : decode cc pc = .ok (.if_icmp .ge off, 3)) (ht : (pc : Int) + off = (t : Int)) : xOk X pc (o_icge t (pc + 3)) := by
  intro K hK ls st h rc rs ho A H locs k n h1 h2 h3 h4 h5
  unfold o_icge at ho
  split at ho
  · exact lv_icmp_ge hC.x hC.b hd ht (fun z => hK _ _ _ _ _ _ (ho.1 z) A H locs k n h1 h2 h3 h4 h5) (fun z => hK _ _ _ _ _ _ (ho.2 z) A H locs k n h1 h2 h3 h4 h5)
  · exact ho.elim
def o_icgt (t n : Nat) : xOp := fun K ls st h rc rs => match st with
  | .int y :: .int x :: r => (y < x → K t ls r h rc rs) ∧ (¬ y < x → K n ls r h rc rs)
  | _ => False
theorem ok_icgt (hC : xCx X cc own nL d) {off : Int} {t : Nat} (hd : decode cc pc = .ok (.if_icmp .gt off, 3)) (ht : (pc : Int) + off = (t : Int)) : xOk X pc (o_icgt t (pc + 3)) := by
  intro K hK ls st h rc rs ho A H locs k n h1 h2 h3 h4 h5
  unfold o_icgt at ho
  split at ho
  · exact lv_icmp_gt hC.x hC.b hd ht (fun z => hK _ _ _ _ _ _ (ho.1 z) A H locs k n h1 h2 h3 h4 h5) (fun z => hK _ _ _ _ _ _ (ho.2 z) A H locs k n h1 h2 h3 h4 h5)
  · exact ho.elim
def o_icle (t n : Nat) : xOp := fun K ls st h rc rs => match st with
  | .int y :: .int x :: r => (x ≤ y → K t ls r h rc rs) ∧ (¬ x ≤ y → K n ls r h rc rs)
  | _ => False
theorem ok_icle (hC : xCx X cc own nL d) {off : Int} {t : Nat} (hd : decode cc pc = .ok (.if_icmp .le off, 3)) (ht : (pc : Int) + off = (t : Int)) : xOk X pc (o_icle t (pc + 3)) := by
  intro K hK ls st h rc rs ho A H locs k n h1 h2 h3 h4 h5
  unfold o_icle at ho
  split at ho
  · exact lv_icmp_le hC.x hC.b hd ht (fun z => hK _ _ _ _ _ _ (ho.1 z) A H locs k n h1 h2 h3 h4 h5) (fun z => hK _ _ _ _ _ _ (ho.2 z) A H locs k n h1 h2 h3 h4 h5)
  · exact ho.elim
def o_nul (t n : Nat) : xOp := fun K ls st h rc rs => match st with
  | .null :: r => K t ls r h rc rs
  | .ref _ :: r => K n ls r h rc rs
  | _ => False
theorem ok_ifnull (hC : xCx X cc own nL d) {off : Int} {t : Nat} (hd : decode cc pc = .ok (.ifnull off, 3)) (ht : (pc : Int) + off = (t : Int)) : xOk X pc (o_nul t (pc + 3)) := by
  intro K hK ls st h rc rs ho A H locs k n h1 h2 h3 h4 h5
  unfold o_nul at ho
  split at ho
  · exact lv_ifnullN hC.x hC.b hd ht (hK _ _ _ _ _ _ ho A H locs k n h1 h2 h3 h4 h5)
  · exact lv_ifnull hC.x hC.b hd (hK _ _ _ _ _ _ ho A H locs k n h1 h2 h3 h4 h5)
  · exact ho.elim
theorem ok_ifnonnull (hC : xCx X cc own nL d) {off : Int} {t : Nat} (hd : decode cc pc = .ok (.ifnonnull off, 3)) (ht : (pc : Int) + off = (t : Int)) : xOk X pc (o_nul (pc + 3) t) := by
  intro K hK ls st h rc rs ho A H locs k n h1 h2 h3 h4 h5
  unfold o_nul at ho
  split at ho
  · exact lv_ifnonnullN hC.x hC.b hd (hK _ _ _ _ _ _ ho A H locs k n h1 h2 h3 h4 h5)
  · exact lv_ifnonnull hC.x hC.b hd ht (hK _ _ _ _ _ _ ho A H locs k n h1 h2 h3 h4 h5)
  · exact ho.elim
def o_acm (t n : Nat) : xOp := fun K ls st h rc rs => match st with
  | .ref y :: .ref x :: r => (x = y → K t ls r h rc rs) ∧ (¬ x = y → K n ls r h rc rs)
  | .null :: .null :: r => K t ls r h rc rs
  | .ref _ :: .null :: r => K n ls r h rc rs
  | .null :: .ref _ :: r => K n ls r h rc rs
  | _ => False
theorem ok_acmpeq (hC : xCx X cc own nL d) {off : Int} {t : Nat} (hd : decode cc pc = .ok (.if_acmp .eq off, 3)) (ht : (pc : Int) + off = (t : Int)) : xOk X pc (o_acm t (pc + 3)) := by
  intro K hK ls st h rc rs ho A H locs k n h1 h2 h3 h4 h5
  unfold o_acm at ho
  split at ho
  · rename_i y x r
    exact lv_acmp_eq (rx := some x) (ry := some y) hC.x hC.b hd ht (fun z => (hK _ _ _ _ _ _ (ho.1 (Option.some.inj z)) A H locs k n h1 h2 h3 h4 h5)) (fun z => (hK _ _ _ _ _ _ (ho.2 (fun w => z (congrArg some w))) A H locs k n h1 h2 h3 h4 h5))
  · exact lv_acmp_eq (rx := none) (ry := none) hC.x hC.b hd ht (fun _ => (hK _ _ _ _ _ _ ho A H locs k n h1 h2 h3 h4 h5)) (fun z => absurd rfl z)
  · rename_i y r
    exact lv_acmp_eq (rx := none) (ry := some y) hC.x hC.b hd ht (fun z => by cases z) (fun _ => (hK _ _ _ _ _ _ ho A H locs k n h1 h2 h3 h4 h5))
  · rename_i x r
    exact lv_acmp_eq (rx := some x) (ry := none) hC.x hC.b hd ht (fun z => by cases z) (fun _ => (hK _ _ _ _ _ _ ho A H locs k n h1 h2 h3 h4 h5))
  · exact ho.elim
theorem ok_acmpne (hC : xCx X cc own nL d) {off : Int} {t : Nat} (hd : decode cc pc = .ok (.if_acmp .ne off, 3)) (ht : (pc : Int) + off = (t : Int)) : xOk X pc (o_acm (pc + 3) t) := by
  intro K hK ls st h rc rs ho A H locs k n h1 h2 h3 h4 h5
  unfold o_acm at ho
  split at ho
  · rename_i y x r
    exact lv_acmp_ne (rx := some x) (ry := some y) hC.x hC.b hd ht (fun z => (hK _ _ _ _ _ _ (ho.2 (fun w => z (congrArg some w))) A H locs k n h1 h2 h3 h4 h5)) (fun z => (hK _ _ _ _ _ _ (ho.1 (Option.some.inj z)) A H locs k n h1 h2 h3 h4 h5))
  · exact lv_acmp_ne (rx := none) (ry := none) hC.x hC.b hd ht (fun z => absurd rfl z) (fun _ => (hK _ _ _ _ _ _ ho A H locs k n h1 h2 h3 h4 h5))
  · rename_i y r
    exact lv_acmp_ne (rx := none) (ry := some y) hC.x hC.b hd ht (fun _ => (hK _ _ _ _ _ _ ho A H locs k n h1 h2 h3 h4 h5)) (fun z => by cases z)
  · rename_i x r
    exact lv_acmp_ne (rx := some x) (ry := none) hC.x hC.b hd ht (fun _ => (hK _ _ _ _ _ _ ho A H locs k n h1 h2 h3 h4 h5)) (fun z => by cases z)
  · exact ho.elim
def xsw : List (Int32 × Nat) → Nat → Int32 → (Nat → Prop) → Prop
  | [], t, _, k => k t
  | q :: l, t, x, k => (x = q.1 → k q.2) ∧ (¬ x = q.1 → xsw l t x k)
theorem xsw_or : ∀ {l : List (Int32 × Nat)} {t : Nat} {x : Int32} {k : Nat → Prop}, xsw l t x k → (∃ (i : Nat) (q : Int32 × Nat), l[i]? = some q ∧ x = q.1 ∧ k q.2) ∨ ((∀ q ∈ l, ¬ x = q.1) ∧ k t)
  | [], _, _, _, h => Or.inr ⟨fun q hq => (by cases hq), h⟩
  | q :: l, t, x, k, h => by
    by_cases z : x = q.1
    · exact Or.inl ⟨0, q, rfl, z, h.1 z⟩
    · rcases xsw_or (h.2 z) with ⟨i, q', h1, h2, h3⟩ | ⟨h1, h2⟩
      · exact Or.inl ⟨i + 1, q', h1, h2, h3⟩
      · exact Or.inr ⟨fun a ha => by
          rcases List.mem_cons.mp ha with rfl | ha
          · exact z
          · exact h1 a ha, h2⟩
def o_sw (l : List (Int32 × Nat)) (t : Nat) : xOp := fun K ls st h rc rs => match st with
  | .int x :: r => xsw l t x (fun q => K q ls r h rc rs)
  | _ => False
theorem ok_table (hC : xCx X cc own nL d) {dflt lo hi : Int} {offs : Array Int} {len t : Nat} (l : List (Int32 × Nat)) (hd : decode cc pc = .ok (.tableswitch dflt lo hi offs, len)) (ht : (pc : Int) + dflt = (t : Int))
    (hl : (List.range l.length).all (fun i => decide ((l.getD i (0, 0)).1.toInt = lo + i) && decide ((offs[i]?).map (fun o => (pc : Int) + o) = some (((l.getD i (0, 0)).2 : Nat) : Int))) = true) (hn : lo + l.length = hi + 1) : xOk X pc (o_sw l t) := by
  intro K hK ls st h rc rs ho A H locs k n h1 h2 h3 h4 h5
  unfold o_sw at ho
  split at ho
  · rename_i x r
    rcases xsw_or ho with ⟨i, q, e1, e2, e3⟩ | ⟨e1, e2⟩
    · have hi' : i < l.length := (List.getElem?_eq_some_iff.mp e1).1
      have e4 := List.all_eq_true.mp hl i (List.mem_range.mpr hi')
      simp only [Bool.and_eq_true, decide_eq_true_eq] at e4
      have e5 : l.getD i (0, 0) = q := by simp [List.getD, e1]
      rw [e5] at e4
      obtain ⟨e6, e7⟩ := e4
      cases e8 : offs[i]? with
      | none => rw [e8] at e7; cases e7
      | some o =>
        rw [e8] at e7
        have e9 : (pc : Int) + o = (q.2 : Int) := Option.some.inj e7
        refine lv_tableIn hC.x hC.b hd (by rw [e2, e6]; omega) (by rw [e2, e6]; omega) (off := o) ?_ e9 (hK _ _ _ _ _ _ e3 A H locs k n h1 h2 h3 h4 h5)
        rw [e2, e6, show (lo + (i : Int) - lo).toNat = i by omega]
        exact e8
    · refine lv_tableOut hC.x hC.b hd ?_ ht (hK _ _ _ _ _ _ e2 A H locs k n h1 h2 h3 h4 h5)
      by_cases z : x.toInt < lo ∨ hi < x.toInt
      · exact z
      · exfalso
        have z1 : (x.toInt - lo).toNat < l.length := by omega
        have e4 := List.all_eq_true.mp hl _ (List.mem_range.mpr z1)
        simp only [Bool.and_eq_true, decide_eq_true_eq] at e4
        refine e1 _ (List.getElem_mem z1) (Int32.toInt_inj.mp ?_)
        have e5 : l.getD (x.toInt - lo).toNat (0, 0) = l[(x.toInt - lo).toNat] := by simp [List.getD, z1]
        rw [← e5, e4.1]
        omega
  · exact ho.elim
theorem ok_lookup (hC : xCx X cc own nL d) {dflt : Int} {ps : Array (Int × Int)} {len t : Nat} (l : List (Int32 × Nat)) (hd : decode cc pc = .ok (.lookupswitch dflt ps, len)) (ht : (pc : Int) + dflt = (t : Int))
    (hp : (ps.toList.zip (ps.toList.drop 1)).all (fun (a, next) => a.1 < next.1) = true) (hl : ps.toList = l.map (fun q => (q.1.toInt, (q.2 : Int) - (pc : Int)))) : xOk X pc (o_sw l t) := by
  intro K hK ls st h rc rs ho A H locs k n h1 h2 h3 h4 h5
  unfold o_sw at ho
  split at ho
  · rename_i x r
    have hgo : ∀ l : List (Int32 × Nat), xsw l t x (fun q => K q ls r h rc rs) → ∃ (off : Int) (tgt : Nat), Op.lookupswitch.offset (l.map (fun q => (q.1.toInt, (q.2 : Int) - (pc : Int)))) dflt x.toInt = off ∧ (pc : Int) + off = (tgt : Int) ∧ K tgt ls r h rc rs := by
      intro l
      induction l with
      | nil => intro z; exact ⟨dflt, t, rfl, ht, z⟩
      | cons q l ih =>
        intro z
        by_cases e : x = q.1
        · refine ⟨(q.2 : Int) - (pc : Int), q.2, ?_, by omega, z.1 e⟩
          rw [List.map_cons, Op.lookupswitch.offset_cons, if_pos (by rw [e])]
        · obtain ⟨off, tgt, e1, e2, e3⟩ := ih (z.2 e)
          exact ⟨off, tgt, by rw [List.map_cons, lv_osw e rfl]; exact e1, e2, e3⟩
    obtain ⟨off, tgt, e1, e2, e3⟩ := hgo l ho
    exact lv_lookup hC.x hC.b hd hp (by rw [hl]; exact e1) e2 (hK _ _ _ _ _ _ e3 A H locs k n h1 h2 h3 h4 h5)
  · exact ho.elim
end XOPS
end
section
/-! THE ABSTRACT MACHINE, 4: fields, arrays, new, returns -/
def xfitb (ty : FieldType) (v : Value) : Bool := match ty, v with
  | .int, .int _ => true
  | .long, .long _ => true
  | .object _, .ref _ => true
  | .object _, .null => true
  | .array _, .ref _ => true
  | .array _, .null => true
  | _, _ => false
def xfit (ty : FieldType) (v : Value) (q : Prop) : Prop := match xfitb ty v with
  | true => q
  | false => (narrow ty v = v ∧ fits ty v = true) ∧ q
theorem xfit_iff {ty : FieldType} {v : Value} {q : Prop} (h : xfit ty v q) : narrow ty v = v ∧ fits ty v = true ∧ q := by
  unfold xfit at h
  split at h
  · rename_i e
    unfold xfitb at e
    split at e <;> first | exact ⟨rfl, rfl, h⟩ | cases e
  · exact ⟨h.1.1, h.1.2, h.2⟩
theorem x_obj {D : xD} {U : State} {H : Heap} {a ci : Nat} {fs : List Value} (hci : ci < 100) (h : x_at D U H a (ci, fs)) : D.sz ≤ a ∧ ∃ r : vw_C, xcl[ci]? = some r ∧ fs.length = r.2.2 ∧ t_OB a (D.cid ci) r.2.2 (D.slo ci) H (vp_V fs) := by
  unfold x_at at h; rw [if_pos hci] at h; exact h
theorem x_arr {D : xD} {U : State} {H : Heap} {a t : Nat} {vs : List Value} (ht : t < 100) (h : x_at D U H a (100 + t, vs)) : D.sz ≤ a ∧ vs.length < 2 ^ 31 ∧ (∃ ty, xela[t]? = some ty) ∧ H[a]? = some { cls := D.cid (100 + t), slots := vs.toArray, vm := .none } := by
  unfold x_at at h
  rw [if_neg (by show ¬ 100 + t < 100; omega), if_pos (by show 100 + t < 200; omega)] at h
  rw [show (100 + t, vs).1 - 100 = t by show 100 + t - 100 = t; omega] at h
  exact h
theorem x_arr_mk {D : xD} {U : State} {H : Heap} {a t : Nat} {vs : List Value} (ht : t < 100) (h0 : D.sz ≤ a) (h1 : vs.length < 2 ^ 31) (h2 : ∃ ty, xela[t]? = some ty) (h3 : H[a]? = some { cls := D.cid (100 + t), slots := vs.toArray, vm := .none }) : x_at D U H a (100 + t, vs) := by
  unfold x_at
  rw [if_neg (by show ¬ 100 + t < 100; omega), if_pos (by show 100 + t < 200; omega)]
  rw [show (100 + t, vs).1 - 100 = t by show 100 + t - 100 = t; omega]
  exact ⟨h0, h1, h2, h3⟩
theorem x_ro {D : xD} {U : State} {H : Heap} {a t : Nat} {vs : List Value} (ht : t < 100) (h : x_at D U H a (200 + t, vs)) : a < D.sz ∧ vs.length < 2 ^ 31 ∧ ∃ cell : Cell, H[a]? = some cell ∧ U.isArrayOf cell (xel t) ∧ cell.vm ≠ .unknown ∧ cell.slots = vs.toArray := by
  unfold x_at at h
  rw [if_neg (by show ¬ 200 + t < 100; omega), if_neg (by show ¬ 200 + t < 200; omega), if_pos (by show 200 + t < 300; omega)] at h
  rw [show (200 + t, vs).1 - 200 = t by show 200 + t - 200 = t; omega] at h
  exact h
/-- an array, of the run or of before it, as the machine's rows ask for it -/
theorem x_anyarr {D : xD} {U : State} {h : xH} {H : Heap} {a t : Nat} {vs : List Value} (hK : x_K D U) (hR : x_R D U h H) (ht : t < 100) (e : h a = some (100 + t, vs) ∨ h a = some (200 + t, vs)) : ∃ cell : Cell, H[a]? = some cell ∧ U.isArrayOf cell (xel t) ∧ cell.vm ≠ .unknown ∧ cell.slots = vs.toArray ∧ vs.length < 2 ^ 31 := by
  rcases e with e | e
  · obtain ⟨h0, h1, ⟨ty, h2⟩, h3⟩ := x_arr ht (hR _ _ e)
    refine ⟨_, h3, ?_, fun z => (by cases z), rfl, h1⟩
    obtain ⟨k1, -⟩ := hK.2 t ty h2
    have e1 : xel t = ty := by simp [xel, List.getD, h2]
    rw [e1]
    obtain ⟨q1, q2⟩ := k1 0 (fun _ => .null)
    exact ⟨fun k z => (by cases z), q2⟩
  · obtain ⟨h0, h1, cell, h2, h3, h4, h5⟩ := x_ro ht (hR _ _ e)
    exact ⟨cell, h2, h3, h4, h5, h1⟩
theorem x_ain {cell : Cell} {vs : List Value} {i : Int32} {j : Nat} (hs : cell.slots = vs.toArray) (hi : i = nI j) (hj : j < vs.length) (hl : vs.length < 2 ^ 31) : ¬ (i < 0 ∨ cell.slots.size ≤ i.toNatClampNeg) := by
  subst hi
  rw [hs, List.size_toArray, nI_clamp (by omega)]
  intro z
  rcases z with z | z
  · exact nI_pos (by omega) z
  · omega
section XHEAP
variable {X : xX} {cc : ByteArray} {own : String} {nL d pc : Nat}
def o_get (ci k n : Nat) : xOp := fun K ls st h rc rs => match st with
  | .ref a :: r => ∃ (fs : List Value) (v : Value), h a = some (ci, fs) ∧ fs[k]? = some v ∧ K n ls (v :: r) h rc rs
  | _ => False
theorem x_getAux (hC : xCx X cc own nL d) {ci k : Nat} {r0 : vw_C} (hci : ci < 100) (hc : xcl[ci]? = some r0) (hk : k < r0.2.2) {a : Nat} {fs : List Value} {v : Value} {h : xH} {H : Heap} (hR : x_R X.D X.s h H) (e : h a = some (ci, fs)) (hv : fs[k]? = some v) :
    ∃ (cf : Nat) (kf : Class) (fi : Nat) (f : Field) (cell : Cell), X.s.fieldFound? (r0.2.1 k).1 (r0.2.1 k).2.1 (r0.2.1 k).2.2.1 = some (cf, kf, fi, f) ∧ f.isStatic = false ∧ H[a]? = some cell ∧ cell.vm ≠ .unknown ∧ cell.slots[f.slot]? = some v := by
  obtain ⟨h0, r, h1, h2, cell, q1, q2, q3, q4⟩ := x_obj hci (hR _ _ e)
  have hr : r = r0 := Option.some.inj (h1.symm.trans hc)
  subst hr
  obtain ⟨hS, hfc, kC, hkC, hkind⟩ := hC.K.1 ci _ hc
  obtain ⟨cf, kf, fi, f, hi, hsl⟩ := hS k hk
  refine ⟨cf, kf, fi, f, cell, hi, (u_facts hfc hkC (u_lays hC.ts (xcl_in hc) hk) hi).1, q1, by rw [q3]; exact fun z => (by cases z), ?_⟩
  rw [hsl, q4 k hk]
  simp [vp_V, hv]
theorem ok_get (hC : xCx X cc own nL d) {ci k i : Nat} {ref nm ds : String} {r0 : vw_C} (hd : decode cc pc = .ok (.getfield i, 3)) (hci : ci < 100) (hc : xcl[ci]? = some r0) (hk : k < r0.2.2) (hf : r0.2.1 k = (ref, nm, ds, (r0.2.1 k).2.2.2)) (hw : Cond.fieldLink own i ref nm ds ∈ xws) : xOk X pc (o_get ci k (pc + 3)) := by
  intro K hK ls st h rc rs ho A H locs kk n h1 h2 h3 h4 h5
  unfold o_get at ho
  split at ho
  · obtain ⟨fs, v, e1, e2, e3⟩ := ho
    obtain ⟨cf, kf, fi, f, cell, g1, g2, g3, g4, g5⟩ := x_getAux hC hci hc hk h2 e1 e2
    rw [hf] at g1
    exact W.getf hC.x hC.b hC.ow (hC.ts _ hw) g1 g2 g3 g4 g5 rfl rfl hd (hK _ _ _ _ _ _ e3 A H locs kk n h1 h2 h3 h4 h5)
  · exact ho.elim
theorem ok_getN (hC : xCx X cc own nL d) {ci k i : Nat} {ref nm ds host : String} {r0 : vw_C} (hd : decode cc pc = .ok (.getfield i, 3)) (hci : ci < 100) (hc : xcl[ci]? = some r0) (hk : k < r0.2.2) (hf : r0.2.1 k = (ref, nm, ds, (r0.2.1 k).2.2.2)) (hw : Cond.fieldLinkNest own i ref nm ds host ∈ xws) : xOk X pc (o_get ci k (pc + 3)) := by
  intro K hK ls st h rc rs ho A H locs kk n h1 h2 h3 h4 h5
  unfold o_get at ho
  split at ho
  · obtain ⟨fs, v, e1, e2, e3⟩ := ho
    obtain ⟨cf, kf, fi, f, cell, g1, g2, g3, g4, g5⟩ := x_getAux hC hci hc hk h2 e1 e2
    rw [hf] at g1
    exact va_Wgetf hC.x hC.b hC.ow (hC.ts _ hw) g1 g2 g3 g4 g5 rfl rfl hd (hK _ _ _ _ _ _ e3 A H locs kk n h1 h2 h3 h4 h5)
  · exact ho.elim
def o_put (ci k : Nat) (ty : FieldType) (n : Nat) : xOp := fun K ls st h rc rs => match st with
  | v :: .ref a :: r => ∃ fs : List Value, h a = some (ci, fs) ∧ xfit ty v (xfo (fs.set k v) (fun fs' => K n ls r (xset h a (ci, fs')) rc rs))
  | _ => False
theorem x_putBack (hC : xCx X cc own nL d) {ci k : Nat} {r0 : vw_C} (hci : ci < 100) (hc : xcl[ci]? = some r0) (hk : k < r0.2.2) {a : Nat} {fs : List Value} {v : Value} {h : xH} {H H' : Heap} {cell : Cell} {locs : List Loc} (hR : x_R X.D X.s h H) (hS : x_S X.D X.s.heap H locs) (e : h a = some (ci, fs)) (hz : X.D.sz ≤ a) (hl : fs.length = r0.2.2)
    (q2 : cell.cls = X.D.cid ci) (q3 : cell.vm = .none) (q4 : ∀ j, j < r0.2.2 → cell.slots[X.D.slo ci j]? = some (vp_V fs j)) (e1 : H'[a]? = some (cell.setSlot (X.D.slo ci k) v)) (e2 : H'.size = H.size) (e3 : ∀ q, q ≠ a → H'[q]? = H[q]?) : x_R X.D X.s (xset h a (ci, fs.set k v)) H' ∧ x_S X.D X.s.heap H' (locs ++ [⟨a, X.D.slo ci k⟩]) := by
  have hap : ∀ x y, x < r0.2.2 → y < r0.2.2 → x ≠ y → X.D.slo ci x ≠ X.D.slo ci y := va_apart (own := own) (D := (X.D.cid, X.D.slo)) (cl := xcl) (tys := []) (C := r0.1) (T := r0.2.1) hC.ts (xcl_in hc) (xty ci) (xcl_ty hc) (xcl_nm hc) ⟨hC.K.1, fun _ _ z => by simp at z⟩ hc
  refine ⟨hR.set ?_ e3, by rw [e2]; exact hS.1, fun q hq => (e3 q (by omega)).trans (hS.2.1 q hq), fun l hl2 => ?_⟩
  · unfold x_at
    rw [if_pos hci]
    exact ⟨hz, r0, hc, by rw [List.length_set]; exact hl, t_OB.to (V := updV (vp_V fs) k v) ⟨_, e1, q2, q3, t_set q4 hap hk v⟩ (fun j _ => vp_updV_set (by omega) v j)⟩
  · rcases List.mem_append.mp hl2 with z | z
    · exact hS.2.2 l z
    · rw [List.mem_singleton.mp z]; exact hz
theorem ok_put (hC : xCx X cc own nL d) {ci k i : Nat} {ty : FieldType} {ref nm ds : String} {r0 : vw_C} (hd : decode cc pc = .ok (.putfield i, 3)) (hci : ci < 100) (hc : xcl[ci]? = some r0) (hk : k < r0.2.2) (hf : r0.2.1 k = (ref, nm, ds, false)) (hp : parseFieldDescriptor ds = some ty) (hw : Cond.fieldLink own i ref nm ds ∈ xws) : xOk X pc (o_put ci k ty (pc + 3)) := by
  intro K hK ls st h rc rs ho A H locs kk n h1 h2 h3 h4 h5
  unfold o_put at ho
  split at ho
  · rename_i v a r
    obtain ⟨fs, e1, e2⟩ := ho
    obtain ⟨f1, f2, e2⟩ := xfit_iff e2
    rw [xfo_iff] at e2
    obtain ⟨h0, r', g1, g2, cell, q1, q2, q3, q4⟩ := x_obj hci (h2 _ _ e1)
    have hr : r' = r0 := Option.some.inj (g1.symm.trans hc)
    subst hr
    obtain ⟨hS, hfc, kC, hkC, hkind⟩ := hC.K.1 ci _ hc
    obtain ⟨cf, kf, fi, f, hi, hsl⟩ := hS k hk
    have hlay := hC.ts _ (xcl_in hc _ (u_in_lay hk))
    unfold u_lay at hlay
    rw [hf] at hlay hi
    rw [if_neg (by simp)] at hlay
    have hst := (u_facts hfc hkC (Or.inl hlay) hi).1
    have h6 := u_store hfc hkC hkind hlay hi hp f1 f2
    refine W.putK hC.x hC.b (f := f) ⟨hC.ow, hC.ts _ hw, ⟨cf, kf, fi, hi⟩, hst⟩ (by rw [q2]; exact h6) q1 q3 (by rw [hsl]; exact k2_hasslot (q4 k hk)) rfl rfl hd fun H' z1 z2 z3 => ?_
    rw [hsl] at z1 ⊢
    obtain ⟨y1, y2⟩ := x_putBack hC hci hc hk h2 h3 e1 h0 g2 q2 q3 q4 z1 z2 z3
    exact hK _ _ _ _ _ _ e2 A H' _ kk n h1 y1 y2 h4 h5
  · exact ho.elim
theorem ok_putN (hC : xCx X cc own nL d) {ci k i : Nat} {ty : FieldType} {ref nm ds host : String} {r0 : vw_C} (hd : decode cc pc = .ok (.putfield i, 3)) (hci : ci < 100) (hc : xcl[ci]? = some r0) (hk : k < r0.2.2) (hf : r0.2.1 k = (ref, nm, ds, false)) (hp : parseFieldDescriptor ds = some ty) (hw : Cond.fieldLinkNest own i ref nm ds host ∈ xws) : xOk X pc (o_put ci k ty (pc + 3)) := by
  intro K hK ls st h rc rs ho A H locs kk n h1 h2 h3 h4 h5
  unfold o_put at ho
  split at ho
  · rename_i v a r
    obtain ⟨fs, e1, e2⟩ := ho
    obtain ⟨f1, f2, e2⟩ := xfit_iff e2
    rw [xfo_iff] at e2
    obtain ⟨h0, r', g1, g2, cell, q1, q2, q3, q4⟩ := x_obj hci (h2 _ _ e1)
    have hr : r' = r0 := Option.some.inj (g1.symm.trans hc)
    subst hr
    obtain ⟨hS, hfc, kC, hkC, hkind⟩ := hC.K.1 ci _ hc
    obtain ⟨cf, kf, fi, f, hi, hsl⟩ := hS k hk
    have hlay := hC.ts _ (xcl_in hc _ (u_in_lay hk))
    unfold u_lay at hlay
    rw [hf] at hlay hi
    rw [if_neg (by simp)] at hlay
    have hst := (u_facts hfc hkC (Or.inl hlay) hi).1
    have h6 := u_store hfc hkC hkind hlay hi hp f1 f2
    refine va_WputK hC.x hC.b (f := f) hC.ow (hC.ts _ hw) hi hst (by rw [q2]; exact h6) q1 q3 (by rw [hsl]; exact k2_hasslot (q4 k hk)) rfl rfl hd fun H' z1 z2 z3 => ?_
    rw [hsl] at z1 ⊢
    obtain ⟨y1, y2⟩ := x_putBack hC hci hc hk h2 h3 e1 h0 g2 q2 q3 q4 z1 z2 z3
    exact hK _ _ _ _ _ _ e2 A H' _ kk n h1 y1 y2 h4 h5
  · exact ho.elim
theorem ok_putF (hC : xCx X cc own nL d) (hin : X.meth.name = "<init>") {ci k i : Nat} {ty : FieldType} {nm ds : String} {r0 : vw_C} (hd : decode cc pc = .ok (.putfield i, 3)) (hci : ci < 100) (hc : xcl[ci]? = some r0) (hk : k < r0.2.2) (hf : r0.2.1 k = (own, nm, ds, true)) (hp : parseFieldDescriptor ds = some ty) (hw : Cond.fieldLink own i own nm ds ∈ xws) : xOk X pc (o_put ci k ty (pc + 3)) := by
  intro K hK ls st h rc rs ho A H locs kk n h1 h2 h3 h4 h5
  unfold o_put at ho
  split at ho
  · rename_i v a r
    obtain ⟨fs, e1, e2⟩ := ho
    obtain ⟨f1, f2, e2⟩ := xfit_iff e2
    rw [xfo_iff] at e2
    obtain ⟨h0, r', g1, g2, cell, q1, q2, q3, q4⟩ := x_obj hci (h2 _ _ e1)
    have hr : r' = r0 := Option.some.inj (g1.symm.trans hc)
    subst hr
    obtain ⟨hS, hfc, kC, hkC, hkind⟩ := hC.K.1 ci _ hc
    obtain ⟨cf, kf, fi, f, hi, hsl⟩ := hS k hk
    have hlay := hC.ts _ (xcl_in hc _ (u_in_lay hk))
    unfold u_lay at hlay
    rw [hf] at hlay hi
    rw [if_pos rfl] at hlay
    have hst := (u_facts hfc hkC (Or.inr hlay) hi).1
    have hcf : X.m.cls = cf := by
      obtain ⟨_, _, c', _, _, _, -, -, hf', -, -, -, hown2, -⟩ := Cond.laysFinal_spec hlay
      have e1 : c' = cf := by have := hi.symm.trans hf'; simp at this; exact this.1.symm
      rw [← e1]; exact Option.some.inj (hC.ow.symm.trans hown2)
    have h6 := u_fits hfc hkC hkind (Or.inr hlay) hi hp f1 f2
    refine W.putFinK hC.x hC.b hC.ow (hC.ts _ hw) hi hst hcf hin (by rw [q2]; exact h6) q1 q3 (by rw [hsl]; exact k2_hasslot (q4 k hk)) rfl rfl hd fun H' z1 z2 z3 => ?_
    rw [hsl] at z1 ⊢
    obtain ⟨y1, y2⟩ := x_putBack hC hci hc hk h2 h3 e1 h0 g2 q2 q3 q4 z1 z2 z3
    exact hK _ _ _ _ _ _ e2 A H' _ kk n h1 y1 y2 h4 h5
  · exact ho.elim
/-- new -/
def o_new (ci N : Nat) (zs : List Value) (n : Nat) : xOp := fun K ls st h rc rs => 1 ≤ rc ∧ N ≤ rs ∧ ∀ q : Nat, h q = none → K n ls (.ref q :: st) (xset h q (ci, zs)) (rc - 1) (rs - N)
theorem ok_new (hC : xCx X cc own nL d) {ci i : Nat} {zs : List Value} {r0 : vw_C} (hd : decode cc pc = .ok (.new i, 3)) (hci : ci < 100) (hc : xcl[ci]? = some r0) (hz : (List.range r0.2.2).map (fun k => defaultValue (xty ci k)) = zs) (hw1 : Cond.classLink own i r0.1 ∈ xws) (hw2 : Cond.instantiable r0.1 r0.2.2 ∈ xws) (hw3 : Cond.initialized r0.1 ∈ xws) : xOk X pc (o_new ci r0.2.2 zs (pc + 3)) := by
  intro K hK ls st h rc rs ho A H locs kk n h1 h2 h3 h4 h5
  obtain ⟨e1, e2, e3⟩ := ho
  have hKn := hC.K.1 ci _ hc
  refine W.newcK hC.x hC.b hC.ow (hC.ts _ hw1) (hC.ts _ hw2) (hC.ts _ hw3) rfl hd (by omega) (by omega) hKn.2.1 rfl fun H1 kC hkC z1 z2 z3 => ?_
  have hs1 : X.s.heap.size ≤ H.size := h3.1
  have hsz : X.D.sz ≤ H.size := Nat.le_trans hC.z h3.1
  refine hK _ _ _ _ _ _ (e3 H.size h2.fresh) A H1 locs (kk + 1) (n + r0.2.2) h1 (h2.push ?_ z3) ⟨by omega, fun q hq => (z3 q (by omega)).trans (h3.2.1 q hq), h3.2.2⟩ (by omega) (by omega)
  unfold x_at
  rw [if_pos hci]
  refine ⟨hsz, r0, hc, by rw [← hz]; simp, (u_born (xty ci) hC.ts (xcl_in hc) hKn hkC z1 (xcl_ty hc)).to (fun j hj => ?_)⟩
  rw [← hz]
  simp [vp_V, hj]
def o_newa (t : Nat) (dv : Value) (n : Nat) : xOp := fun K ls st h rc rs => match st with
  | .int c :: r => ∃ N : Nat, c = nI N ∧ N < 2 ^ 24 ∧ 1 ≤ rc ∧ N ≤ rs ∧ ∀ q : Nat, h q = none → K n ls (.ref q :: r) (xset h q (100 + t, List.replicate N dv)) (rc - 1) (rs - N)
  | _ => False
theorem ok_newa (hC : xCx X cc own nL d) {t : Nat} {at' : ArrayType} {dv : Value} {ty : FieldType} (hd : decode cc pc = .ok (.newarray at', 2)) (ht : t < 100) (hty : xela[t]? = some ty) (ha : newarray.typeOf at' = ty) (hdv : defaultValue ty = dv) (hcb : componentBytes ty ≤ 8) (hw : Cond.arrayClass ty ∈ xws) (hnr : ∀ C, ty ≠ .object C) : xOk X pc (o_newa t dv (pc + 2)) := by
  intro K hK ls st h rc rs ho A H locs kk n h1 h2 h3 h4 h5
  unfold o_newa at ho
  split at ho
  · obtain ⟨N, e0, e1, e2, e3, e4⟩ := ho
    subst e0
    subst ha
    have hcl : (nI N).toNatClampNeg = N := nI_clamp (by omega)
    refine W.newa hC.x hC.b (hC.ts _ hw) rfl hd rfl (nI_pos (by omega)) (by rw [hcl]; exact Nat.le_trans (Nat.mul_le_mul (Nat.le_of_lt e1) hcb) (by decide)) (by omega) (by rw [hcl]; omega) fun cA kA comp z1 z2 z3 => ?_
    rw [hcl]
    have hs1 : X.s.heap.size ≤ H.size := h3.1
    have hsz : X.D.sz ≤ H.size := Nat.le_trans hC.z h3.1
    have hcA : cA = X.D.cid (100 + t) := by
      have k1 := (hC.K.2 t _ hty).2
      cases at' <;> exact Option.some.inj (z1.symm.trans k1)
    subst hcA
    refine hK _ _ _ _ _ _ (e4 H.size h2.fresh) A _ locs (kk + 1) (n + N) h1 (h2.push ?_ ?_) ⟨by simp; omega, fun q hq => ?_, h3.2.2⟩ (by omega) (by omega)
    · refine x_arr_mk ht hsz (by rw [List.length_replicate]; omega) ⟨_, hty⟩ ?_
      rw [hdv]
      simp
    · intro q hq
      rw [Array.getElem?_push, if_neg (Nat.ne_of_lt hq)]
    · rw [Array.getElem?_push, if_neg (by omega)]
      exact h3.2.1 q hq
  · exact ho.elim
def o_anew (t n : Nat) : xOp := fun K ls st h rc rs => match st with
  | .int c :: r => ∃ N : Nat, c = nI N ∧ N < 2 ^ 24 ∧ 1 ≤ rc ∧ N ≤ rs ∧ ∀ q : Nat, h q = none → K n ls (.ref q :: r) (xset h q (100 + t, List.replicate N .null)) (rc - 1) (rs - N)
  | _ => False
theorem ok_anew (hC : xCx X cc own nL d) {t i : Nat} {C : String} (hd : decode cc pc = .ok (.anewarray i, 3)) (ht : t < 100) (hty : xela[t]? = some (.object C)) (hw1 : Cond.classLink own i C ∈ xws) (hw2 : Cond.arrayOver (.object C) ∈ xws) : xOk X pc (o_anew t (pc + 3)) := by
  intro K hK ls st h rc rs ho A H locs kk n h1 h2 h3 h4 h5
  unfold o_anew at ho
  split at ho
  · obtain ⟨N, e0, e1, e2, e3, e4⟩ := ho
    subst e0
    have hcl : (nI N).toNatClampNeg = N := nI_clamp (by omega)
    refine W.anew hC.x hC.b hC.ow (hC.ts _ hw1) (hC.ts _ hw2) rfl hd rfl (nI_pos (by omega)) (by rw [hcl]; omega) (by omega) (by rw [hcl]; omega) fun cA kA comp z1 z2 z3 z4 => ?_
    rw [hcl]
    have hs1 : X.s.heap.size ≤ H.size := h3.1
    have hsz : X.D.sz ≤ H.size := Nat.le_trans hC.z h3.1
    have hcA : cA = X.D.cid (100 + t) := by
      obtain ⟨kA, comp, k1, k2, k3, k4⟩ := (hC.K.2 t _ hty).2
      exact Option.some.inj (z1.symm.trans k4)
    subst hcA
    refine hK _ _ _ _ _ _ (e4 H.size h2.fresh) A _ locs (kk + 1) (n + N) h1 (h2.push ?_ ?_) ⟨by simp; omega, fun q hq => ?_, h3.2.2⟩ (by omega) (by omega)
    · refine x_arr_mk ht hsz (by rw [List.length_replicate]; omega) ⟨_, hty⟩ ?_
      simp
    · intro q hq
      rw [Array.getElem?_push, if_neg (Nat.ne_of_lt hq)]
    · rw [Array.getElem?_push, if_neg (by omega)]
      exact h3.2.1 q hq
  · exact ho.elim
/-- arrays: length, load, store -/
def o_len (n : Nat) : xOp := fun K ls st h rc rs => match st with
  | .ref a :: r => ∃ (t : Nat) (vs : List Value), (h a = some (100 + t, vs) ∨ h a = some (200 + t, vs)) ∧ t < 100 ∧ K n ls (.int (nI vs.length) :: r) h rc rs
  | _ => False
theorem ok_len (hC : xCx X cc own nL d) (hd : decode cc pc = .ok (.arraylength, 1)) : xOk X pc (o_len (pc + 1)) := by
  intro K hK ls st h rc rs ho A H locs kk n h1 h2 h3 h4 h5
  unfold o_len at ho
  split at ho
  · obtain ⟨t, vs, e1, e2, e3⟩ := ho
    obtain ⟨cell, g1, g2, g3, g4, g5⟩ := x_anyarr hC.K h2 e2 e1
    exact W.alen hC.x hC.b g1 g2 (by rw [g4, List.size_toArray]; rfl) rfl rfl hd (hK _ _ _ _ _ _ e3 A H locs kk n h1 h2 h3 h4 h5)
  · exact ho.elim
/-- a load of an array of element type number t -/
def o_ld (t n : Nat) : xOp := fun K ls st h rc rs => match st with
  | .int i :: .ref a :: r => ∃ (vs : List Value) (j : Nat) (v : Value), (h a = some (100 + t, vs) ∨ h a = some (200 + t, vs)) ∧ i = nI j ∧ vs[j]? = some v ∧ K n ls (v :: r) h rc rs
  | _ => False
theorem ok_iald (hC : xCx X cc own nL d) {t : Nat} (hd : decode cc pc = .ok (.iaload, 1)) (ht : t < 100) (hty : xel t = .int) : xOk X pc (o_ld t (pc + 1)) := by
  intro K hK ls st h rc rs ho A H locs kk n h1 h2 h3 h4 h5
  unfold o_ld at ho
  split at ho
  · obtain ⟨vs, j, v, e1, e2, e3, e4⟩ := ho
    obtain ⟨cell, g1, g2, g3, g4, g5⟩ := x_anyarr hC.K h2 ht e1
    have hj : j < vs.length := (List.getElem?_eq_some_iff.mp e3).1
    exact W.iald hC.x hC.b g1 (by rw [← hty]; exact g2) g3 (x_ain g4 e2 hj g5) (by rw [g4, e2, nI_clamp (by omega), List.getElem?_toArray]; exact e3) rfl rfl hd (hK _ _ _ _ _ _ e4 A H locs kk n h1 h2 h3 h4 h5)
  · exact ho.elim
theorem ok_bald (hC : xCx X cc own nL d) {t : Nat} (hd : decode cc pc = .ok (.baload, 1)) (ht : t < 100) (hty : xel t = .byte) : xOk X pc (o_ld t (pc + 1)) := by
  intro K hK ls st h rc rs ho A H locs kk n h1 h2 h3 h4 h5
  unfold o_ld at ho
  split at ho
  · obtain ⟨vs, j, v, e1, e2, e3, e4⟩ := ho
    obtain ⟨cell, g1, g2, g3, g4, g5⟩ := x_anyarr hC.K h2 ht e1
    have hj : j < vs.length := (List.getElem?_eq_some_iff.mp e3).1
    exact W.bald hC.x hC.b g1 (by rw [← hty]; exact g2) g3 (x_ain g4 e2 hj g5) (by rw [g4, e2, nI_clamp (by omega), List.getElem?_toArray]; exact e3) rfl rfl hd (hK _ _ _ _ _ _ e4 A H locs kk n h1 h2 h3 h4 h5)
  · exact ho.elim
theorem ok_zald (hC : xCx X cc own nL d) {t : Nat} (hd : decode cc pc = .ok (.baload, 1)) (ht : t < 100) (hty : xel t = .boolean) : xOk X pc (o_ld t (pc + 1)) := by
  intro K hK ls st h rc rs ho A H locs kk n h1 h2 h3 h4 h5
  unfold o_ld at ho
  split at ho
  · obtain ⟨vs, j, v, e1, e2, e3, e4⟩ := ho
    obtain ⟨cell, g1, g2, g3, g4, g5⟩ := x_anyarr hC.K h2 ht e1
    have hj : j < vs.length := (List.getElem?_eq_some_iff.mp e3).1
    exact W.zald hC.x hC.b g1 (by rw [← hty]; exact g2) g3 (x_ain g4 e2 hj g5) (by rw [g4, e2, nI_clamp (by omega), List.getElem?_toArray]; exact e3) rfl rfl hd (hK _ _ _ _ _ _ e4 A H locs kk n h1 h2 h3 h4 h5)
  · exact ho.elim
theorem ok_cald (hC : xCx X cc own nL d) {t : Nat} (hd : decode cc pc = .ok (.caload, 1)) (ht : t < 100) (hty : xel t = .char) : xOk X pc (o_ld t (pc + 1)) := by
  intro K hK ls st h rc rs ho A H locs kk n h1 h2 h3 h4 h5
  unfold o_ld at ho
  split at ho
  · obtain ⟨vs, j, v, e1, e2, e3, e4⟩ := ho
    obtain ⟨cell, g1, g2, g3, g4, g5⟩ := x_anyarr hC.K h2 ht e1
    have hj : j < vs.length := (List.getElem?_eq_some_iff.mp e3).1
    exact W.cald hC.x hC.b g1 (by rw [← hty]; exact g2) g3 (x_ain g4 e2 hj g5) (by rw [g4, e2, nI_clamp (by omega), List.getElem?_toArray]; exact e3) rfl rfl hd (hK _ _ _ _ _ _ e4 A H locs kk n h1 h2 h3 h4 h5)
  · exact ho.elim
theorem ok_lald (hC : xCx X cc own nL d) {t : Nat} (hd : decode cc pc = .ok (.laload, 1)) (ht : t < 100) (hty : xel t = .long) : xOk X pc (o_ld t (pc + 1)) := by
  intro K hK ls st h rc rs ho A H locs kk n h1 h2 h3 h4 h5
  unfold o_ld at ho
  split at ho
  · obtain ⟨vs, j, v, e1, e2, e3, e4⟩ := ho
    obtain ⟨cell, g1, g2, g3, g4, g5⟩ := x_anyarr hC.K h2 ht e1
    have hj : j < vs.length := (List.getElem?_eq_some_iff.mp e3).1
    exact W.lald hC.x hC.b g1 (by rw [← hty]; exact g2) g3 (x_ain g4 e2 hj g5) (by rw [g4, e2, nI_clamp (by omega), List.getElem?_toArray]; exact e3) rfl rfl hd (hK _ _ _ _ _ _ e4 A H locs kk n h1 h2 h3 h4 h5)
  · exact ho.elim
theorem ok_aald (hC : xCx X cc own nL d) {t : Nat} {C : String} (hd : decode cc pc = .ok (.aaload, 1)) (ht : t < 100) (hty : xel t = .object C) : xOk X pc (o_ld t (pc + 1)) := by
  intro K hK ls st h rc rs ho A H locs kk n h1 h2 h3 h4 h5
  unfold o_ld at ho
  split at ho
  · obtain ⟨vs, j, v, e1, e2, e3, e4⟩ := ho
    obtain ⟨cell, g1, g2, g3, g4, g5⟩ := x_anyarr hC.K h2 ht e1
    have hj : j < vs.length := (List.getElem?_eq_some_iff.mp e3).1
    exact W.aald (ty := .object C) hC.x hC.b g1 (by rw [← hty]; exact g2) rfl g3 (x_ain g4 e2 hj g5) (by rw [g4, e2, nI_clamp (by omega), List.getElem?_toArray]; exact e3) rfl rfl hd (hK _ _ _ _ _ _ e4 A H locs kk n h1 h2 h3 h4 h5)
  · exact ho.elim
theorem x_stBack {D : xD} {s : State} {h : xH} {H H' : Heap} {locs : List Loc} {a t j : Nat} {vs : List Value} {v : Value} (ht : t < 100) (hR : x_R D s h H) (hS : x_S D s.heap H locs) (e : h a = some (100 + t, vs)) (hj : j < vs.length)
    (e1 : ∀ cell : Cell, H[a]? = some cell → H'[a]? = some (cell.setSlot j v)) (e2 : H'.size = H.size) (e3 : ∀ q, q ≠ a → H'[q]? = H[q]?) : x_R D s (xset h a (100 + t, vs.set j v)) H' ∧ x_S D s.heap H' (locs ++ [⟨a, j⟩]) := by
  obtain ⟨h0, h1, h2, h3⟩ := x_arr ht (hR _ _ e)
  have e4 := e1 _ h3
  refine ⟨hR.set (x_arr_mk ht h0 (by rw [List.length_set]; exact h1) h2 ?_) e3, by rw [e2]; exact hS.1, fun q hq => (e3 q (by omega)).trans (hS.2.1 q hq), fun l hl => ?_⟩
  · rw [e4]
    simp [Cell.setSlot]
  · rcases List.mem_append.mp hl with z | z
    · exact hS.2.2 l z
    · rw [List.mem_singleton.mp z]; exact h0
def o_iast (t n : Nat) : xOp := fun K ls st h rc rs => match st with
  | .int x :: .int i :: .ref a :: r => ∃ (vs : List Value) (j : Nat), h a = some (100 + t, vs) ∧ i = nI j ∧ j < vs.length ∧ K n ls r (xset h a (100 + t, vs.set j (.int x))) rc rs
  | _ => False
theorem ok_iast (hC : xCx X cc own nL d) {t : Nat} (hd : decode cc pc = .ok (.iastore, 1)) (ht : t < 100) (hty : xel t = .int) : xOk X pc (o_iast t (pc + 1)) := by
  intro K hK ls st h rc rs ho A H locs kk n h1 h2 h3 h4 h5
  unfold o_iast at ho
  split at ho
  · rename_i x i a r
    obtain ⟨vs, j, e1, e2, e3, e4⟩ := ho
    obtain ⟨cell, g1, g2, g3, g4, g5⟩ := x_anyarr hC.K h2 ht (Or.inl e1)
    refine W.iast hC.x hC.b g1 (by rw [← hty]; exact g2) g3 (x_ain g4 e2 e3 g5) rfl rfl hd fun H' z1 z2 z3 => ?_
    have ej : (nI j).toNatClampNeg = j := nI_clamp (by omega)
    rw [e2, ej] at z1 ⊢
    obtain ⟨y1, y2⟩ := x_stBack (v := .int x) ht h2 h3 e1 e3 (fun c hc => by cases g1.symm.trans hc; exact z1) z2 z3
    exact hK _ _ _ _ _ _ e4 A H' _ kk n h1 y1 y2 h4 h5
  · exact ho.elim
def o_bast (t n : Nat) : xOp := fun K ls st h rc rs => match st with
  | .int x :: .int i :: .ref a :: r => ∃ (vs : List Value) (j : Nat), h a = some (100 + t, vs) ∧ i = nI j ∧ j < vs.length ∧ K n ls r (xset h a (100 + t, vs.set j (.int x.toInt8.toInt32))) rc rs
  | _ => False
theorem ok_bast (hC : xCx X cc own nL d) {t : Nat} (hd : decode cc pc = .ok (.bastore, 1)) (ht : t < 100) (hty : xel t = .byte) : xOk X pc (o_bast t (pc + 1)) := by
  intro K hK ls st h rc rs ho A H locs kk n h1 h2 h3 h4 h5
  unfold o_bast at ho
  split at ho
  · rename_i x i a r
    obtain ⟨vs, j, e1, e2, e3, e4⟩ := ho
    obtain ⟨cell, g1, g2, g3, g4, g5⟩ := x_anyarr hC.K h2 ht (Or.inl e1)
    refine W.bast hC.x hC.b g1 (by rw [← hty]; exact g2) g3 (x_ain g4 e2 e3 g5) rfl rfl hd fun H' z1 z2 z3 => ?_
    have ej : (nI j).toNatClampNeg = j := nI_clamp (by omega)
    rw [e2, ej] at z1 ⊢
    obtain ⟨y1, y2⟩ := x_stBack (v := .int x.toInt8.toInt32) ht h2 h3 e1 e3 (fun c hc => by cases g1.symm.trans hc; exact z1) z2 z3
    exact hK _ _ _ _ _ _ e4 A H' _ kk n h1 y1 y2 h4 h5
  · exact ho.elim
def o_last (t n : Nat) : xOp := fun K ls st h rc rs => match st with
  | .long x :: .int i :: .ref a :: r => ∃ (vs : List Value) (j : Nat), h a = some (100 + t, vs) ∧ i = nI j ∧ j < vs.length ∧ K n ls r (xset h a (100 + t, vs.set j (.long x))) rc rs
  | _ => False
theorem ok_last (hC : xCx X cc own nL d) {t : Nat} (hd : decode cc pc = .ok (.lastore, 1)) (ht : t < 100) (hty : xel t = .long) : xOk X pc (o_last t (pc + 1)) := by
  intro K hK ls st h rc rs ho A H locs kk n h1 h2 h3 h4 h5
  unfold o_last at ho
  split at ho
  · rename_i x i a r
    obtain ⟨vs, j, e1, e2, e3, e4⟩ := ho
    obtain ⟨cell, g1, g2, g3, g4, g5⟩ := x_anyarr hC.K h2 ht (Or.inl e1)
    refine W.last hC.x hC.b g1 (by rw [← hty]; exact g2) g3 (x_ain g4 e2 e3 g5) rfl rfl hd fun H' z1 z2 z3 => ?_
    have ej : (nI j).toNatClampNeg = j := nI_clamp (by omega)
    rw [e2, ej] at z1 ⊢
    obtain ⟨y1, y2⟩ := x_stBack (v := .long x) ht h2 h3 e1 e3 (fun c hc => by cases g1.symm.trans hc; exact z1) z2 z3
    exact hK _ _ _ _ _ _ e4 A H' _ kk n h1 y1 y2 h4 h5
  · exact ho.elim
/-- a reference is stored into an array of references (element type number t, its class C): null, or an object of a class that can be cast to C -/
def o_aast (t : Nat) (ok : Nat → Bool) (n : Nat) : xOp := fun K ls st h rc rs => match st with
  | .ref b :: .int i :: .ref a :: r => ∃ (vs : List Value) (j ci : Nat) (fs : List Value), h a = some (100 + t, vs) ∧ i = nI j ∧ j < vs.length ∧ h b = some (ci, fs) ∧ ok ci = true ∧ K n ls r (xset h a (100 + t, vs.set j (.ref b))) rc rs
  | .null :: .int i :: .ref a :: r => ∃ (vs : List Value) (j : Nat), h a = some (100 + t, vs) ∧ i = nI j ∧ j < vs.length ∧ K n ls r (xset h a (100 + t, vs.set j .null)) rc rs
  | _ => False
theorem ok_aast (hC : xCx X cc own nL d) {t : Nat} {C : String} {ok : Nat → Bool} (hd : decode cc pc = .ok (.aastore, 1)) (ht : t < 100) (hty : xela[t]? = some (.object C)) (hok : ∀ ci, ok ci = true → ci < 100 ∧ ∃ r0, xcl[ci]? = some r0 ∧ (r0.1 = C ∨ Cond.castable r0.1 C ∈ xws)) : xOk X pc (o_aast t ok (pc + 1)) := by
  intro K hK ls st h rc rs ho A H locs kk n h1 h2 h3 h4 h5
  unfold o_aast at ho
  have hel : xel t = .object C := by simp [xel, List.getD, hty]
  split at ho
  · rename_i b i a r
    obtain ⟨vs, j, ci, fs, e1, e2, e3, e4, e5, e6⟩ := ho
    obtain ⟨hci, r0, hc, hcast⟩ := hok ci e5
    obtain ⟨g0, r', w1, w2, cellV, w3, w4, w5, w6⟩ := x_obj hci (h2 _ _ e4)
    have hr : r' = r0 := Option.some.inj (w1.symm.trans hc)
    subst hr
    have hcls := (hC.K.1 ci _ hc).2
    obtain ⟨kC, hkC, -⟩ := hcls.2
    obtain ⟨kA, comp, k1, k2, k3, -⟩ := (hC.K.2 t _ hty).2
    obtain ⟨q0, q1, q2, q3⟩ := x_arr ht (h2 _ _ e1)
    have hasg : X.s.vm.assignable (X.D.cid ci) comp = true := by
      rcases hcast with z | z
      · rw [z] at hcls
        have hcomp : comp = X.D.cid ci := Option.some.inj (k3.symm.trans hcls.1)
        subst hcomp
        exact va_assign hcls
      · have z1 := hC.ts _ z
        obtain ⟨c1, t1, z2, z3, z4⟩ := Cond.castable_spec z1
        cases Option.some.inj (hcls.1.symm.trans z2)
        cases Option.some.inj (k3.symm.trans z3)
        exact z4
    obtain ⟨kcomp, hkcomp⟩ := Vm.classAt_of_findClass k3
    have ej : (nI j).toNatClampNeg = j := nI_clamp (by omega)
    refine W.aast hC.x hC.b q3 (fun q z => by cases z) (fun z => by cases z) k1 k2 rfl hkcomp (by subst e2; rw [ej]; exact ⟨nI_pos (by omega), by simpa using e3⟩) w3 (fun q z => by rw [w5] at z; cases z) (by rw [w4]; exact hkC) (by rw [w4]; exact hasg) rfl rfl hd fun H' z1 z2 z3 => ?_
    rw [e2, ej] at z1 ⊢
    obtain ⟨y1, y2⟩ := x_stBack (v := .ref b) ht h2 h3 e1 e3 (fun c hc => by cases q3.symm.trans hc; exact z1) z2 z3
    exact hK _ _ _ _ _ _ e6 A H' _ kk n h1 y1 y2 h4 h5
  · obtain ⟨vs, j, e1, e2, e3, e6⟩ := ho
    obtain ⟨cell, g1, g2, g3, g4, g5⟩ := x_anyarr hC.K h2 ht (Or.inl e1)
    have ej : (nI j).toNatClampNeg = j := nI_clamp (by omega)
    refine va_WaastN hC.x hC.b g1 (by rw [← hel]; exact g2) g3 (x_ain g4 e2 e3 g5) rfl rfl hd fun H' z1 z2 z3 => ?_
    rw [e2, ej] at z1 ⊢
    obtain ⟨y1, y2⟩ := x_stBack (v := .null) ht h2 h3 e1 e3 (fun c hc => by cases g1.symm.trans hc; exact z1) z2 z3
    exact hK _ _ _ _ _ _ e6 A H' _ kk n h1 y1 y2 h4 h5
  · exact ho.elim
/-- a cast that holds -/
def o_cast (ok : Nat → Bool) (n : Nat) : xOp := fun K ls st h rc rs => match st with
  | .null :: r => K n ls (.null :: r) h rc rs
  | .ref a :: r => ∃ (ci : Nat) (fs : List Value), h a = some (ci, fs) ∧ ok ci = true ∧ K n ls (.ref a :: r) h rc rs
  | _ => False
theorem ok_cast (hC : xCx X cc own nL d) {i : Nat} {C : String} {ok : Nat → Bool} (hd : decode cc pc = .ok (.checkcast i, 3)) (hw : Cond.classLink own i C ∈ xws) (hok : ∀ ci, ok ci = true → ci < 100 ∧ ∃ r0, xcl[ci]? = some r0 ∧ r0.1 = C) : xOk X pc (o_cast ok (pc + 3)) := by
  intro K hK ls st h rc rs ho A H locs kk n h1 h2 h3 h4 h5
  unfold o_cast at ho
  split at ho
  · exact lv_castN hC.x hC.b hd (hK _ _ _ _ _ _ ho A H locs kk n h1 h2 h3 h4 h5)
  · obtain ⟨ci, fs, e1, e2, e3⟩ := ho
    obtain ⟨hci, r0, hc, rfl⟩ := hok ci e2
    obtain ⟨g0, r', w1, w2, cellV, w3, w4, w5, w6⟩ := x_obj hci (h2 _ _ e1)
    have hcls := (hC.K.1 ci _ hc).2
    exact va_castS hC.x hC.b hC.ow (hC.ts _ hw) hcls ⟨cellV, w3, by rw [w5]; rfl, by rw [w4]; exact hcls.1⟩ hd (hK _ _ _ _ _ _ e3 A H locs kk n h1 h2 h3 h4 h5)
  · exact ho.elim
/-- a static field of before the run -/
def o_gets (D : xD) (i n : Nat) : xOp := fun K ls st h rc rs => K n ls (D.sv i :: st) h rc rs
theorem ok_gets (hC : xCx X cc own nL d) {i j : Nat} {q : String × String × String} (hd : decode cc pc = .ok (.getstatic j, 3)) (hq : xst[i]? = some q) (hw : Cond.fieldLink own j q.1 q.2.1 q.2.2 ∈ xws) : xOk X pc (o_gets X.D i (pc + 3)) := by
  intro K hK ls st h rc rs ho A H locs kk n h1 h2 h3 h4 h5
  exact va_gets (A := fun q => X.D.sz ≤ q) hC.x hC.b (hC.E.1 i q hq) ⟨h3.1, fun a _ z => h3.2.1 a (Nat.not_le.mp z), h3.2.2⟩ hC.ow (hC.ts _ hw) (fun _ z => z) hd (hK _ _ _ _ _ _ ho A H locs kk n h1 h2 h3 h4 h5)
/-- a constant text -/
def o_ldcS (D : xD) (i n : Nat) : xOp := fun K ls st h rc rs => K n ls (D.sv (1000 + i) :: st) h rc rs
theorem ok_ldcS (hC : xCx X cc own nL d) {i j : Nat} {tx : String} (hd : decode cc pc = .ok (.ldc j, 2)) (hq : xsr[i]? = some (own, j, tx)) : xOk X pc (o_ldcS X.D i (pc + 2)) := by
  intro K hK ls st h rc rs ho A H locs kk n h1 h2 h3 h4 h5
  obtain ⟨a, e1, e2⟩ := hC.E.2.1 i _ hq
  unfold o_ldcS at ho
  rw [e1] at ho
  exact va_ldcS hC.x hC.b hC.ow e2 hd (hK _ _ _ _ _ _ ho A H locs kk n h1 h2 h3 h4 h5)
end XHEAP
end
section
/-! THE ABSTRACT MACHINE, 5: returns, calls, contracts -/
section XRET
variable {X : xX} {cc : ByteArray} {own : String} {nL d pc : Nat}
theorem x_conv {H : Heap} {locs : List Loc} {k n : Nat} {g : JFrame} (hk : k ≤ X.R.cells) (hn : n ≤ X.R.slots) (hw : W X.p X.l X.e X.R X.s X.m X.args X.below X.meth X.c H locs k n (MQ X.below (fun _ st oc t => xQ X.D X.P st oc t) X.args X.s k n (fun q => X.D.sz ≤ q)) g) : xW X H locs k n g := by
  intro T hT Y
  obtain ⟨t, a, o, b1, b2, b3, L, ⟨-, b4, b5⟩, b6⟩ := hw T hT Y
  exact ⟨t, a, o, b1, b2, b3, L, ⟨b4, b5.mono hk hn⟩, b6⟩
theorem x_fin {h : xH} {H : Heap} {locs : List Loc} {v : Option Value} (h2 : x_R X.D X.s h H) (h3 : x_S X.D X.s.heap H locs) (hP : X.P (.inl v) h) : ∀ t : State, t.heap = H → X.s.WarmedH t.vm → xQ X.D X.P X.s (.returned v) t := fun t ht _ =>
  ⟨.inl v, h, rfl, trivial, hP, by rw [ht]; exact h2, fun q hq => by rw [ht]; exact h3.2.1 q hq, by rw [ht]; exact h3.1⟩
def o_iret (P : xO → xH → Prop) : xOp := fun _ _ st h _ _ => match st with
  | [.int v] => P (.inl (some (.int v))) h
  | _ => False
theorem ok_iret (hC : xCx X cc own nL d) (hr : X.meth.sig.returnType = some .int) (hd : decode cc pc = .ok (.ireturn, 1)) : xOk X pc (o_iret X.P) := by
  intro K hK ls st h rc rs ho A H locs k n h1 h2 h3 h4 h5
  unfold o_iret at ho
  split at ho
  · exact x_conv (by omega) (by omega) (W.iret (Qc := fun _ st oc t => xQ X.D X.P st oc t) (free := fun q => X.D.sz ≤ q) hC.x hC.b hr (x_fin h2 h3 ho) h3.2.2 hd hC.lk)
  · exact ho.elim
def o_zret (ty : FieldType) (P : xO → xH → Prop) : xOp := fun _ _ st h _ _ => match st with
  | [.int v] => narrow ty (.int v) = .int v ∧ P (.inl (some (.int v))) h
  | _ => False
theorem ok_zret (hC : xCx X cc own nL d) {ty : FieldType} (hr : X.meth.sig.returnType = some ty) (hd : decode cc pc = .ok (.ireturn, 1)) : xOk X pc (o_zret ty X.P) := by
  intro K hK ls st h rc rs ho A H locs k n h1 h2 h3 h4 h5
  unfold o_zret at ho
  split at ho
  · exact x_conv (by omega) (by omega) (W.zret (Qc := fun _ st oc t => xQ X.D X.P st oc t) (free := fun q => X.D.sz ≤ q) hC.x hC.b hr ho.1 (x_fin h2 h3 ho.2) h3.2.2 hd hC.lk)
  · exact ho.elim
def o_lret (P : xO → xH → Prop) : xOp := fun _ _ st h _ _ => match st with
  | [.long v] => P (.inl (some (.long v))) h
  | _ => False
theorem ok_lret (hC : xCx X cc own nL d) (hr : X.meth.sig.returnType = some .long) (hd : decode cc pc = .ok (.lreturn, 1)) : xOk X pc (o_lret X.P) := by
  intro K hK ls st h rc rs ho A H locs k n h1 h2 h3 h4 h5
  unfold o_lret at ho
  split at ho
  · exact x_conv (by omega) (by omega) (W.lret (Qc := fun _ st oc t => xQ X.D X.P st oc t) (free := fun q => X.D.sz ≤ q) hC.x hC.b hr (x_fin h2 h3 ho) h3.2.2 hd hC.lk)
  · exact ho.elim
def o_vret (P : xO → xH → Prop) : xOp := fun _ _ st h _ _ => match st with
  | [] => P (.inl none) h
  | _ => False
theorem ok_vret (hC : xCx X cc own nL d) (hr : X.meth.sig.returnType = none) (hd : decode cc pc = .ok (.return_, 1)) : xOk X pc (o_vret X.P) := by
  intro K hK ls st h rc rs ho A H locs k n h1 h2 h3 h4 h5
  unfold o_vret at ho
  split at ho
  · exact x_conv (by omega) (by omega) (W.vret (Qc := fun _ st oc t => xQ X.D X.P st oc t) (free := fun q => X.D.sz ≤ q) hC.x hC.b hr (x_fin h2 h3 ho) h3.2.2 hd hC.lk)
  · exact ho.elim
def o_aret (P : xO → xH → Prop) : xOp := fun _ _ st h _ _ => match st with
  | [.ref a] => P (.inl (some (.ref a))) h
  | [.null] => P (.inl (some .null)) h
  | _ => False
theorem ok_aret (hC : xCx X cc own nL d) {rt : FieldType} (hr : X.meth.sig.returnType = some rt) (hrt : (∃ n, rt = .object n) ∨ ∃ t, rt = .array t) (hd : decode cc pc = .ok (.areturn, 1)) : xOk X pc (o_aret X.P) := by
  intro K hK ls st h rc rs ho A H locs k n h1 h2 h3 h4 h5
  unfold o_aret at ho
  split at ho
  · exact x_conv (by omega) (by omega) (W.aret (Qc := fun _ st oc t => xQ X.D X.P st oc t) (free := fun q => X.D.sz ≤ q) hC.x hC.b hr hrt (Or.inr ⟨_, rfl⟩) (x_fin h2 h3 ho) h3.2.2 hd hC.lk)
  · exact x_conv (by omega) (by omega) (W.aret (Qc := fun _ st oc t => xQ X.D X.P st oc t) (free := fun q => X.D.sz ≤ q) hC.x hC.b hr hrt (Or.inl rfl) (x_fin h2 h3 ho) h3.2.2 hd hC.lk)
  · exact ho.elim
end XRET
/-- behind the invocation of a method that has a contract: it has returned, or thrown -/
theorem x_enter {p : Program} {l : Launch} {e : Env} {R : Room} {s : State} {m : MethodId} {args : Array Value} {below : List Frame} {meth : Method} {c : Code} {U : State} {Ls : List Loc} {c0 s0 : Nat} (X : Stand p l e R s m args below meth c U Ls c0 s0)
    {D : xD} {d mc ms maxL len : Nat} {y : MethodName} {av : List Value} {h : xH} {P : xO → xH → Prop} {bytes : ByteArray} {ret : Option FieldType} (hM : xMet l D d y av h mc ms P) (htr : e.platform.stackTraces = false)
    {g : JFrame} {ig : Instr} {mk : MethodId} (hg : g.method = m) (hsize : g.locals.size = c.maxLocals) (hdg : decode c.code g.pc = .ok (ig, len)) (hW : 2 * g.monitorRoom + (g.stack.map fun v => v.category).sum ≤ 8) (hn : U.methodNamed? y = some mk)
    (hws : ∀ w ∈ xws, ∀ (a' : Array Value) (V : State), s.WarmedH V.vm → w.before a' V = true) (hcode : ∃ (hh : List (Nat × Nat × Nat × Nat)), Cond.code y bytes maxL ret ∈ xws ∨ Cond.codeWith y bytes maxL ret hh ∈ xws) (hini : Cond.initialized y.cls ∈ xws) (hfr : d + 1 ≤ R.frames) (hlo : 8 + (maxL + 11) + (30 * d + 130) ≤ R.locals) (hc : c0 + mc ≤ R.cells) (hs : s0 + ms ≤ R.slots)
    (hR : x_R D U h U.heap) (hK : x_K D U) (hE : x_E D U U.heap) (hz : D.sz ≤ U.heap.size) :
    ∃ (o : xO) (h' : xH) (U' : State) (L : List Loc), Stand p l e R s m args below meth c U' (Ls ++ L) (c0 + mc) (s0 + ms) ∧ (∀ q ∈ L, D.sz ≤ q.base) ∧ xOe o h' ∧ P o h' ∧ x_R D U h' U'.heap ∧ (∀ q : Nat, q < D.sz → U'.heap[q]? = U.heap[q]?) ∧ U.heap.size ≤ U'.heap.size ∧
      (∀ v, o = .inl v → Steps p.tables e below (doInvoke e (U.setTop g) [] mk av.toArray).1 (U'.setTop { g with pc := g.pc + len, stack := v.toList ++ g.stack })) ∧
      (∀ ci a, o = .inr (ci, a) → Steps p.tables e below (doInvoke e (U.setTop g) [] mk av.toArray).1 ((U'.setTop g).pushFrame (.throwing a))) := by
  have hmY : ∃ (methY : Method) (cY : Code), U.vm.method? mk = some methY ∧ methY.code = some cY ∧ cY.maxLocals = maxL := by
    obtain ⟨hh, z | z⟩ := hcode
    · obtain ⟨methY, cY, z1, z2, -, z3, -⟩ := Cond.code_spec hn (hws _ z #[] U X.warmed)
      exact ⟨methY, cY, z1, z2, z3⟩
    · obtain ⟨m9, methY, cY, z0, z1, z2, -, z3, -⟩ := Cond.codeWith_spec (hws _ z #[] U X.warmed)
      cases hn.symm.trans z0
      exact ⟨methY, cY, z1, z2, z3⟩
  obtain ⟨methY, cY, hmY, hcY, hlY⟩ := hmY
  obtain ⟨kY, hkY, -⟩ := className_of_methodNamed hn
  have hinitY : kY.init = .initialized := Cond.initialized_spec (findClass_of_methodNamed hn) hkY (hws _ hini #[] U X.warmed)
  have hat : At U g.method c below := by rw [hg]; exact X.here
  have happ : (headSpec xws (xrm d mc ms)).appliesLoose y e.platform (U.calling g mk av.toArray) = true :=
    Spec.appliesLoose_calling (g := g) hat hdg hn hkY hinitY
      (X.room_calling (g := g) (R' := xrm d mc ms) hsize hmY hcY (by show d + 1 ≤ _; omega) (by rw [hlY]; show _ + (30 * d + 130) ≤ _; omega) hc hs) (atoms_intro fun w hw => hws w hw _ _ X.warmed)
  obtain ⟨mid, hmid⟩ := hat.above
  have hfrm : (U.setTop g).frames = (.java g :: mid) ++ below := by rw [State.frames_setTop' g hat.top, hmid]; rfl
  obtain ⟨oc, s₂, hsteps, -, hend, ⟨o, h', q1, q2, q3, q4, q5, q6⟩, L, ⟨hW₂, hsame2⟩, hL⟩ := Steps.callFree hM p X.admits X.cas X.clock (acts := []) hfrm happ ⟨rfl, hR, hK, hE, hz⟩ htr
  have hsame3 : (U.calling g mk av.toArray).sameButNew ({ s₂ with vm := (U.calling g mk av.toArray).vm } : State) L mc ms := hsame2
  obtain ⟨e2, r2, r3, r4, r5, r6⟩ := id hsame3
  rw [State.frames_setTop' g hat.top] at hend
  have e3 : s₂ = ({ (U.calling g mk av.toArray).setFrames s₂.frames with heap := s₂.heap, slotsUsed := s₂.slotsUsed } : State).setVm s₂.vm := by
    have : s₂ = ({ s₂ with vm := (U.calling g mk av.toArray).vm } : State).setVm s₂.vm := rfl
    rw [e2] at this
    exact this
  have hW' : U.WarmedH s₂.vm := hW₂
  obtain ⟨g₀, hg0⟩ := Option.isSome_iff_exists.mp hat.top
  obtain ⟨r, hr⟩ := State.topJava?_eq_some.mp hg0
  have hsame : U.sameButNew ({ U with heap := s₂.heap, slotsUsed := s₂.slotsUsed } : State) L mc ms := by
    refine ⟨?_, r2, r3, r4, r5, r6⟩
    obtain ⟨t, ht, -⟩ := State.frames_cons hr
    show ({ U with heap := s₂.heap, slotsUsed := s₂.slotsUsed } : State) = { U.setFrames U.frames with heap := s₂.heap, slotsUsed := s₂.slotsUsed }
    rw [State.setFrames_self ht]
  have hr' : (({ U with heap := s₂.heap, slotsUsed := s₂.slotsUsed } : State).setVm s₂.vm).frames = .java g₀ :: r := hr
  subst hg
  refine ⟨o, h', (({ U with heap := s₂.heap, slotsUsed := s₂.slotsUsed } : State).setVm s₂.vm), L,
    ⟨X.admits, X.cas, X.clock, X.frames, X.room, X.hears, X.method, X.code, (X.here.setHeapUsed s₂.heap s₂.slotsUsed).setVm hW'.alike, X.tail, State.WarmedH.trans X.warmed hW', X.limits, X.bytes, X.same.trans (hsame.setVm s.vm)⟩,
    hL, q2, q3, q4, q5, q6, ?_, ?_⟩
  · intro v ev
    subst ev
    have ev : oc = .returned v := q1
    subst ev
    obtain ⟨c₂, i₂, len₂, hc₂, hd₂, hf₂⟩ := hend
    have hcc : c₂ = c := by
      have h1 : s₂.code? g.method = U.code? g.method := by
        rw [State.code?_eq, State.code?_eq, hW'.alike.method?]
      exact Option.some.inj (hc₂.symm.trans (h1.trans hat.code))
    subst hcc
    have hlen : len₂ = len := by rw [hdg] at hd₂; cases hd₂; rfl
    subst hlen
    have hs₂ : s₂ = (({ U with heap := s₂.heap, slotsUsed := s₂.slotsUsed } : State).setVm s₂.vm).setTop { g with pc := g.pc + len₂, stack := v.toList ++ g.stack } := by
      refine e3.trans ?_
      rw [hf₂, State.calling_eq hat.top, State.setFrames_setFrames, State.setTop_of_frames _ hr', hr]
      rfl
    rw [← hs₂]
    exact hsteps
  · intro ci a ev
    subst ev
    have ev : oc = .threw a := q1
    subst ev
    have hf₂ : s₂.frames = .throwing a :: .java g :: U.frames.tail := hend
    have hs₂ : s₂ = ((({ U with heap := s₂.heap, slotsUsed := s₂.slotsUsed } : State).setVm s₂.vm).setTop g).pushFrame (.throwing a) := by
      refine e3.trans ?_
      rw [hf₂, State.calling_eq hat.top, State.setFrames_setFrames, State.pushFrame, State.frames_setTop _ hr', State.setTop_of_frames _ hr', State.setFrames_setFrames, hr]
      rfl
    rw [← hs₂]
    exact hsteps
/-- how a call comes to the method: by the instruction at g.pc the machine at T invokes y with av, 'rest' stays on the stack -/
def x_Inv (p : Program) (e : Env) (s : State) (below : List Frame) (T : State) (g : JFrame) (y : MethodName) (av rest : List Value) : Prop :=
  ∃ (mk : MethodId) (vm₁ : Vm), s.methodNamed? y = some mk ∧ s.WarmedH vm₁ ∧ ∀ target, (∀ acts, Steps p.tables e below (doInvoke e ((T.setVm vm₁).setTop { g with stack := rest }) acts mk av.toArray).1 target) → Steps p.tables e below (T.setTop g) target
section XINV
variable {p : Program} {l : Launch} {e : Env} {R : Room} {s : State} {m : MethodId} {args : Array Value} {below : List Frame} {meth : Method} {c : Code} {T : State} {locs : List Loc} {cells slots : Nat}
theorem x_invV (X : Stand p l e R s m args below meth c T locs cells slots) (hexec : p.tables.exec = Jvm.exec) {own C : String} {index : Nat} {y : MethodName} {bytes : ByteArray} {maxL : Nat} {ret : Option FieldType}
    (hown : s.vm.findClass own = some m.cls) (hlink : (Cond.methodLink own index y).before args s = true) (hinst : (Cond.instanceMethod y).before args s = true) (hsel : (Cond.selects C y y).before args s = true)
    (hcode : (Cond.code y bytes maxL ret).before args s = true) (hy : y.cls ≠ "java/lang/invoke/MethodHandle" ∧ y.cls ≠ "java/lang/invoke/VarHandle")
    {b : Addr} {cellB : Cell} (hcell : T.heap[b]? = some cellB) (hobj : cellB.vm.isStatics = false) (hcls : s.vm.findClass C = some cellB.cls)
    {g : JFrame} (hg : g.method = m) {argsL rest : List Value} (hlen : ∀ sig, parseMethodDescriptor y.desc = some sig → argsL.length = sig.parameters.length)
    (hstack : g.stack = argsL.reverse ++ .ref b :: rest) (hdg : decode c.code g.pc = .ok (.invokevirtual index, 3)) : x_Inv p e s below T g y (Value.ref b :: argsL) rest := by
  obtain ⟨mk, methM, hnamed, hmethM, hstM, habM⟩ := Cond.instanceMethod_spec hinst
  obtain ⟨methM', cM, hmethM', -, -, -, -, -, -, hsigM⟩ := Cond.code_spec hnamed hcode
  cases hmethM.symm.trans hmethM'
  obtain ⟨c2, r2, m2, q1, q2, q3, q4, kP, hkP, hkPi⟩ := Cond.selects_spec hsel
  cases hcls.symm.trans q1
  cases (State.methodFound?_of_named hnamed hy).symm.trans q2
  cases hnamed.symm.trans q3
  have hselP : selectMethod e.platform s.vm cellB.cls mk = .method mk := by rw [Launch.admits_selectMethod X.admits]; exact q4
  obtain ⟨vm₁, X₁, hstep₁⟩ := X.invokevirtual hexec hown hlink hnamed hmethM hstM hkP hkPi hy (a := b) (cell := cellB) hcell
    (fun z h => by rw [h] at hobj; cases hobj) hselP hmethM habM hkP hkPi (g := g) hg (argsL := argsL) (rest := rest) (hlen _ hsigM) hstack hdg
  exact ⟨mk, vm₁, hnamed, X₁.warmed, fun target h => hstep₁ _ fun acts => h acts⟩
theorem x_invVN (X : Stand p l e R s m args below meth c T locs cells slots) (hexec : p.tables.exec = Jvm.exec) {own C : String} {index : Nat} {host : String} {y : MethodName} {bytes : ByteArray} {maxL : Nat} {ret : Option FieldType}
    (hown : s.vm.findClass own = some m.cls) (hlink : (Cond.methodLinkNest own index y host).before args s = true) (hinst : (Cond.instanceMethod y).before args s = true) (hsel : (Cond.selects C y y).before args s = true)
    (hcode : (Cond.code y bytes maxL ret).before args s = true) (hy : y.cls ≠ "java/lang/invoke/MethodHandle" ∧ y.cls ≠ "java/lang/invoke/VarHandle")
    {b : Addr} {cellB : Cell} (hcell : T.heap[b]? = some cellB) (hobj : cellB.vm.isStatics = false) (hcls : s.vm.findClass C = some cellB.cls)
    {g : JFrame} (hg : g.method = m) {argsL rest : List Value} (hlen : ∀ sig, parseMethodDescriptor y.desc = some sig → argsL.length = sig.parameters.length)
    (hstack : g.stack = argsL.reverse ++ .ref b :: rest) (hdg : decode c.code g.pc = .ok (.invokevirtual index, 3)) : x_Inv p e s below T g y (Value.ref b :: argsL) rest := by
  obtain ⟨mk, methM, hnamed, hmethM, hstM, habM⟩ := Cond.instanceMethod_spec hinst
  obtain ⟨methM', cM, hmethM', -, -, -, -, -, -, hsigM⟩ := Cond.code_spec hnamed hcode
  cases hmethM.symm.trans hmethM'
  obtain ⟨c2, r2, m2, q1, q2, q3, q4, kP, hkP, hkPi⟩ := Cond.selects_spec hsel
  cases hcls.symm.trans q1
  cases (State.methodFound?_of_named hnamed hy).symm.trans q2
  cases hnamed.symm.trans q3
  have hselP : selectMethod e.platform s.vm cellB.cls mk = .method mk := by rw [Launch.admits_selectMethod X.admits]; exact q4
  obtain ⟨vm₁, X₁, hstep₁⟩ := X.invokevirtualNest hexec hown hlink hnamed hmethM hstM hkP hkPi hy (a := b) (cell := cellB) hcell
    (fun z h => by rw [h] at hobj; cases hobj) hselP hmethM habM hkP hkPi (g := g) hg (argsL := argsL) (rest := rest) (hlen _ hsigM) hstack hdg
  exact ⟨mk, vm₁, hnamed, X₁.warmed, fun target h => hstep₁ _ fun acts => h acts⟩
theorem x_invS (X : Stand p l e R s m args below meth c T locs cells slots) (hexec : p.tables.exec = Jvm.exec) {own : String} {index : Nat} {y : MethodName} {mk : MethodId} {methM : Method}
    (hown : s.vm.findClass own = some m.cls) (hlink : (Cond.methodLink own index y).before args s = true) (hstat : (Cond.static y).before args s = true) (hinit : (Cond.initialized y.cls).before args s = true)
    (hnamed : s.methodNamed? y = some mk) (hmethM : s.vm.method? mk = some methM) (hsigM : parseMethodDescriptor y.desc = some methM.sig) (hy : y.cls ≠ "java/lang/invoke/MethodHandle" ∧ y.cls ≠ "java/lang/invoke/VarHandle")
    {g : JFrame} (hg : g.method = m) {argsL rest : List Value} (hlen : ∀ sig, parseMethodDescriptor y.desc = some sig → argsL.length = sig.parameters.length)
    (hstack : g.stack = argsL.reverse ++ rest) (hdg : decode c.code g.pc = .ok (.invokestatic index, 3)) : x_Inv p e s below T g y argsL rest := by
  have hstatic : methM.isStatic = true := Cond.static_spec hnamed hmethM hstat
  obtain ⟨kP, hkP, -⟩ := className_of_methodNamed hnamed
  have hinitP : kP.init = .initialized := Cond.initialized_spec (findClass_of_methodNamed hnamed) hkP hinit
  obtain ⟨vm₁, X₁, hstep₁⟩ := X.invokestatic hexec hown hlink hnamed hmethM hstatic hkP hinitP hy (g := g) hg (argsL := argsL) (rest := rest) (hlen _ hsigM) hstack hdg
  exact ⟨mk, vm₁, hnamed, X₁.warmed, fun target h => hstep₁ _ fun acts => h acts⟩
theorem x_invSN (X : Stand p l e R s m args below meth c T locs cells slots) (hexec : p.tables.exec = Jvm.exec) {own host : String} {index : Nat} {y : MethodName} {mk : MethodId} {methM : Method}
    (hown : s.vm.findClass own = some m.cls) (hlink : (Cond.methodLinkNest own index y host).before args s = true) (hstat : (Cond.static y).before args s = true) (hinit : (Cond.initialized y.cls).before args s = true)
    (hnamed : s.methodNamed? y = some mk) (hmethM : s.vm.method? mk = some methM) (hsigM : parseMethodDescriptor y.desc = some methM.sig) (hy : y.cls ≠ "java/lang/invoke/MethodHandle" ∧ y.cls ≠ "java/lang/invoke/VarHandle")
    {g : JFrame} (hg : g.method = m) {argsL rest : List Value} (hlen : ∀ sig, parseMethodDescriptor y.desc = some sig → argsL.length = sig.parameters.length)
    (hstack : g.stack = argsL.reverse ++ rest) (hdg : decode c.code g.pc = .ok (.invokestatic index, 3)) : x_Inv p e s below T g y argsL rest := by
  have hstatic : methM.isStatic = true := Cond.static_spec hnamed hmethM hstat
  obtain ⟨kP, hkP, -⟩ := className_of_methodNamed hnamed
  have hinitP : kP.init = .initialized := Cond.initialized_spec (findClass_of_methodNamed hnamed) hkP hinit
  obtain ⟨vm₁, X₁, hstep₁⟩ := X.invokestaticNest hexec hown hlink hnamed hmethM hstatic hkP hinitP hy (g := g) hg (argsL := argsL) (rest := rest) (hlen _ hsigM) hstack hdg
  exact ⟨mk, vm₁, hnamed, X₁.warmed, fun target h => hstep₁ _ fun acts => h acts⟩
theorem x_invI (X : Stand p l e R s m args below meth c T locs cells slots) (hexec : p.tables.exec = Jvm.exec) {own : String} {index : Nat} {y : MethodName} {bytes : ByteArray} {maxL : Nat}
    (hown : s.vm.findClass own = some m.cls) (hy1 : y.name = "<init>") (hlink : (Cond.methodLink own index y).before args s = true) (hinst : (Cond.instanceMethod y).before args s = true)
    (hcode : (Cond.code y bytes maxL none).before args s = true) (hy : y.cls ≠ "java/lang/invoke/MethodHandle" ∧ y.cls ≠ "java/lang/invoke/VarHandle")
    {g : JFrame} (hg : g.method = m) {a : Addr} {argsL rest : List Value} (hlen : ∀ sig, parseMethodDescriptor y.desc = some sig → argsL.length = sig.parameters.length)
    (hstack : g.stack = argsL.reverse ++ .ref a :: rest) (hdg : decode c.code g.pc = .ok (.invokespecial index, 3)) : x_Inv p e s below T g y (Value.ref a :: argsL) rest := by
  subst hg
  have hpl : e.platform.magicAccessors = ({} : Platform).magicAccessors := by rw [X.admits.platform]
  obtain ⟨mk, methM, cM, kP, vm₁, hnamed, hmethM, hcodeM, -, hlocalsM, -, hkP, -, hW₁, hstep₁⟩ := Steps.initColdArgs (e := e) X.here hexec X.warmed hpl hown hy1 hy hlink hinst hcode (f := g) rfl hlen hstack hdg
  exact ⟨mk, vm₁, hnamed, hW₁, fun target h => hstep₁ _ fun acts => h acts⟩
theorem x_invIN (X : Stand p l e R s m args below meth c T locs cells slots) (hexec : p.tables.exec = Jvm.exec) {own host : String} {index : Nat} {y : MethodName} {bytes : ByteArray} {maxL : Nat}
    (hown : s.vm.findClass own = some m.cls) (hy1 : y.name = "<init>") (hlink : (Cond.methodLinkNest own index y host).before args s = true) (hinst : (Cond.instanceMethod y).before args s = true)
    (hcode : (Cond.code y bytes maxL none).before args s = true) (hy : y.cls ≠ "java/lang/invoke/MethodHandle" ∧ y.cls ≠ "java/lang/invoke/VarHandle")
    {g : JFrame} (hg : g.method = m) {a : Addr} {argsL rest : List Value} (hlen : ∀ sig, parseMethodDescriptor y.desc = some sig → argsL.length = sig.parameters.length)
    (hstack : g.stack = argsL.reverse ++ .ref a :: rest) (hdg : decode c.code g.pc = .ok (.invokespecial index, 3)) : x_Inv p e s below T g y (Value.ref a :: argsL) rest := by
  subst hg
  have hpl : e.platform.magicAccessors = ({} : Platform).magicAccessors := by rw [X.admits.platform]
  obtain ⟨mk, methM, cM, kP, vm₁, hnamed, hmethM, hcodeM, -, hlocalsM, -, hkP, -, hW₁, hstep₁⟩ := Steps.initColdArgsNest (e := e) X.here hexec X.warmed hpl hown hy1 hy hlink hinst hcode (f := g) rfl hlen hstack hdg
  exact ⟨mk, vm₁, hnamed, hW₁, fun target h => hstep₁ _ fun acts => h acts⟩
end XINV
/-! THE ABSTRACT MACHINE, 6: the call operations, contracts out of walks -/
def xsp : Nat → List Value → List Value → (List Value → List Value → Prop) → Prop
  | 0, acc, st, k => k acc st
  | n + 1, acc, st, k => match st with
    | v :: r => xsp n (v :: acc) r k
    | [] => False
theorem xsp_of : ∀ {n : Nat} {acc st : List Value} {k : List Value → List Value → Prop}, xsp n acc st k → ∃ av rest : List Value, st = av.reverse ++ rest ∧ av.length = n ∧ k (av ++ acc) rest
  | 0, acc, st, k, h => ⟨[], st, rfl, rfl, h⟩
  | n + 1, acc, st, k, h => by
    unfold xsp at h
    split at h
    · rename_i v r
      obtain ⟨av, rest, e1, e2, e3⟩ := xsp_of h
      refine ⟨av ++ [v], rest, by rw [e1]; simp, by simp [e2], ?_⟩
      rw [List.append_assoc]
      exact e3
    · exact h.elim
def xaf (K : Nat → xK) (P : xO → xH → Prop) (n : Nat) (ls : xL) (rest : List Value) (rc rs : Nat) (o : xO) (h' : xH) : Prop := match o with
  | .inl none => K n ls rest h' rc rs
  | .inl (some v) => K n ls (v :: rest) h' rc rs
  | .inr q => P (.inr q) h'
def xcl' (l : Launch) (D : xD) (P : xO → xH → Prop) (d : Nat) (y : MethodName) (n : Nat) (K : Nat → xK) (ls : xL) (h : xH) (rc rs : Nat) (av rest : List Value) : Prop :=
  xif (Nat.ble (rest.map fun v => v.category).sum 8) (∃ (mc ms : Nat) (Pc : xO → xH → Prop), xMet l D d y av h mc ms Pc ∧ mc ≤ rc ∧ ms ≤ rs ∧ ∀ o h', Pc o h' → xaf K P n ls rest (rc - mc) (rs - ms) o h')
def o_callS (l : Launch) (D : xD) (P : xO → xH → Prop) (d na : Nat) (y : MethodName) (n : Nat) : xOp := fun K ls st h rc rs => xsp na [] st (xcl' l D P d y n K ls h rc rs)
def o_callV (l : Launch) (D : xD) (P : xO → xH → Prop) (ci d na : Nat) (y : MethodName) (n : Nat) : xOp := fun K ls st h rc rs => xsp na [] st (fun av rest => match av with
  | .ref b :: _ => ∃ fs : List Value, h b = some (ci, fs) ∧ xcl' l D P d y n K ls h rc rs av rest
  | _ => False)
def o_callI (l : Launch) (D : xD) (P : xO → xH → Prop) (d na : Nat) (y : MethodName) (n : Nat) : xOp := fun K ls st h rc rs => xsp na [] st (fun av rest => match av with
  | .ref _ :: _ => xcl' l D P d y n K ls h rc rs av rest
  | _ => False)
section XCALL
variable {X : xX} {cc bytes : ByteArray} {own : String} {nL d pc maxL : Nat} {ret : Option FieldType}
theorem x_call (hC : xCx X cc own nL d) (hnh : X.c.exceptionTable.isEmpty = true) {y : MethodName} {d' len : Nat} {ig : Instr} (hdd : d' < d) (hmx : maxL ≤ 11) (hcode : ∃ (hh : List (Nat × Nat × Nat × Nat)), Cond.code y bytes maxL ret ∈ xws ∨ Cond.codeWith y bytes maxL ret hh ∈ xws) (hini : Cond.initialized y.cls ∈ xws) (hd : decode cc pc = .ok (ig, len))
    {K : Nat → xK} (hK : ∀ q ls st h rc rs, K q ls st h rc rs → xG X q ls st h rc rs) {ls : xL} {h : xH} {rc rs : Nat} {av rest st : List Value} (ho : xcl' X.l X.D X.P d' y (pc + len) K ls h rc rs av rest)
    {A : Array Slot} {H : Heap} {locs : List Loc} {k n : Nat} (h1 : lv_has A X.c.maxLocals ls) (h2 : x_R X.D X.s h H) (h3 : x_S X.D X.s.heap H locs) (h4 : k + rc ≤ X.R.cells) (h5 : n + rs ≤ X.R.slots)
    (hinv : ∀ T : State, T.heap = H → Stand X.p X.l X.e X.R X.s X.m X.args X.below X.meth X.c T locs k n → x_Inv X.p X.e X.s X.below T (F0 X.m pc A st) y av rest) : xW X H locs k n (F0 X.m pc A st) := by
  obtain ⟨hst, mc, ms, Pc, hM, g1, g2, g3⟩ := xif_iff ho
  intro T hT Y
  obtain ⟨mk, vm₁, hn, hW1, hgo⟩ := hinv T hT Y
  have Y1 := Y.noted hW1
  have hE1 : x_E X.D (T.setVm vm₁) (T.setVm vm₁).heap := (hC.E.kept (fun q hq => by show T.heap[q]? = _; rw [hT]; exact h3.2.1 q hq)).warm hW1
  obtain ⟨o, h', U', L, Y2, q1, q2, q3, q4, q5, q6, q7, q8⟩ := x_enter Y1 hM hC.tr (bytes := bytes) (maxL := maxL) (ret := ret) (g := { (F0 X.m pc A st) with stack := rest }) (ig := ig) (len := len) (mk := mk) rfl h1.1 (by rw [hC.b]; exact hd)
    (by show 2 * 0 + (rest.map fun v => v.category).sum ≤ 8; have := Nat.le_of_ble_eq_true hst; omega) (Y1.named hn) (xws_warm hC.ts) hcode hini (by have := hC.fr; omega) (by have := hC.lo; omega) (by omega) (by omega)
    ((by show x_R X.D (T.setVm vm₁) h T.heap; rw [hT]; exact h2.moved hW1.alike)) (hC.K.moved hW1.alike) hE1 (by show X.D.sz ≤ T.heap.size; rw [hT]; exact Nat.le_trans hC.z h3.1)
  have hTh : (T.setVm vm₁).heap = H := hT
  rw [hTh] at q5 q6
  have hR' : x_R X.D X.s h' U'.heap := q4.moved hW1.alike.symm
  have hS' : x_S X.D X.s.heap U'.heap (locs ++ L) := ⟨Nat.le_trans h3.1 q6, fun q hq => (q5 q hq).trans (h3.2.1 q hq), fun z hz => by
    rcases List.mem_append.mp hz with z1 | z1
    · exact h3.2.2 z z1
    · exact q1 z z1⟩
  have hgoon := g3 o h' q3
  cases o with
  | inl v =>
    have hs := q7 v rfl
    have hG : xG X (pc + len) ls (v.toList ++ rest) h' (rc - mc) (rs - ms) := by
      cases v with
      | none => exact hK _ _ _ _ _ _ hgoon
      | some v => exact hK _ _ _ _ _ _ hgoon
    obtain ⟨t, a1, b1⟩ := hG A U'.heap (locs ++ L) (k + mc) (n + ms) h1 hR' hS' (by omega) (by omega) U' rfl Y2
    exact ⟨t, hgo _ (fun acts => by rw [doInvoke_state]; exact hs.trans a1), b1⟩
  | inr q =>
    obtain ⟨ci, a⟩ := q
    have hs := q8 ci a rfl
    obtain ⟨w1, w2, w3, w4, w5⟩ := Y2.leaveThrown a (g := { (F0 X.m pc A st) with stack := rest }) rfl rfl rfl (fun x hx => by
      have z : X.c.exceptionTable = #[] := Array.isEmpty_iff.mp hnh
      rw [z] at hx
      cases hx) hC.lk
    refine ⟨_, hgo _ (fun acts => by rw [doInvoke_state]; exact hs.trans w1), .threw a, w2, w3, ⟨.inr (ci, a), h', rfl, q2, hgoon, hR', fun q hq => (q5 q hq).trans (h3.2.1 q hq), Nat.le_trans h3.1 q6⟩, locs ++ L, ⟨w4, w5.mono (by omega) (by omega)⟩, hS'.2.2⟩
abbrev xpn (y : MethodName) (na : Nat) : Prop := y.cls ≠ "java/lang/invoke/MethodHandle" ∧ y.cls ≠ "java/lang/invoke/VarHandle" ∧ (parseMethodDescriptor y.desc).map (fun d => d.parameters.length) = some na
theorem xpn.len {y : MethodName} {na : Nat} (h : xpn y na) {as : List Value} (ha : as.length = na) : ∀ sig, parseMethodDescriptor y.desc = some sig → as.length = sig.parameters.length := fun sig e => by
  have h2 := h.2.2
  rw [e] at h2
  rw [ha]
  exact (Option.some.inj h2).symm
theorem x_recv {D : xD} {s : State} {h : xH} {H : Heap} {b ci : Nat} {fs : List Value} {r0 : vw_C} (hK : x_K D s) (hR : x_R D s h H) (hci : ci < 100) (hc : xcl[ci]? = some r0) (e : h b = some (ci, fs)) : ∃ cell : Cell, H[b]? = some cell ∧ cell.vm.isStatics = false ∧ s.vm.findClass r0.1 = some cell.cls := by
  obtain ⟨g0, r', w1, w2, cellV, w3, w4, w5, w6⟩ := x_obj hci (hR _ _ e)
  exact ⟨cellV, w3, by rw [w5]; rfl, by rw [w4]; exact (hK.1 ci _ hc).2.1⟩
theorem ok_callV (hC : xCx X cc own nL d) (hnh : X.c.exceptionTable.isEmpty = true) {y : MethodName} {ci d' na i : Nat} {r0 : vw_C} (hd : decode cc pc = .ok (.invokevirtual i, 3)) (hdd : d' < d) (hmx : maxL ≤ 11) (hci : ci < 100) (hc : xcl[ci]? = some r0) (hp : xpn y na)
    (hcode : Cond.code y bytes maxL ret ∈ xws) (hini : Cond.initialized y.cls ∈ xws) (hl : Cond.methodLink own i y ∈ xws) (hin : Cond.instanceMethod y ∈ xws) (hse : Cond.selects r0.1 y y ∈ xws) : xOk X pc (o_callV X.l X.D X.P ci d' (na + 1) y (pc + 3)) := by
  intro K hK ls st h rc rs ho A H locs k n h1 h2 h3 h4 h5
  obtain ⟨av, rest, e1, e2, e3⟩ := xsp_of ho
  rw [List.append_nil] at e3
  split at e3
  · rename_i b as
    obtain ⟨fs, e4, e5⟩ := e3
    obtain ⟨cellB, r1, r2, r3⟩ := x_recv hC.K h2 hci hc e4
    refine x_call hC hnh (bytes := bytes) (ret := ret) hdd hmx ⟨[], Or.inl hcode⟩ hini hd hK e5 h1 h2 h3 h4 h5 (fun T hT Y => ?_)
    exact x_invV Y hC.x hC.ow (hC.ts _ hl) (hC.ts _ hin) (hC.ts _ hse) (hC.ts _ hcode) ⟨hp.1, hp.2.1⟩ (by rw [hT]; exact r1) r2 r3 rfl (hp.len (by simpa using e2)) (by show st = _; rw [e1]; simp) (by rw [hC.b]; exact hd)
  · exact e3.elim
theorem ok_callVN (hC : xCx X cc own nL d) (hnh : X.c.exceptionTable.isEmpty = true) {y : MethodName} {host : String} {ci d' na i : Nat} {r0 : vw_C} (hd : decode cc pc = .ok (.invokevirtual i, 3)) (hdd : d' < d) (hmx : maxL ≤ 11) (hci : ci < 100) (hc : xcl[ci]? = some r0) (hp : xpn y na)
    (hcode : Cond.code y bytes maxL ret ∈ xws) (hini : Cond.initialized y.cls ∈ xws) (hl : Cond.methodLinkNest own i y host ∈ xws) (hin : Cond.instanceMethod y ∈ xws) (hse : Cond.selects r0.1 y y ∈ xws) : xOk X pc (o_callV X.l X.D X.P ci d' (na + 1) y (pc + 3)) := by
  intro K hK ls st h rc rs ho A H locs k n h1 h2 h3 h4 h5
  obtain ⟨av, rest, e1, e2, e3⟩ := xsp_of ho
  rw [List.append_nil] at e3
  split at e3
  · rename_i b as
    obtain ⟨fs, e4, e5⟩ := e3
    obtain ⟨cellB, r1, r2, r3⟩ := x_recv hC.K h2 hci hc e4
    refine x_call hC hnh (bytes := bytes) (ret := ret) hdd hmx ⟨[], Or.inl hcode⟩ hini hd hK e5 h1 h2 h3 h4 h5 (fun T hT Y => ?_)
    exact x_invVN Y hC.x hC.ow (hC.ts _ hl) (hC.ts _ hin) (hC.ts _ hse) (hC.ts _ hcode) ⟨hp.1, hp.2.1⟩ (by rw [hT]; exact r1) r2 r3 rfl (hp.len (by simpa using e2)) (by show st = _; rw [e1]; simp) (by rw [hC.b]; exact hd)
  · exact e3.elim
theorem x_codeNamed {args : Array Value} {s : State} {y : MethodName} (hts : ∀ w ∈ xws, w.before args s = true) {hh : List (Nat × Nat × Nat × Nat)} (hcode : Cond.code y bytes maxL ret ∈ xws ∨ Cond.codeWith y bytes maxL ret hh ∈ xws) : ∃ (mk : MethodId) (methM : Method), s.methodNamed? y = some mk ∧ s.vm.method? mk = some methM ∧ parseMethodDescriptor y.desc = some methM.sig := by
  rcases hcode with z | z
  · obtain ⟨mk, hnamed⟩ := Cond.code_named (hts _ z)
    obtain ⟨methM, cM, hmethM, -, -, -, -, -, -, hsigM⟩ := Cond.code_spec hnamed (hts _ z)
    exact ⟨mk, methM, hnamed, hmethM, hsigM⟩
  · obtain ⟨mk, methM, cM, hnamed, hmethM, -, -, -, -, -, -, hsigM⟩ := Cond.codeWith_spec (hts _ z)
    exact ⟨mk, methM, hnamed, hmethM, hsigM⟩
theorem ok_callS (hC : xCx X cc own nL d) (hnh : X.c.exceptionTable.isEmpty = true) {y : MethodName} {hh : List (Nat × Nat × Nat × Nat)} {d' na i : Nat} (hd : decode cc pc = .ok (.invokestatic i, 3)) (hdd : d' < d) (hmx : maxL ≤ 11) (hp : xpn y na)
    (hcode : Cond.code y bytes maxL ret ∈ xws ∨ Cond.codeWith y bytes maxL ret hh ∈ xws) (hini : Cond.initialized y.cls ∈ xws) (hl : Cond.methodLink own i y ∈ xws) (hse : Cond.static y ∈ xws) : xOk X pc (o_callS X.l X.D X.P d' na y (pc + 3)) := by
  intro K hK ls st h rc rs ho A H locs k n h1 h2 h3 h4 h5
  obtain ⟨av, rest, e1, e2, e3⟩ := xsp_of ho
  rw [List.append_nil] at e3
  obtain ⟨mk, methM, r1, r2, r3⟩ := x_codeNamed hC.ts hcode
  refine x_call hC hnh (bytes := bytes) (ret := ret) hdd hmx ⟨hh, hcode⟩ hini hd hK e3 h1 h2 h3 h4 h5 (fun T hT Y => ?_)
  exact x_invS Y hC.x hC.ow (hC.ts _ hl) (hC.ts _ hse) (hC.ts _ hini) r1 r2 r3 ⟨hp.1, hp.2.1⟩ rfl (hp.len e2) e1 (by rw [hC.b]; exact hd)
theorem ok_callSN (hC : xCx X cc own nL d) (hnh : X.c.exceptionTable.isEmpty = true) {y : MethodName} {host : String} {hh : List (Nat × Nat × Nat × Nat)} {d' na i : Nat} (hd : decode cc pc = .ok (.invokestatic i, 3)) (hdd : d' < d) (hmx : maxL ≤ 11) (hp : xpn y na)
    (hcode : Cond.code y bytes maxL ret ∈ xws ∨ Cond.codeWith y bytes maxL ret hh ∈ xws) (hini : Cond.initialized y.cls ∈ xws) (hl : Cond.methodLinkNest own i y host ∈ xws) (hse : Cond.static y ∈ xws) : xOk X pc (o_callS X.l X.D X.P d' na y (pc + 3)) := by
  intro K hK ls st h rc rs ho A H locs k n h1 h2 h3 h4 h5
  obtain ⟨av, rest, e1, e2, e3⟩ := xsp_of ho
  rw [List.append_nil] at e3
  obtain ⟨mk, methM, r1, r2, r3⟩ := x_codeNamed hC.ts hcode
  refine x_call hC hnh (bytes := bytes) (ret := ret) hdd hmx ⟨hh, hcode⟩ hini hd hK e3 h1 h2 h3 h4 h5 (fun T hT Y => ?_)
  exact x_invSN Y hC.x hC.ow (hC.ts _ hl) (hC.ts _ hse) (hC.ts _ hini) r1 r2 r3 ⟨hp.1, hp.2.1⟩ rfl (hp.len e2) e1 (by rw [hC.b]; exact hd)
theorem ok_callI (hC : xCx X cc own nL d) (hnh : X.c.exceptionTable.isEmpty = true) {y : MethodName} {d' na i : Nat} (hd : decode cc pc = .ok (.invokespecial i, 3)) (hdd : d' < d) (hmx : maxL ≤ 11) (hp : xpn y na) (hy1 : y.name = "<init>")
    (hcode : Cond.code y bytes maxL none ∈ xws) (hini : Cond.initialized y.cls ∈ xws) (hl : Cond.methodLink own i y ∈ xws) (hin : Cond.instanceMethod y ∈ xws) : xOk X pc (o_callI X.l X.D X.P d' (na + 1) y (pc + 3)) := by
  intro K hK ls st h rc rs ho A H locs k n h1 h2 h3 h4 h5
  obtain ⟨av, rest, e1, e2, e3⟩ := xsp_of ho
  rw [List.append_nil] at e3
  split at e3
  · refine x_call hC hnh (bytes := bytes) (ret := none) hdd hmx ⟨[], Or.inl hcode⟩ hini hd hK e3 h1 h2 h3 h4 h5 (fun T hT Y => ?_)
    exact x_invI Y hC.x hC.ow hy1 (hC.ts _ hl) (hC.ts _ hin) (hC.ts _ hcode) ⟨hp.1, hp.2.1⟩ rfl (hp.len (by simpa using e2)) (by show st = _; rw [e1]; simp) (by rw [hC.b]; exact hd)
  · exact e3.elim
theorem ok_callIN (hC : xCx X cc own nL d) (hnh : X.c.exceptionTable.isEmpty = true) {y : MethodName} {host : String} {d' na i : Nat} (hd : decode cc pc = .ok (.invokespecial i, 3)) (hdd : d' < d) (hmx : maxL ≤ 11) (hp : xpn y na) (hy1 : y.name = "<init>")
    (hcode : Cond.code y bytes maxL none ∈ xws) (hini : Cond.initialized y.cls ∈ xws) (hl : Cond.methodLinkNest own i y host ∈ xws) (hin : Cond.instanceMethod y ∈ xws) : xOk X pc (o_callI X.l X.D X.P d' (na + 1) y (pc + 3)) := by
  intro K hK ls st h rc rs ho A H locs k n h1 h2 h3 h4 h5
  obtain ⟨av, rest, e1, e2, e3⟩ := xsp_of ho
  rw [List.append_nil] at e3
  split at e3
  · refine x_call hC hnh (bytes := bytes) (ret := none) hdd hmx ⟨[], Or.inl hcode⟩ hini hd hK e3 h1 h2 h3 h4 h5 (fun T hT Y => ?_)
    exact x_invIN Y hC.x hC.ow hy1 (hC.ts _ hl) (hC.ts _ hin) (hC.ts _ hcode) ⟨hp.1, hp.2.1⟩ rfl (hp.len (by simpa using e2)) (by show st = _; rw [e1]; simp) (by rw [hC.b]; exact hd)
  · exact e3.elim
/-- Object's constructor -/
def o_obj (n : Nat) : xOp := fun K ls st h rc rs => match st with
  | .ref _ :: r => xif (Nat.ble (r.map fun v => v.category).sum 8) (K n ls r h rc rs)
  | _ => False
theorem ok_obj (hC : xCx X cc own nL d) {i : Nat} (h0 : 1 ≤ d) (hd : decode cc pc = .ok (.invokespecial i, 3)) (hl : Cond.methodLink own i objectInit ∈ xws) (hin : Cond.instanceMethod objectInit ∈ xws) (hcode : Cond.code objectInit ⟨#[0xb1]⟩ 1 none ∈ xws) : xOk X pc (o_obj (pc + 3)) := by
  intro K hK ls st h rc rs ho A H locs k n h1 h2 h3 h4 h5
  unfold o_obj at ho
  split at ho
  · obtain ⟨e1, ho⟩ := xif_iff ho
    exact W.objInit hC.x hC.b hC.ow (hC.ts _ hl) (hC.ts _ hin) (hC.ts _ hcode) rfl h1.1 rfl hd (by have := hC.fr; omega) (by have := hC.lo; have := Nat.le_of_ble_eq_true e1; show 2 * 0 + _ + 12 ≤ _; omega) (hK _ _ _ _ _ _ ho A H locs k n h1 h2 h3 h4 h5)
  · exact ho.elim
end XCALL
/-- A CONTRACT OUT OF A WALK -/
theorem xMet.of {l : Launch} {D : xD} {d : Nat} {y : MethodName} {av : List Value} {h : xH} {mc ms : Nat} {P : xO → xH → Prop} {cc : ByteArray} {maxL : Nat} {ret : Option FieldType} (hy : plainName y.cls = true) (hcode : Cond.code y cc maxL ret ∈ xws) (hav : (lg_sl av).length ≤ maxL)
    (body : ∀ X : xX, X.l = l → X.D = D → X.P = P → X.R.cells = mc → X.R.slots = ms → xCx X cc y.cls maxL d → X.meth.sig.returnType = ret → X.c.exceptionTable.isEmpty = true → X.meth.name = y.name → xG X 0 (lv_args 0 av) [] h mc ms) : xMet l D d y av h mc ms P := by
  refine MetFree.of_bodyS (code := cc) (maxLocals := maxL) (ret := ret) hy ?_ ?_
  · intro args s m hpre hn
    obtain ⟨meth, c, h1, h2, h3, h4, h5, h6, -, -⟩ := Cond.code_spec hn (atoms_spec (ws := xws) hpre _ hcode)
    exact ⟨meth, c, h1, h2, h3, h4, h5, h6⟩
  · intro p e s m args below meth c s₁ B hml hP htr
    obtain ⟨rfl, hR, hK, hE, hz⟩ := hP
    have hh0 : s₁.heap = s.heap := by rw [B.state]; rfl
    have hts : ∀ w ∈ xws, w.before av.toArray s = true := atoms_spec (ws := xws) B.pre
    have hnh : c.exceptionTable.isEmpty = true := by
      obtain ⟨meth', c', h1, h2, h3, h4, h5, h6, h7, -⟩ := Cond.code_spec B.named (hts _ hcode)
      have e1 : meth' = meth := Option.some.inj (h1.symm.trans B.method)
      rw [e1] at h2
      have e2 : c' = c := Option.some.inj (h2.symm.trans (Stand.of_body B).code)
      rw [← e2]
      exact h7
    have hG := body (p, l, e, (headSpec xws (xrm d mc ms)).room, s, m, av.toArray, below, meth, c, D, P) rfl rfl rfl rfl rfl
      ⟨B.exec, B.bytes, hml, findClass_of_methodNamed B.named, hts, B.notSynchronized, hK, hE, hz, htr, Nat.le_refl _, Nat.le_refl _⟩ B.returns hnh (name_of_methodNamed B.named B.method).1
    have hl := lv_entry av (n := maxL) hav
    have hw := hG _ s.heap [] 0 0 (by rw [hml]; exact hl) hR ⟨Nat.le_refl _, fun _ _ => rfl, fun _ z => by cases z⟩ (by show 0 + mc ≤ mc; omega) (by show 0 + ms ≤ ms; omega)
    rw [← lg_entry_eq] at hw
    obtain ⟨t, a1, o, b1, b2, b3, b4⟩ := hw s₁ hh0 (Stand.of_body B)
    exact ⟨t, o, a1, b1, b2, b3, b4⟩
end
section
/-! THE ABSTRACT MACHINE, 7: throw new E("a written text") -/
/-- the walk's book begun anew where it stands -/
theorem x_rebase {p : Program} {l : Launch} {e : Env} {R R' : Room} {s : State} {m : MethodId} {args : Array Value} {below : List Frame} {meth : Method} {c : Code} {T : State} {locs : List Loc} {k n : Nat} (X : Stand p l e R s m args below meth c T locs k n)
    (h1 : R'.frames ≤ R.frames) (h2 : R'.locals ≤ R.locals) (h3 : k + R'.cells ≤ R.cells) (h4 : n + R'.slots ≤ R.slots) : Stand p l e R' (T.setFrames (.invoking m args :: below)) m args below meth c T [] 0 0 := by
  obtain ⟨g₀, hfr⟩ := X.frames_eq
  have hcur : T.cur < T.threads.size := State.cur_lt_of_frames hfr
  have hf' : (T.setFrames (.invoking m args :: below)).frames = .invoking m args :: below := State.frames_setFrames _ hcur
  have hlim : e.platform.stackLimits (T.setFrames (.invoking m args :: below)).me = e.platform.stackLimits T.me := State.stackLimits_setFrames ..
  have hby : (T.setFrames (.invoking m args :: below)).me.stackBytes = T.me.stackBytes := State.stackBytes_setFrames ..
  obtain ⟨t, ht, -⟩ := State.frames_cons hfr
  refine ⟨X.admits, X.cas, X.clock, hf', ?_, ?_, X.method', X.code, X.here, X.tail, State.WarmedH.refl _, hlim.symm, hby.symm, ?_⟩
  · have hu : (T.setFrames (.invoking m args :: below)).localsInUse = s.localsInUse := by
      rw [State.localsInUse_invoking hf' X.method' X.code, State.localsInUse_invoking X.frames X.method X.code]
    have r0 := X.room
    have r1 := X.cellsAbove (n := R'.cells) h3
    have r2 := X.slotsAbove (n := R'.slots) h4
    have r3 := X.book
    have hl0 := X.limits
    have hb0 := X.bytes
    simp only [State.hasRoom, Bool.and_eq_true, decide_eq_true_eq] at r0 ⊢
    rw [X.frames] at r0
    rw [hu, hf', hlim, hby, hl0, hb0]
    obtain ⟨⟨⟨⟨a1, a2, a3, a4, a5, a6⟩, a7⟩, a8⟩, a9⟩ := r0
    exact ⟨⟨⟨⟨by omega, by omega, by omega, by omega, by omega, a6⟩, r1⟩, r2⟩, r3⟩
  · have hh := X.hears
    have hm := X.method'
    have hcode : ∀ q, (T.setFrames (.invoking m args :: below)).code? q = s.code? q := fun q => by
      rw [State.code?_eq, State.code?_eq, show (T.setFrames (.invoking m args :: below)).vm = T.vm from rfl, X.warmed.alike.method?]
    unfold State.hears at hh ⊢
    split at hh
    · rw [hcode]; exact hh
    · rfl
    · rfl
    · rw [show (T.setFrames (.invoking m args :: below)).vm.method? m = some meth from hm]
      rw [X.method] at hh
      exact hh
  · refine ⟨?_, Nat.le_refl _, Nat.le_refl _, ?_, ?_, fun a c h => ⟨c, h, rfl, rfl, fun _ _ => rfl⟩⟩
    · show T = { (T.setFrames (.invoking m args :: below)).setFrames T.frames with heap := T.heap, slotsUsed := T.slotsUsed }
      rw [State.setFrames_setFrames, State.setFrames_self ht]
    · show T.slotsUsed = T.slotsUsed + ((T.heap.toList.drop T.heap.size).map (·.slots.size)).sum
      rw [List.drop_eq_nil_of_le (by simp)]
      rfl
    · show ((T.heap.toList.drop T.heap.size).map (·.slots.size)).sum ≤ 0
      rw [List.drop_eq_nil_of_le (by simp)]
      exact Nat.le_refl _
theorem x_sameCells {s s' : State} {k n : Nat} (h : s.sameButNew s' [] k n) {q : Nat} (hq : q < s.heap.size) : s'.heap[q]? = s.heap[q]? := by
  have e : s.heap[q]? = some s.heap[q] := Array.getElem?_eq_getElem hq
  obtain ⟨c', h1, h2, h3, h4⟩ := h.2.2.2.2.2 q _ e
  rw [h1, e]
  congr 1
  rw [h2]
  have : c'.slots = s.heap[q].slots := Array.ext_getElem? (fun i => h4 i (by simp))
  rw [this]
def o_throw (P : xO → xH → Prop) (ci : Nat) : xOp := fun _ _ st h rc rs => xif (Nat.ble (st.map fun v => v.category).sum 8) (1 ≤ rc ∧ 6 ≤ rs ∧ ∀ a : Nat, h a = none → P (.inr (ci, a)) (xset h a (ci, [])))
abbrev xref1 : Cond := .isRef (.static Bundle.tN "UNASSIGNED_STACK" Bundle.steD)
abbrev xref2 : Cond := .isRef (.static Bundle.tN "SUPPRESSED_SENTINEL" Bundle.listD)
theorem x_Zref {C n d : String} {A : Nat → Prop} {args : Array Value} {s : State} (h : va_Zq C n d A s s.heap) : (Cond.isRef (.static C n d)).before args s = true := by
  have hv : ∃ v : Value, (v = .null ∨ ∃ t, v = .ref t) ∧ (Term.static C n d).eval args s none [] s = some v := by
    rcases h with h | ⟨t, h⟩
    · obtain ⟨cf, kf, fi, f, a, cell, h1, h2, h3, h4, h5, h6, h7, h8⟩ := h
      exact ⟨.null, Or.inl rfl, by simp [Term.eval, State.fieldNamed?, h1, h2, h4, h5, h6, h7]⟩
    · obtain ⟨cf, kf, fi, f, a, cell, h1, h2, h3, h4, h5, h6, h7, h8⟩ := h
      exact ⟨.ref t, Or.inr ⟨t, rfl⟩, by simp [Term.eval, State.fieldNamed?, h1, h2, h4, h5, h6, h7]⟩
  obtain ⟨v, e1, e2⟩ := hv
  rcases e1 with rfl | ⟨t, rfl⟩ <;> simp [Cond.before, Cond.holds, Cond.value, e2]
theorem x_E.refs {D : xD} {args : Array Value} {s : State} (h : x_E D s s.heap) : xref1.before args s = true ∧ xref2.before args s = true := ⟨x_Zref h.2.2.1, x_Zref h.2.2.2⟩
theorem ok_throw {X : xX} {cc : ByteArray} {own : String} {nL d pc : Nat} (hC : xCx X cc own nL d) (hnh : X.c.exceptionTable.isEmpty = true) {ci i0 i1 i2 j : Nat} {r0 : vw_C} {tx : String} (names : List String) (hd0 : decode cc pc = .ok (.new i0, 3)) (hd1 : decode cc (pc + 3) = .ok (.dup, 1)) (hd2 : decode cc (pc + 4) = .ok (.ldc i1, 2)) (hd3 : decode cc (pc + 6) = .ok (.invokespecial i2, 3)) (hd4 : decode cc (pc + 9) = .ok (.athrow, 1))
    (hci : ci < 100) (hc : xcl[ci]? = some r0) (hN : r0.2.2 = 0) (hcl : Cond.classLink own i0 r0.1 ∈ xws) (hini : Cond.initialized r0.1 ∈ xws) (hq : xsr[j]? = some (own, i1, tx)) (hfit : Bundle.fit r0.1 = true) (hnames : ∀ n ∈ names, Bundle.fit n = true) (hw : ∀ a ∈ Bundle.ownAtoms own i2 r0.1 names, a ∈ xws ∨ a = xref1 ∨ a = xref2) (hlen : names.length + 4 ≤ d) (hlen2 : names.length ≤ 4) : xOk X pc (o_throw X.P ci) := by
  intro K hK ls st h rc rs ho A H locs k n h1 h2 h3 h4 h5
  obtain ⟨e0, e1, e2, e3⟩ := xif_iff ho
  intro T hT Y
  have Yb := x_rebase Y (R' := { frames := X.R.frames, locals := X.R.locals, cells := 1, slots := 6 }) (Nat.le_refl _) (Nat.le_refl _) (by show k + 1 ≤ _; omega) (by show n + 6 ≤ _; omega)
  have hws := xws_warm hC.ts
  have hWT : X.s.WarmedH T.vm := Y.warmed
  generalize hs' : T.setFrames (.invoking X.m X.args :: X.below) = s' at Yb
  have hsv : s'.vm = T.vm := by rw [← hs']; rfl
  have hsh : s'.heap = H := by rw [← hs', ← hT]; rfl
  have hWs : X.s.WarmedH s'.vm := by rw [hsv]; exact hWT
  have hts' : ∀ w ∈ xws, w.before X.args s' = true := fun w hw => hws w hw _ s' hWs
  have hE' : x_E X.D s' s'.heap := (hC.E.kept (fun q hq => by rw [hsh]; exact h3.2.1 q hq)).warm hWs
  have hrefs : xref1.before X.args s' = true ∧ xref2.before X.args s' = true := x_E.refs hE'
  have hat : ∀ a ∈ Bundle.ownAtoms own i2 r0.1 names, a.before X.args s' = true := fun a ha => by
    rcases hw a ha with z | z | z
    · exact hts' a z
    · rw [z]; exact hrefs.1
    · rw [z]; exact hrefs.2
  have hown' : s'.vm.findClass own = some X.m.cls := by rw [hsv, hWT.alike.findClass]; exact hC.ow
  have hK' := hC.K.moved (U := s') hWs.alike
  have hKn := hK'.1 ci _ hc
  have hinst : Cond.instantiable r0.1 6 ∈ Bundle.ownAtoms own i2 r0.1 names := by simp [Bundle.ownAtoms]
  have hwalk : W X.p X.l X.e { frames := X.R.frames, locals := X.R.locals, cells := 1, slots := 6 } s' X.m X.args X.below X.meth X.c s'.heap [] 0 0 (fun U => U.status = .running ∧ Ended U X.below (.threw H.size) ∧ s'.WarmedH U.vm ∧ s'.sameButNew ({ U with vm := s'.vm } : State) [] 1 6 ∧ ∃ ce : Cell, U.heap[H.size]? = some ce ∧ ce.cls = X.D.cid ci ∧ ce.vm = .none) (F0 X.m pc A st) := by
    refine W.newcK hC.x hC.b hown' (hts' _ hcl) (hat _ hinst) (hts' _ hini) rfl hd0 (Nat.le_refl _) (Nat.le_refl _) hKn.2.1 (by rw [hsh]) fun H1 kC hkC z1 z2 z3 => ?_
    refine lv_dup hC.x hC.b hd1 rfl ?_
    obtain ⟨a0, f1, f2⟩ := hE'.2.1 j _ hq
    refine va_ldcS hC.x hC.b hown' f2 hd2 ?_
    intro T2 hT2 Y2
    obtain ⟨U, u1, u2, u3, u4, u5, ce, u6, u7⟩ := Y2.ctorThrowS hC.x hC.tr hown' hfit hnames hat (fun x hx => by cases hx) (a := H.size) (cX := X.D.cid ci) (kX := kC) hKn.2.1 hkC (by rw [hT2]; exact z1) (by rw [hsh]; exact Nat.le_refl _) (msg := .ref a0) rfl (g := F0 X.m (pc + 6) A (.ref a0 :: .ref H.size :: .ref H.size :: st)) rfl h1.1 rfl rfl (rest := st) rfl
      (by rw [hC.b]; exact hd3) (by rw [hC.b]; exact hd4) (fun x hx => by
        have z : X.c.exceptionTable = #[] := Array.isEmpty_iff.mp hnh
        rw [z] at hx
        cases hx) (by have := hC.fr; show names.length + 3 < X.R.frames; omega) (by have := hC.lo; have := Nat.le_of_ble_eq_true e0; show 2 * 0 + (1 + (st.map fun v => v.category).sum) + (13 * (names.length + 1) + 42) ≤ X.R.locals; omega) hC.lk
    exact ⟨U, u1, u2, u3, u4, u5, ce, u6, Option.some.inj (u7.cls.symm.trans hKn.2.1), u7.vm⟩
  obtain ⟨t, a1, b1, b2, b3, b4, ce, b5, b6, b7⟩ := hwalk T (by rw [hT, hsh]) Yb
  have hold : ∀ q : Nat, q < H.size → t.heap[q]? = H[q]? := fun q hq => by
    have := x_sameCells b4 (q := q) (by rw [hsh]; exact hq)
    rw [hsh] at this
    exact this
  have hsz : X.D.sz ≤ H.size := Nat.le_trans hC.z h3.1
  refine ⟨t, a1, .threw H.size, b1, b2, ⟨.inr (ci, H.size), xset h H.size (ci, []), rfl, ⟨hci, xset_same _ _ _⟩, e3 _ h2.fresh, h2.push ?_ hold, fun q hq => (hold q (by omega)).trans (h3.2.1 q hq), ?_⟩, locs, ⟨?_, ?_⟩, h3.2.2⟩
  · unfold x_at
    rw [if_pos hci]
    exact ⟨hsz, r0, hc, by rw [hN]; rfl, ce, b5, b6, b7, fun k hk => by rw [hN] at hk; exact absurd hk (Nat.not_lt_zero _)⟩
  · have := b4.2.1
    rw [hsh] at this
    exact Nat.le_trans h3.1 this
  · exact State.WarmedH.trans hWT (by rw [← hs'] at b3; exact b3)
  · have b4' : T.sameButNew ({ t with vm := T.vm } : State) [] 1 6 := by
      rw [← hs'] at b4
      obtain ⟨c1, c2⟩ := b4
      refine ⟨?_, c2⟩
      have c3 := c1
      rw [State.setFrames_setFrames] at c3
      exact c3
    have := Y.same.trans (b4'.setVm X.s.vm)
    rw [List.append_nil] at this
    exact this.mono (by omega) (by omega)
end
