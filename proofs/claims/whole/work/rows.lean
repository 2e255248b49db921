section
-- ===== PART A: goes FIRST, ahead of the names: the tables' words, and 'selects' of the private methods out of them =====
/-- a private method of a class that the tables say can be made, by its rows of tables_1 -/
def lw_okq (q : MethodName × Nat) : Prop := (q.1.cls ≠ "java/lang/invoke/MethodHandle" ∧ q.1.cls ≠ "java/lang/invoke/VarHandle") ∧ Cond.instantiable q.1.cls q.2 ∈ tables_1 ∧ Cond.privateMethod q.1 ∈ tables_1 ∧ Cond.instanceMethod q.1 ∈ tables_1
theorem lw_p0 : lw_okq (⟨"java/util/ArrayList", "add", "(Ljava/lang/Object;[Ljava/lang/Object;I)V"⟩, 3) := ⟨⟨by decide +kernel, by decide +kernel⟩, List.mem_of_getElem? (i := 93) (by decide +kernel), List.mem_of_getElem? (i := 249) (by decide +kernel), List.mem_of_getElem? (i := 250) (by decide +kernel)⟩
theorem lw_p1 : lw_okq (⟨"java/util/ArrayList", "grow", "()[Ljava/lang/Object;"⟩, 3) := ⟨⟨by decide +kernel, by decide +kernel⟩, List.mem_of_getElem? (i := 93) (by decide +kernel), List.mem_of_getElem? (i := 253) (by decide +kernel), List.mem_of_getElem? (i := 254) (by decide +kernel)⟩
theorem lw_p2 : lw_okq (⟨"java/util/ArrayList", "grow", "(I)[Ljava/lang/Object;"⟩, 3) := ⟨⟨by decide +kernel, by decide +kernel⟩, List.mem_of_getElem? (i := 93) (by decide +kernel), List.mem_of_getElem? (i := 257) (by decide +kernel), List.mem_of_getElem? (i := 258) (by decide +kernel)⟩
theorem lw_p3 : lw_okq (⟨"java/lang/Throwable", "fillInStackTrace", "(I)Ljava/lang/Throwable;"⟩, 6) := ⟨⟨by decide +kernel, by decide +kernel⟩, List.mem_of_getElem? (i := 435) (by decide +kernel), List.mem_of_getElem? (i := 433) (by decide +kernel), List.mem_of_getElem? (i := 434) (by decide +kernel)⟩
theorem lw_p4 : lw_okq (⟨"StyleCourt", "putOnTape", "(I)V"⟩, 12) := ⟨⟨by decide +kernel, by decide +kernel⟩, List.mem_of_getElem? (i := 33) (by decide +kernel), List.mem_of_getElem? (i := 464) (by decide +kernel), List.mem_of_getElem? (i := 465) (by decide +kernel)⟩
theorem lw_p5 : lw_okq (⟨"StyleCourt", "takeTape", "()LStyleCourt$Reader;"⟩, 12) := ⟨⟨by decide +kernel, by decide +kernel⟩, List.mem_of_getElem? (i := 33) (by decide +kernel), List.mem_of_getElem? (i := 500) (by decide +kernel), List.mem_of_getElem? (i := 501) (by decide +kernel)⟩
theorem lw_p6 : lw_okq (⟨"StyleCourt$Source", "readMarkup", "(LStyleCourt$Reader;I)V"⟩, 5) := ⟨⟨by decide +kernel, by decide +kernel⟩, List.mem_of_getElem? (i := 87) (by decide +kernel), List.mem_of_getElem? (i := 513) (by decide +kernel), List.mem_of_getElem? (i := 514) (by decide +kernel)⟩
theorem lw_p7 : lw_okq (⟨"StyleCourt$Source", "readEndOfElement", "(LStyleCourt$Reader;)V"⟩, 5) := ⟨⟨by decide +kernel, by decide +kernel⟩, List.mem_of_getElem? (i := 87) (by decide +kernel), List.mem_of_getElem? (i := 517) (by decide +kernel), List.mem_of_getElem? (i := 518) (by decide +kernel)⟩
theorem lw_p8 : lw_okq (⟨"StyleCourt$Source", "finish", "(LStyleCourt$Element;I)V"⟩, 5) := ⟨⟨by decide +kernel, by decide +kernel⟩, List.mem_of_getElem? (i := 87) (by decide +kernel), List.mem_of_getElem? (i := 570) (by decide +kernel), List.mem_of_getElem? (i := 571) (by decide +kernel)⟩
theorem lw_p9 : lw_okq (⟨"StyleCourt$Source", "readBeginOfElement", "(LStyleCourt$Reader;I)V"⟩, 5) := ⟨⟨by decide +kernel, by decide +kernel⟩, List.mem_of_getElem? (i := 87) (by decide +kernel), List.mem_of_getElem? (i := 578) (by decide +kernel), List.mem_of_getElem? (i := 579) (by decide +kernel)⟩
theorem lw_p10 : lw_okq (⟨"StyleCourt$Source", "readFields", "(LStyleCourt$Reader;LStyleCourt$Element;)V"⟩, 5) := ⟨⟨by decide +kernel, by decide +kernel⟩, List.mem_of_getElem? (i := 87) (by decide +kernel), List.mem_of_getElem? (i := 582) (by decide +kernel), List.mem_of_getElem? (i := 583) (by decide +kernel)⟩
theorem lw_p11 : lw_okq (⟨"StyleCourt$Reader", "commentEndsHere", "()Z"⟩, 3) := ⟨⟨by decide +kernel, by decide +kernel⟩, List.mem_of_getElem? (i := 41) (by decide +kernel), List.mem_of_getElem? (i := 623) (by decide +kernel), List.mem_of_getElem? (i := 624) (by decide +kernel)⟩
theorem lw_p12 : lw_okq (⟨"StyleCourt$Source", "readEntity", "(LStyleCourt$Reader;)V"⟩, 5) := ⟨⟨by decide +kernel, by decide +kernel⟩, List.mem_of_getElem? (i := 87) (by decide +kernel), List.mem_of_getElem? (i := 627) (by decide +kernel), List.mem_of_getElem? (i := 628) (by decide +kernel)⟩
theorem lw_p13 : lw_okq (⟨"StyleCourt$Source", "readReference", "(LStyleCourt$Reader;)V"⟩, 5) := ⟨⟨by decide +kernel, by decide +kernel⟩, List.mem_of_getElem? (i := 87) (by decide +kernel), List.mem_of_getElem? (i := 635) (by decide +kernel), List.mem_of_getElem? (i := 636) (by decide +kernel)⟩
theorem lw_p14 : lw_okq (⟨"StyleCourt$Source", "addText", "(LStyleCourt$Slice;)V"⟩, 5) := ⟨⟨by decide +kernel, by decide +kernel⟩, List.mem_of_getElem? (i := 87) (by decide +kernel), List.mem_of_getElem? (i := 639) (by decide +kernel), List.mem_of_getElem? (i := 640) (by decide +kernel)⟩
theorem lw_p15 : lw_okq (⟨"StyleCourt$Source", "readText", "(LStyleCourt$Reader;)V"⟩, 5) := ⟨⟨by decide +kernel, by decide +kernel⟩, List.mem_of_getElem? (i := 87) (by decide +kernel), List.mem_of_getElem? (i := 643) (by decide +kernel), List.mem_of_getElem? (i := 644) (by decide +kernel)⟩
def lw_privs_1 : List (MethodName × Nat) := [(⟨"java/util/ArrayList", "add", "(Ljava/lang/Object;[Ljava/lang/Object;I)V"⟩, 3), (⟨"java/util/ArrayList", "grow", "()[Ljava/lang/Object;"⟩, 3), (⟨"java/util/ArrayList", "grow", "(I)[Ljava/lang/Object;"⟩, 3), (⟨"java/lang/Throwable", "fillInStackTrace", "(I)Ljava/lang/Throwable;"⟩, 6), (⟨"StyleCourt", "putOnTape", "(I)V"⟩, 12), (⟨"StyleCourt", "takeTape", "()LStyleCourt$Reader;"⟩, 12), (⟨"StyleCourt$Source", "readMarkup", "(LStyleCourt$Reader;I)V"⟩, 5), (⟨"StyleCourt$Source", "readEndOfElement", "(LStyleCourt$Reader;)V"⟩, 5), (⟨"StyleCourt$Source", "finish", "(LStyleCourt$Element;I)V"⟩, 5), (⟨"StyleCourt$Source", "readBeginOfElement", "(LStyleCourt$Reader;I)V"⟩, 5), (⟨"StyleCourt$Source", "readFields", "(LStyleCourt$Reader;LStyleCourt$Element;)V"⟩, 5), (⟨"StyleCourt$Reader", "commentEndsHere", "()Z"⟩, 3), (⟨"StyleCourt$Source", "readEntity", "(LStyleCourt$Reader;)V"⟩, 5), (⟨"StyleCourt$Source", "readReference", "(LStyleCourt$Reader;)V"⟩, 5), (⟨"StyleCourt$Source", "addText", "(LStyleCourt$Slice;)V"⟩, 5), (⟨"StyleCourt$Source", "readText", "(LStyleCourt$Reader;)V"⟩, 5)]
theorem lw_r1 : ∀ q ∈ lw_privs_1, lw_okq q := List.forall_mem_cons.mpr ⟨lw_p0, List.forall_mem_cons.mpr ⟨lw_p1, List.forall_mem_cons.mpr ⟨lw_p2, List.forall_mem_cons.mpr ⟨lw_p3, List.forall_mem_cons.mpr ⟨lw_p4, List.forall_mem_cons.mpr ⟨lw_p5, List.forall_mem_cons.mpr ⟨lw_p6, List.forall_mem_cons.mpr ⟨lw_p7, List.forall_mem_cons.mpr ⟨lw_p8, List.forall_mem_cons.mpr ⟨lw_p9, List.forall_mem_cons.mpr ⟨lw_p10, List.forall_mem_cons.mpr ⟨lw_p11, List.forall_mem_cons.mpr ⟨lw_p12, List.forall_mem_cons.mpr ⟨lw_p13, List.forall_mem_cons.mpr ⟨lw_p14, List.forall_mem_cons.mpr ⟨lw_p15, fun _ h => absurd h List.not_mem_nil⟩⟩⟩⟩⟩⟩⟩⟩⟩⟩⟩⟩⟩⟩⟩⟩
theorem lw_p16 : lw_okq (⟨"StyleCourt$Style", "readTold", "(LStyleCourt$Reader;)LStyleCourt$Told;"⟩, 4) := ⟨⟨by decide +kernel, by decide +kernel⟩, List.mem_of_getElem? (i := 323) (by decide +kernel), List.mem_of_getElem? (i := 837) (by decide +kernel), List.mem_of_getElem? (i := 838) (by decide +kernel)⟩
theorem lw_p17 : lw_okq (⟨"StyleCourt$Told", "readAmount", "(LStyleCourt$Reader;)V"⟩, 7) := ⟨⟨by decide +kernel, by decide +kernel⟩, List.mem_of_getElem? (i := 849) (by decide +kernel), List.mem_of_getElem? (i := 892) (by decide +kernel), List.mem_of_getElem? (i := 893) (by decide +kernel)⟩
theorem lw_p18 : lw_okq (⟨"StyleCourt", "takeName", "()LStyleCourt$Slice;"⟩, 12) := ⟨⟨by decide +kernel, by decide +kernel⟩, List.mem_of_getElem? (i := 33) (by decide +kernel), List.mem_of_getElem? (i := 906) (by decide +kernel), List.mem_of_getElem? (i := 907) (by decide +kernel)⟩
theorem lw_p19 : lw_okq (⟨"StyleCourt", "elementAt", "(I)LStyleCourt$Element;"⟩, 12) := ⟨⟨by decide +kernel, by decide +kernel⟩, List.mem_of_getElem? (i := 33) (by decide +kernel), List.mem_of_getElem? (i := 912) (by decide +kernel), List.mem_of_getElem? (i := 913) (by decide +kernel)⟩
theorem lw_p20 : lw_okq (⟨"StyleCourt$Condition", "holdsForField", "(LStyleCourt$Named;)Z"⟩, 4) := ⟨⟨by decide +kernel, by decide +kernel⟩, List.mem_of_getElem? (i := 733) (by decide +kernel), List.mem_of_getElem? (i := 957) (by decide +kernel), List.mem_of_getElem? (i := 958) (by decide +kernel)⟩
theorem lw_p21 : lw_okq (⟨"StyleCourt", "putValue", "(LStyleCourt$Told;I)I"⟩, 12) := ⟨⟨by decide +kernel, by decide +kernel⟩, List.mem_of_getElem? (i := 33) (by decide +kernel), List.mem_of_getElem? (i := 974) (by decide +kernel), List.mem_of_getElem? (i := 975) (by decide +kernel)⟩
theorem lw_p22 : lw_okq (⟨"StyleCourt", "putSlice", "(LStyleCourt$Slice;)I"⟩, 12) := ⟨⟨by decide +kernel, by decide +kernel⟩, List.mem_of_getElem? (i := 33) (by decide +kernel), List.mem_of_getElem? (i := 978) (by decide +kernel), List.mem_of_getElem? (i := 979) (by decide +kernel)⟩
theorem lw_p23 : lw_okq (⟨"StyleCourt", "putNumber", "(I)V"⟩, 12) := ⟨⟨by decide +kernel, by decide +kernel⟩, List.mem_of_getElem? (i := 33) (by decide +kernel), List.mem_of_getElem? (i := 994) (by decide +kernel), List.mem_of_getElem? (i := 995) (by decide +kernel)⟩
theorem lw_p24 : lw_okq (⟨"StyleCourt", "putTexts", "(LStyleCourt$Element;)I"⟩, 12) := ⟨⟨by decide +kernel, by decide +kernel⟩, List.mem_of_getElem? (i := 33) (by decide +kernel), List.mem_of_getElem? (i := 1049) (by decide +kernel), List.mem_of_getElem? (i := 1050) (by decide +kernel)⟩
theorem lw_p25 : lw_okq (⟨"StyleCourtModel", "refuse", "(I)I"⟩, 85) := ⟨⟨by decide +kernel, by decide +kernel⟩, List.mem_of_getElem? (i := 1071) (by decide +kernel), List.mem_of_getElem? (i := 1343) (by decide +kernel), List.mem_of_getElem? (i := 1344) (by decide +kernel)⟩
theorem lw_p26 : lw_okq (⟨"StyleCourtModel", "four", "(I)V"⟩, 85) := ⟨⟨by decide +kernel, by decide +kernel⟩, List.mem_of_getElem? (i := 1071) (by decide +kernel), List.mem_of_getElem? (i := 1347) (by decide +kernel), List.mem_of_getElem? (i := 1348) (by decide +kernel)⟩
theorem lw_p27 : lw_okq (⟨"StyleCourtModel", "take", "(I)V"⟩, 85) := ⟨⟨by decide +kernel, by decide +kernel⟩, List.mem_of_getElem? (i := 1071) (by decide +kernel), List.mem_of_getElem? (i := 1362) (by decide +kernel), List.mem_of_getElem? (i := 1363) (by decide +kernel)⟩
theorem lw_p28 : lw_okq (⟨"StyleCourtModel", "readSource", "()V"⟩, 85) := ⟨⟨by decide +kernel, by decide +kernel⟩, List.mem_of_getElem? (i := 1071) (by decide +kernel), List.mem_of_getElem? (i := 1366) (by decide +kernel), List.mem_of_getElem? (i := 1367) (by decide +kernel)⟩
theorem lw_p29 : lw_okq (⟨"StyleCourtModel", "byteAt", "(I)I"⟩, 85) := ⟨⟨by decide +kernel, by decide +kernel⟩, List.mem_of_getElem? (i := 1071) (by decide +kernel), List.mem_of_getElem? (i := 1370) (by decide +kernel), List.mem_of_getElem? (i := 1371) (by decide +kernel)⟩
theorem lw_p30 : lw_okq (⟨"StyleCourtModel", "closed", "(I)I"⟩, 85) := ⟨⟨by decide +kernel, by decide +kernel⟩, List.mem_of_getElem? (i := 1071) (by decide +kernel), List.mem_of_getElem? (i := 1374) (by decide +kernel), List.mem_of_getElem? (i := 1375) (by decide +kernel)⟩
theorem lw_p31 : lw_okq (⟨"StyleCourtModel", "wrong", "(I)V"⟩, 85) := ⟨⟨by decide +kernel, by decide +kernel⟩, List.mem_of_getElem? (i := 1071) (by decide +kernel), List.mem_of_getElem? (i := 1378) (by decide +kernel), List.mem_of_getElem? (i := 1379) (by decide +kernel)⟩
def lw_privs_2 : List (MethodName × Nat) := [(⟨"StyleCourt$Style", "readTold", "(LStyleCourt$Reader;)LStyleCourt$Told;"⟩, 4), (⟨"StyleCourt$Told", "readAmount", "(LStyleCourt$Reader;)V"⟩, 7), (⟨"StyleCourt", "takeName", "()LStyleCourt$Slice;"⟩, 12), (⟨"StyleCourt", "elementAt", "(I)LStyleCourt$Element;"⟩, 12), (⟨"StyleCourt$Condition", "holdsForField", "(LStyleCourt$Named;)Z"⟩, 4), (⟨"StyleCourt", "putValue", "(LStyleCourt$Told;I)I"⟩, 12), (⟨"StyleCourt", "putSlice", "(LStyleCourt$Slice;)I"⟩, 12), (⟨"StyleCourt", "putNumber", "(I)V"⟩, 12), (⟨"StyleCourt", "putTexts", "(LStyleCourt$Element;)I"⟩, 12), (⟨"StyleCourtModel", "refuse", "(I)I"⟩, 85), (⟨"StyleCourtModel", "four", "(I)V"⟩, 85), (⟨"StyleCourtModel", "take", "(I)V"⟩, 85), (⟨"StyleCourtModel", "readSource", "()V"⟩, 85), (⟨"StyleCourtModel", "byteAt", "(I)I"⟩, 85), (⟨"StyleCourtModel", "closed", "(I)I"⟩, 85), (⟨"StyleCourtModel", "wrong", "(I)V"⟩, 85)]
theorem lw_r2 : ∀ q ∈ lw_privs_2, lw_okq q := List.forall_mem_cons.mpr ⟨lw_p16, List.forall_mem_cons.mpr ⟨lw_p17, List.forall_mem_cons.mpr ⟨lw_p18, List.forall_mem_cons.mpr ⟨lw_p19, List.forall_mem_cons.mpr ⟨lw_p20, List.forall_mem_cons.mpr ⟨lw_p21, List.forall_mem_cons.mpr ⟨lw_p22, List.forall_mem_cons.mpr ⟨lw_p23, List.forall_mem_cons.mpr ⟨lw_p24, List.forall_mem_cons.mpr ⟨lw_p25, List.forall_mem_cons.mpr ⟨lw_p26, List.forall_mem_cons.mpr ⟨lw_p27, List.forall_mem_cons.mpr ⟨lw_p28, List.forall_mem_cons.mpr ⟨lw_p29, List.forall_mem_cons.mpr ⟨lw_p30, List.forall_mem_cons.mpr ⟨lw_p31, fun _ h => absurd h List.not_mem_nil⟩⟩⟩⟩⟩⟩⟩⟩⟩⟩⟩⟩⟩⟩⟩⟩
theorem lw_p32 : lw_okq (⟨"StyleCourtModel", "nameFrom", "(I)I"⟩, 85) := ⟨⟨by decide +kernel, by decide +kernel⟩, List.mem_of_getElem? (i := 1071) (by decide +kernel), List.mem_of_getElem? (i := 1382) (by decide +kernel), List.mem_of_getElem? (i := 1383) (by decide +kernel)⟩
theorem lw_p33 : lw_okq (⟨"StyleCourtModel", "same", "(IIII)Z"⟩, 85) := ⟨⟨by decide +kernel, by decide +kernel⟩, List.mem_of_getElem? (i := 1071) (by decide +kernel), List.mem_of_getElem? (i := 1392) (by decide +kernel), List.mem_of_getElem? (i := 1393) (by decide +kernel)⟩
theorem lw_p34 : lw_okq (⟨"StyleCourtModel", "blanks", "()V"⟩, 85) := ⟨⟨by decide +kernel, by decide +kernel⟩, List.mem_of_getElem? (i := 1071) (by decide +kernel), List.mem_of_getElem? (i := 1396) (by decide +kernel), List.mem_of_getElem? (i := 1397) (by decide +kernel)⟩
theorem lw_p35 : lw_okq (⟨"StyleCourtModel", "comment", "()V"⟩, 85) := ⟨⟨by decide +kernel, by decide +kernel⟩, List.mem_of_getElem? (i := 1071) (by decide +kernel), List.mem_of_getElem? (i := 1403) (by decide +kernel), List.mem_of_getElem? (i := 1404) (by decide +kernel)⟩
theorem lw_p36 : lw_okq (⟨"StyleCourtModel", "defined", "()V"⟩, 85) := ⟨⟨by decide +kernel, by decide +kernel⟩, List.mem_of_getElem? (i := 1071) (by decide +kernel), List.mem_of_getElem? (i := 1407) (by decide +kernel), List.mem_of_getElem? (i := 1408) (by decide +kernel)⟩
theorem lw_p37 : lw_okq (⟨"StyleCourtModel", "isFixed", "(II)Z"⟩, 85) := ⟨⟨by decide +kernel, by decide +kernel⟩, List.mem_of_getElem? (i := 1071) (by decide +kernel), List.mem_of_getElem? (i := 1411) (by decide +kernel), List.mem_of_getElem? (i := 1412) (by decide +kernel)⟩
theorem lw_p38 : lw_okq (⟨"StyleCourtModel", "isWord", "(IIJ)Z"⟩, 85) := ⟨⟨by decide +kernel, by decide +kernel⟩, List.mem_of_getElem? (i := 1071) (by decide +kernel), List.mem_of_getElem? (i := 1416) (by decide +kernel), List.mem_of_getElem? (i := 1417) (by decide +kernel)⟩
theorem lw_p39 : lw_okq (⟨"StyleCourtModel", "entity", "(II)I"⟩, 85) := ⟨⟨by decide +kernel, by decide +kernel⟩, List.mem_of_getElem? (i := 1071) (by decide +kernel), List.mem_of_getElem? (i := 1421) (by decide +kernel), List.mem_of_getElem? (i := 1422) (by decide +kernel)⟩
theorem lw_p40 : lw_okq (⟨"StyleCourtModel", "stringFrom", "(I)I"⟩, 85) := ⟨⟨by decide +kernel, by decide +kernel⟩, List.mem_of_getElem? (i := 1071) (by decide +kernel), List.mem_of_getElem? (i := 1425) (by decide +kernel), List.mem_of_getElem? (i := 1426) (by decide +kernel)⟩
theorem lw_p41 : lw_okq (⟨"StyleCourtModel", "behindString", "(I)I"⟩, 85) := ⟨⟨by decide +kernel, by decide +kernel⟩, List.mem_of_getElem? (i := 1071) (by decide +kernel), List.mem_of_getElem? (i := 1429) (by decide +kernel), List.mem_of_getElem? (i := 1430) (by decide +kernel)⟩
theorem lw_p42 : lw_okq (⟨"StyleCourtModel", "opened", "(I)I"⟩, 85) := ⟨⟨by decide +kernel, by decide +kernel⟩, List.mem_of_getElem? (i := 1071) (by decide +kernel), List.mem_of_getElem? (i := 1433) (by decide +kernel), List.mem_of_getElem? (i := 1434) (by decide +kernel)⟩
theorem lw_p43 : lw_okq (⟨"StyleCourtModel", "field", "(I)V"⟩, 85) := ⟨⟨by decide +kernel, by decide +kernel⟩, List.mem_of_getElem? (i := 1071) (by decide +kernel), List.mem_of_getElem? (i := 1437) (by decide +kernel), List.mem_of_getElem? (i := 1438) (by decide +kernel)⟩
theorem lw_p44 : lw_okq (⟨"StyleCourtModel", "reference", "(I)V"⟩, 85) := ⟨⟨by decide +kernel, by decide +kernel⟩, List.mem_of_getElem? (i := 1071) (by decide +kernel), List.mem_of_getElem? (i := 1441) (by decide +kernel), List.mem_of_getElem? (i := 1442) (by decide +kernel)⟩
theorem lw_p45 : lw_okq (⟨"StyleCourtModel", "piece", "(III)V"⟩, 85) := ⟨⟨by decide +kernel, by decide +kernel⟩, List.mem_of_getElem? (i := 1071) (by decide +kernel), List.mem_of_getElem? (i := 1445) (by decide +kernel), List.mem_of_getElem? (i := 1446) (by decide +kernel)⟩
theorem lw_p46 : lw_okq (⟨"StyleCourtModel", "readStyle", "()V"⟩, 85) := ⟨⟨by decide +kernel, by decide +kernel⟩, List.mem_of_getElem? (i := 1071) (by decide +kernel), List.mem_of_getElem? (i := 1453) (by decide +kernel), List.mem_of_getElem? (i := 1454) (by decide +kernel)⟩
theorem lw_p47 : lw_okq (⟨"StyleCourtModel", "next", "()V"⟩, 85) := ⟨⟨by decide +kernel, by decide +kernel⟩, List.mem_of_getElem? (i := 1071) (by decide +kernel), List.mem_of_getElem? (i := 1457) (by decide +kernel), List.mem_of_getElem? (i := 1458) (by decide +kernel)⟩
def lw_privs_3 : List (MethodName × Nat) := [(⟨"StyleCourtModel", "nameFrom", "(I)I"⟩, 85), (⟨"StyleCourtModel", "same", "(IIII)Z"⟩, 85), (⟨"StyleCourtModel", "blanks", "()V"⟩, 85), (⟨"StyleCourtModel", "comment", "()V"⟩, 85), (⟨"StyleCourtModel", "defined", "()V"⟩, 85), (⟨"StyleCourtModel", "isFixed", "(II)Z"⟩, 85), (⟨"StyleCourtModel", "isWord", "(IIJ)Z"⟩, 85), (⟨"StyleCourtModel", "entity", "(II)I"⟩, 85), (⟨"StyleCourtModel", "stringFrom", "(I)I"⟩, 85), (⟨"StyleCourtModel", "behindString", "(I)I"⟩, 85), (⟨"StyleCourtModel", "opened", "(I)I"⟩, 85), (⟨"StyleCourtModel", "field", "(I)V"⟩, 85), (⟨"StyleCourtModel", "reference", "(I)V"⟩, 85), (⟨"StyleCourtModel", "piece", "(III)V"⟩, 85), (⟨"StyleCourtModel", "readStyle", "()V"⟩, 85), (⟨"StyleCourtModel", "next", "()V"⟩, 85)]
theorem lw_r3 : ∀ q ∈ lw_privs_3, lw_okq q := List.forall_mem_cons.mpr ⟨lw_p32, List.forall_mem_cons.mpr ⟨lw_p33, List.forall_mem_cons.mpr ⟨lw_p34, List.forall_mem_cons.mpr ⟨lw_p35, List.forall_mem_cons.mpr ⟨lw_p36, List.forall_mem_cons.mpr ⟨lw_p37, List.forall_mem_cons.mpr ⟨lw_p38, List.forall_mem_cons.mpr ⟨lw_p39, List.forall_mem_cons.mpr ⟨lw_p40, List.forall_mem_cons.mpr ⟨lw_p41, List.forall_mem_cons.mpr ⟨lw_p42, List.forall_mem_cons.mpr ⟨lw_p43, List.forall_mem_cons.mpr ⟨lw_p44, List.forall_mem_cons.mpr ⟨lw_p45, List.forall_mem_cons.mpr ⟨lw_p46, List.forall_mem_cons.mpr ⟨lw_p47, fun _ h => absurd h List.not_mem_nil⟩⟩⟩⟩⟩⟩⟩⟩⟩⟩⟩⟩⟩⟩⟩⟩
theorem lw_p48 : lw_okq (⟨"StyleCourtModel", "selector", "(I)V"⟩, 85) := ⟨⟨by decide +kernel, by decide +kernel⟩, List.mem_of_getElem? (i := 1071) (by decide +kernel), List.mem_of_getElem? (i := 1461) (by decide +kernel), List.mem_of_getElem? (i := 1462) (by decide +kernel)⟩
theorem lw_p49 : lw_okq (⟨"StyleCourtModel", "step", "(II)V"⟩, 85) := ⟨⟨by decide +kernel, by decide +kernel⟩, List.mem_of_getElem? (i := 1071) (by decide +kernel), List.mem_of_getElem? (i := 1465) (by decide +kernel), List.mem_of_getElem? (i := 1466) (by decide +kernel)⟩
theorem lw_p50 : lw_okq (⟨"StyleCourtModel", "isSign", "(I)Z"⟩, 85) := ⟨⟨by decide +kernel, by decide +kernel⟩, List.mem_of_getElem? (i := 1071) (by decide +kernel), List.mem_of_getElem? (i := 1469) (by decide +kernel), List.mem_of_getElem? (i := 1470) (by decide +kernel)⟩
theorem lw_p51 : lw_okq (⟨"StyleCourtModel", "bracket", "()V"⟩, 85) := ⟨⟨by decide +kernel, by decide +kernel⟩, List.mem_of_getElem? (i := 1071) (by decide +kernel), List.mem_of_getElem? (i := 1473) (by decide +kernel), List.mem_of_getElem? (i := 1474) (by decide +kernel)⟩
theorem lw_p52 : lw_okq (⟨"StyleCourtModel", "needKind", "(I)V"⟩, 85) := ⟨⟨by decide +kernel, by decide +kernel⟩, List.mem_of_getElem? (i := 1071) (by decide +kernel), List.mem_of_getElem? (i := 1477) (by decide +kernel), List.mem_of_getElem? (i := 1478) (by decide +kernel)⟩
theorem lw_p53 : lw_okq (⟨"StyleCourtModel", "need", "(I)V"⟩, 85) := ⟨⟨by decide +kernel, by decide +kernel⟩, List.mem_of_getElem? (i := 1071) (by decide +kernel), List.mem_of_getElem? (i := 1481) (by decide +kernel), List.mem_of_getElem? (i := 1482) (by decide +kernel)⟩
theorem lw_p54 : lw_okq (⟨"StyleCourtModel", "colon", "()V"⟩, 85) := ⟨⟨by decide +kernel, by decide +kernel⟩, List.mem_of_getElem? (i := 1071) (by decide +kernel), List.mem_of_getElem? (i := 1485) (by decide +kernel), List.mem_of_getElem? (i := 1486) (by decide +kernel)⟩
theorem lw_p55 : lw_okq (⟨"StyleCourtModel", "body", "(I)V"⟩, 85) := ⟨⟨by decide +kernel, by decide +kernel⟩, List.mem_of_getElem? (i := 1071) (by decide +kernel), List.mem_of_getElem? (i := 1494) (by decide +kernel), List.mem_of_getElem? (i := 1495) (by decide +kernel)⟩
theorem lw_p56 : lw_okq (⟨"StyleCourtModel", "known", "(II)I"⟩, 85) := ⟨⟨by decide +kernel, by decide +kernel⟩, List.mem_of_getElem? (i := 1071) (by decide +kernel), List.mem_of_getElem? (i := 1498) (by decide +kernel), List.mem_of_getElem? (i := 1499) (by decide +kernel)⟩
theorem lw_p57 : lw_okq (⟨"StyleCourtModel", "oneValue", "()V"⟩, 85) := ⟨⟨by decide +kernel, by decide +kernel⟩, List.mem_of_getElem? (i := 1071) (by decide +kernel), List.mem_of_getElem? (i := 1502) (by decide +kernel), List.mem_of_getElem? (i := 1503) (by decide +kernel)⟩
theorem lw_p58 : lw_okq (⟨"StyleCourtModel", "asked", "()I"⟩, 85) := ⟨⟨by decide +kernel, by decide +kernel⟩, List.mem_of_getElem? (i := 1071) (by decide +kernel), List.mem_of_getElem? (i := 1514) (by decide +kernel), List.mem_of_getElem? (i := 1515) (by decide +kernel)⟩
theorem lw_p59 : lw_okq (⟨"StyleCourtModel", "isThere", "(I)Z"⟩, 85) := ⟨⟨by decide +kernel, by decide +kernel⟩, List.mem_of_getElem? (i := 1071) (by decide +kernel), List.mem_of_getElem? (i := 1519) (by decide +kernel), List.mem_of_getElem? (i := 1520) (by decide +kernel)⟩
theorem lw_p60 : lw_okq (⟨"StyleCourtModel", "counts", "(II)I"⟩, 85) := ⟨⟨by decide +kernel, by decide +kernel⟩, List.mem_of_getElem? (i := 1071) (by decide +kernel), List.mem_of_getElem? (i := 1523) (by decide +kernel), List.mem_of_getElem? (i := 1524) (by decide +kernel)⟩
theorem lw_p61 : lw_okq (⟨"StyleCourtModel", "selectorFits", "(II)Z"⟩, 85) := ⟨⟨by decide +kernel, by decide +kernel⟩, List.mem_of_getElem? (i := 1071) (by decide +kernel), List.mem_of_getElem? (i := 1527) (by decide +kernel), List.mem_of_getElem? (i := 1528) (by decide +kernel)⟩
theorem lw_p62 : lw_okq (⟨"StyleCourtModel", "stepFits", "(II)Z"⟩, 85) := ⟨⟨by decide +kernel, by decide +kernel⟩, List.mem_of_getElem? (i := 1071) (by decide +kernel), List.mem_of_getElem? (i := 1531) (by decide +kernel), List.mem_of_getElem? (i := 1532) (by decide +kernel)⟩
theorem lw_p63 : lw_okq (⟨"StyleCourtModel", "isSo", "(II)Z"⟩, 85) := ⟨⟨by decide +kernel, by decide +kernel⟩, List.mem_of_getElem? (i := 1071) (by decide +kernel), List.mem_of_getElem? (i := 1535) (by decide +kernel), List.mem_of_getElem? (i := 1536) (by decide +kernel)⟩
def lw_privs_4 : List (MethodName × Nat) := [(⟨"StyleCourtModel", "selector", "(I)V"⟩, 85), (⟨"StyleCourtModel", "step", "(II)V"⟩, 85), (⟨"StyleCourtModel", "isSign", "(I)Z"⟩, 85), (⟨"StyleCourtModel", "bracket", "()V"⟩, 85), (⟨"StyleCourtModel", "needKind", "(I)V"⟩, 85), (⟨"StyleCourtModel", "need", "(I)V"⟩, 85), (⟨"StyleCourtModel", "colon", "()V"⟩, 85), (⟨"StyleCourtModel", "body", "(I)V"⟩, 85), (⟨"StyleCourtModel", "known", "(II)I"⟩, 85), (⟨"StyleCourtModel", "oneValue", "()V"⟩, 85), (⟨"StyleCourtModel", "asked", "()I"⟩, 85), (⟨"StyleCourtModel", "isThere", "(I)Z"⟩, 85), (⟨"StyleCourtModel", "counts", "(II)I"⟩, 85), (⟨"StyleCourtModel", "selectorFits", "(II)Z"⟩, 85), (⟨"StyleCourtModel", "stepFits", "(II)Z"⟩, 85), (⟨"StyleCourtModel", "isSo", "(II)Z"⟩, 85)]
theorem lw_r4 : ∀ q ∈ lw_privs_4, lw_okq q := List.forall_mem_cons.mpr ⟨lw_p48, List.forall_mem_cons.mpr ⟨lw_p49, List.forall_mem_cons.mpr ⟨lw_p50, List.forall_mem_cons.mpr ⟨lw_p51, List.forall_mem_cons.mpr ⟨lw_p52, List.forall_mem_cons.mpr ⟨lw_p53, List.forall_mem_cons.mpr ⟨lw_p54, List.forall_mem_cons.mpr ⟨lw_p55, List.forall_mem_cons.mpr ⟨lw_p56, List.forall_mem_cons.mpr ⟨lw_p57, List.forall_mem_cons.mpr ⟨lw_p58, List.forall_mem_cons.mpr ⟨lw_p59, List.forall_mem_cons.mpr ⟨lw_p60, List.forall_mem_cons.mpr ⟨lw_p61, List.forall_mem_cons.mpr ⟨lw_p62, List.forall_mem_cons.mpr ⟨lw_p63, fun _ h => absurd h List.not_mem_nil⟩⟩⟩⟩⟩⟩⟩⟩⟩⟩⟩⟩⟩⟩⟩⟩
theorem lw_p64 : lw_okq (⟨"StyleCourtModel", "fieldOf", "(III)I"⟩, 85) := ⟨⟨by decide +kernel, by decide +kernel⟩, List.mem_of_getElem? (i := 1071) (by decide +kernel), List.mem_of_getElem? (i := 1539) (by decide +kernel), List.mem_of_getElem? (i := 1540) (by decide +kernel)⟩
theorem lw_p65 : lw_okq (⟨"StyleCourtModel", "among", "(I)I"⟩, 85) := ⟨⟨by decide +kernel, by decide +kernel⟩, List.mem_of_getElem? (i := 1071) (by decide +kernel), List.mem_of_getElem? (i := 1543) (by decide +kernel), List.mem_of_getElem? (i := 1544) (by decide +kernel)⟩
theorem lw_p66 : lw_okq (⟨"StyleCourtModel", "sayNumber", "(J)V"⟩, 85) := ⟨⟨by decide +kernel, by decide +kernel⟩, List.mem_of_getElem? (i := 1071) (by decide +kernel), List.mem_of_getElem? (i := 1554) (by decide +kernel), List.mem_of_getElem? (i := 1555) (by decide +kernel)⟩
theorem lw_p67 : lw_okq (⟨"StyleCourtModel", "say", "(II)V"⟩, 85) := ⟨⟨by decide +kernel, by decide +kernel⟩, List.mem_of_getElem? (i := 1071) (by decide +kernel), List.mem_of_getElem? (i := 1561) (by decide +kernel), List.mem_of_getElem? (i := 1562) (by decide +kernel)⟩
def lw_privs_5 : List (MethodName × Nat) := [(⟨"StyleCourtModel", "fieldOf", "(III)I"⟩, 85), (⟨"StyleCourtModel", "among", "(I)I"⟩, 85), (⟨"StyleCourtModel", "sayNumber", "(J)V"⟩, 85), (⟨"StyleCourtModel", "say", "(II)V"⟩, 85)]
theorem lw_r5 : ∀ q ∈ lw_privs_5, lw_okq q := List.forall_mem_cons.mpr ⟨lw_p64, List.forall_mem_cons.mpr ⟨lw_p65, List.forall_mem_cons.mpr ⟨lw_p66, List.forall_mem_cons.mpr ⟨lw_p67, fun _ h => absurd h List.not_mem_nil⟩⟩⟩⟩
def lw_privs : List (MethodName × Nat) := lw_privs_1 ++ (lw_privs_2 ++ (lw_privs_3 ++ (lw_privs_4 ++ (lw_privs_5))))
def lw_tbl : List Cond := k2_sels lw_privs ++ tables_1
theorem lw_privs_ok : ∀ q ∈ lw_privs, lw_okq q := by
  show ∀ q ∈ lw_privs_1 ++ (lw_privs_2 ++ (lw_privs_3 ++ (lw_privs_4 ++ (lw_privs_5)))), lw_okq q
  exact List.forall_mem_append.mpr ⟨lw_r1, List.forall_mem_append.mpr ⟨lw_r2, List.forall_mem_append.mpr ⟨lw_r3, List.forall_mem_append.mpr ⟨lw_r4, lw_r5⟩⟩⟩⟩
end
section
def xF0 : u_T := fun k => match k with
  | 0 => ("StyleCourt", "tape", "[B", true)
  | 1 => ("StyleCourt", "tapeLength", "I", false)
  | 2 => ("StyleCourt", "out", "[B", true)
  | 3 => ("StyleCourt", "outLength", "I", false)
  | 4 => ("StyleCourt", "foundOnes", "[I", true)
  | 5 => ("StyleCourt", "foundCount", "I", false)
  | 6 => ("StyleCourt", "askedWeight", "I", false)
  | 7 => ("StyleCourt", "latestReader", "LStyleCourt$Reader;", false)
  | 8 => ("StyleCourt", "latestSource", "LStyleCourt$Source;", false)
  | 9 => ("StyleCourt", "latestStyle", "LStyleCourt$Style;", false)
  | 10 => ("StyleCourt", "reach", "[LStyleCourt$Element;", true)
  | _ => ("StyleCourt", "shares", "[I", true)
def xT0 : Nat → FieldType := fun k => match k with
  | 0 => .array .byte
  | 1 => .int
  | 2 => .array .byte
  | 3 => .int
  | 4 => .array .int
  | 5 => .int
  | 6 => .int
  | 7 => .object "StyleCourt$Reader"
  | 8 => .object "StyleCourt$Source"
  | 9 => .object "StyleCourt$Style"
  | 10 => .array (.object "StyleCourt$Element")
  | _ => .array .int
def xF1 : u_T := fun k => match k with
  | 0 => ("StyleCourt$Reader", "bytes", "[B", true)
  | 1 => ("StyleCourt$Reader", "at", "I", false)
  | _ => ("StyleCourt$Reader", "brokenAt", "I", false)
def xT1 : Nat → FieldType := fun k => match k with
  | 0 => .array .byte
  | 1 => .int
  | _ => .int
def xF2 : u_T := fun k => match k with
  | 0 => ("StyleCourt$Slice", "bytes", "[B", true)
  | 1 => ("StyleCourt$Slice", "from", "I", true)
  | _ => ("StyleCourt$Slice", "length", "I", true)
def xT2 : Nat → FieldType := fun k => match k with
  | 0 => .array .byte
  | 1 => .int
  | _ => .int
def xF3 : u_T := fun k => match k with
  | 0 => ("StyleCourt$Named", "name", "LStyleCourt$Slice;", true)
  | _ => ("StyleCourt$Named", "text", "LStyleCourt$Slice;", true)
def xT3 : Nat → FieldType := fun k => match k with
  | 0 => .object "StyleCourt$Slice"
  | _ => .object "StyleCourt$Slice"
def xF4 : u_T := fun k => match k with
  | 0 => ("StyleCourt$Element", "name", "LStyleCourt$Slice;", true)
  | 1 => ("StyleCourt$Element", "parent", "LStyleCourt$Element;", true)
  | 2 => ("StyleCourt$Element", "before", "LStyleCourt$Element;", true)
  | 3 => ("StyleCourt$Element", "index", "I", true)
  | 4 => ("StyleCourt$Element", "number", "I", true)
  | 5 => ("StyleCourt$Element", "depth", "I", true)
  | 6 => ("StyleCourt$Element", "begin", "I", true)
  | 7 => ("StyleCourt$Element", "fields", "Ljava/util/ArrayList;", true)
  | 8 => ("StyleCourt$Element", "lastChild", "LStyleCourt$Element;", false)
  | 9 => ("StyleCourt$Element", "children", "I", false)
  | 10 => ("StyleCourt$Element", "followed", "Z", false)
  | 11 => ("StyleCourt$Element", "hasText", "Z", false)
  | 12 => ("StyleCourt$Element", "end", "I", false)
  | 13 => ("StyleCourt$Element", "firstText", "I", false)
  | _ => ("StyleCourt$Element", "endText", "I", false)
def xT4 : Nat → FieldType := fun k => match k with
  | 0 => .object "StyleCourt$Slice"
  | 1 => .object "StyleCourt$Element"
  | 2 => .object "StyleCourt$Element"
  | 3 => .int
  | 4 => .int
  | 5 => .int
  | 6 => .int
  | 7 => .object "java/util/ArrayList"
  | 8 => .object "StyleCourt$Element"
  | 9 => .int
  | 10 => .boolean
  | 11 => .boolean
  | 12 => .int
  | 13 => .int
  | _ => .int
def xF5 : u_T := fun k => match k with
  | 0 => ("StyleCourt$Source", "elements", "Ljava/util/ArrayList;", true)
  | 1 => ("StyleCourt$Source", "texts", "Ljava/util/ArrayList;", true)
  | 2 => ("StyleCourt$Source", "entities", "Ljava/util/ArrayList;", true)
  | 3 => ("StyleCourt$Source", "root", "LStyleCourt$Element;", true)
  | _ => ("StyleCourt$Source", "open", "LStyleCourt$Element;", false)
def xT5 : Nat → FieldType := fun k => match k with
  | 0 => .object "java/util/ArrayList"
  | 1 => .object "java/util/ArrayList"
  | 2 => .object "java/util/ArrayList"
  | 3 => .object "StyleCourt$Element"
  | _ => .object "StyleCourt$Element"
def xF6 : u_T := fun k => match k with
  | 0 => ("StyleCourt$Condition", "kind", "I", false)
  | 1 => ("StyleCourt$Condition", "name", "LStyleCourt$Slice;", false)
  | 2 => ("StyleCourt$Condition", "text", "LStyleCourt$Slice;", false)
  | _ => ("StyleCourt$Condition", "number", "I", false)
def xT6 : Nat → FieldType := fun k => match k with
  | 0 => .int
  | 1 => .object "StyleCourt$Slice"
  | 2 => .object "StyleCourt$Slice"
  | _ => .int
def xF7 : u_T := fun k => match k with
  | 0 => ("StyleCourt$Step", "link", "I", true)
  | 1 => ("StyleCourt$Step", "name", "LStyleCourt$Slice;", false)
  | _ => ("StyleCourt$Step", "conditions", "Ljava/util/ArrayList;", true)
def xT7 : Nat → FieldType := fun k => match k with
  | 0 => .int
  | 1 => .object "StyleCourt$Slice"
  | _ => .object "java/util/ArrayList"
def xF8 : u_T := fun k => match k with
  | 0 => ("StyleCourt$Selector", "steps", "Ljava/util/ArrayList;", true)
  | _ => ("StyleCourt$Selector", "weight", "I", false)
def xT8 : Nat → FieldType := fun k => match k with
  | 0 => .object "java/util/ArrayList"
  | _ => .int
def xF9 : u_T := fun k => match k with
  | 0 => ("StyleCourt$Told", "index", "I", true)
  | 1 => ("StyleCourt$Told", "which", "I", true)
  | 2 => ("StyleCourt$Told", "kind", "I", false)
  | 3 => ("StyleCourt$Told", "text", "LStyleCourt$Slice;", false)
  | 4 => ("StyleCourt$Told", "number", "I", false)
  | 5 => ("StyleCourt$Told", "share", "I", false)
  | _ => ("StyleCourt$Told", "strong", "Z", false)
def xT9 : Nat → FieldType := fun k => match k with
  | 0 => .int
  | 1 => .int
  | 2 => .int
  | 3 => .object "StyleCourt$Slice"
  | 4 => .int
  | 5 => .int
  | _ => .boolean
def xF10 : u_T := fun k => match k with
  | 0 => ("StyleCourt$Rule", "selectors", "Ljava/util/ArrayList;", true)
  | _ => ("StyleCourt$Rule", "allTold", "Ljava/util/ArrayList;", true)
def xT10 : Nat → FieldType := fun k => match k with
  | 0 => .object "java/util/ArrayList"
  | _ => .object "java/util/ArrayList"
def xF11 : u_T := fun k => match k with
  | 0 => ("StyleCourt$Style", "rules", "Ljava/util/ArrayList;", true)
  | 1 => ("StyleCourt$Style", "selectors", "Ljava/util/ArrayList;", true)
  | 2 => ("StyleCourt$Style", "names", "Ljava/util/ArrayList;", true)
  | _ => ("StyleCourt$Style", "toldCount", "I", false)
def xT11 : Nat → FieldType := fun k => match k with
  | 0 => .object "java/util/ArrayList"
  | 1 => .object "java/util/ArrayList"
  | 2 => .object "java/util/ArrayList"
  | _ => .int
def xF12 : u_T := fun k => match k with
  | 0 => ("java/util/AbstractList", "modCount", "I", false)
  | 1 => ("java/util/ArrayList", "elementData", "[Ljava/lang/Object;", false)
  | _ => ("java/util/ArrayList", "size", "I", false)
def xT12 : Nat → FieldType := fun k => match k with
  | 0 => .int
  | 1 => .array (.object "java/lang/Object")
  | _ => .int
def xF13 : u_T := fun k => match k with
  | 0 => ("StyleCourtModel", "thrown", "I", false)
  | 1 => ("StyleCourtModel", "tape", "[I", true)
  | 2 => ("StyleCourtModel", "taped", "I", false)
  | 3 => ("StyleCourtModel", "out", "[I", true)
  | 4 => ("StyleCourtModel", "outLong", "I", false)
  | 5 => ("StyleCourtModel", "place", "I", false)
  | 6 => ("StyleCourtModel", "fault", "I", false)
  | 7 => ("StyleCourtModel", "text", "[I", true)
  | 8 => ("StyleCourtModel", "base", "I", false)
  | 9 => ("StyleCourtModel", "length", "I", false)
  | 10 => ("StyleCourtModel", "elements", "I", false)
  | 11 => ("StyleCourtModel", "newElements", "I", false)
  | 12 => ("StyleCourtModel", "nameAt", "[I", true)
  | 13 => ("StyleCourtModel", "nameLong", "[I", true)
  | 14 => ("StyleCourtModel", "parent", "[I", true)
  | 15 => ("StyleCourtModel", "before", "[I", true)
  | 16 => ("StyleCourtModel", "many", "[I", true)
  | 17 => ("StyleCourtModel", "number", "[I", true)
  | 18 => ("StyleCourtModel", "depth", "[I", true)
  | 19 => ("StyleCourtModel", "fields", "[I", true)
  | 20 => ("StyleCourtModel", "begins", "[I", true)
  | 21 => ("StyleCourtModel", "ends", "[I", true)
  | 22 => ("StyleCourtModel", "pieceFrom", "[I", true)
  | 23 => ("StyleCourtModel", "pieceTo", "[I", true)
  | 24 => ("StyleCourtModel", "lastIn", "[I", true)
  | 25 => ("StyleCourtModel", "empty", "[Z", true)
  | 26 => ("StyleCourtModel", "fieldAt", "[I", true)
  | 27 => ("StyleCourtModel", "fieldLong", "[I", true)
  | 28 => ("StyleCourtModel", "valueAt", "[I", true)
  | 29 => ("StyleCourtModel", "valueLong", "[I", true)
  | 30 => ("StyleCourtModel", "pieceAt", "[I", true)
  | 31 => ("StyleCourtModel", "pieceLong", "[I", true)
  | 32 => ("StyleCourtModel", "pieces", "I", false)
  | 33 => ("StyleCourtModel", "entityAt", "[I", true)
  | 34 => ("StyleCourtModel", "entityLong", "[I", true)
  | 35 => ("StyleCourtModel", "entityText", "[I", true)
  | 36 => ("StyleCourtModel", "entityTextLong", "[I", true)
  | 37 => ("StyleCourtModel", "entities", "I", false)
  | 38 => ("StyleCourtModel", "at", "I", false)
  | 39 => ("StyleCourtModel", "topMany", "I", false)
  | 40 => ("StyleCourtModel", "lastTop", "I", false)
  | 41 => ("StyleCourtModel", "spare", "[I", true)
  | 42 => ("StyleCourtModel", "founds", "I", false)
  | 43 => ("StyleCourtModel", "found", "[I", true)
  | 44 => ("StyleCourtModel", "sourceLong", "I", false)
  | 45 => ("StyleCourtModel", "kind", "I", false)
  | 46 => ("StyleCourtModel", "from", "I", false)
  | 47 => ("StyleCourtModel", "to", "I", false)
  | 48 => ("StyleCourtModel", "value", "I", false)
  | 49 => ("StyleCourtModel", "sign", "I", false)
  | 50 => ("StyleCourtModel", "selectors", "I", false)
  | 51 => ("StyleCourtModel", "steps", "I", false)
  | 52 => ("StyleCourtModel", "tests", "I", false)
  | 53 => ("StyleCourtModel", "firstStep", "[I", true)
  | 54 => ("StyleCourtModel", "stepsOf", "[I", true)
  | 55 => ("StyleCourtModel", "bodyOf", "[I", true)
  | 56 => ("StyleCourtModel", "heavy", "[I", true)
  | 57 => ("StyleCourtModel", "stepAt", "[I", true)
  | 58 => ("StyleCourtModel", "stepLong", "[I", true)
  | 59 => ("StyleCourtModel", "link", "[I", true)
  | 60 => ("StyleCourtModel", "firstTest", "[I", true)
  | 61 => ("StyleCourtModel", "testsOf", "[I", true)
  | 62 => ("StyleCourtModel", "test", "[I", true)
  | 63 => ("StyleCourtModel", "testAt", "[I", true)
  | 64 => ("StyleCourtModel", "testLong", "[I", true)
  | 65 => ("StyleCourtModel", "testText", "[I", true)
  | 66 => ("StyleCourtModel", "testTextLong", "[I", true)
  | 67 => ("StyleCourtModel", "testNumber", "[I", true)
  | 68 => ("StyleCourtModel", "props", "I", false)
  | 69 => ("StyleCourtModel", "names", "I", false)
  | 70 => ("StyleCourtModel", "propName", "[I", true)
  | 71 => ("StyleCourtModel", "propBody", "[I", true)
  | 72 => ("StyleCourtModel", "propKind", "[I", true)
  | 73 => ("StyleCourtModel", "propAt", "[I", true)
  | 74 => ("StyleCourtModel", "propLong", "[I", true)
  | 75 => ("StyleCourtModel", "propNumber", "[I", true)
  | 76 => ("StyleCourtModel", "propFirst", "[Z", true)
  | 77 => ("StyleCourtModel", "knownAt", "[I", true)
  | 78 => ("StyleCourtModel", "knownLong", "[I", true)
  | 79 => ("StyleCourtModel", "styleLong", "I", false)
  | 80 => ("StyleCourtModel", "good", "[Z", true)
  | 81 => ("StyleCourtModel", "ahead", "[Z", true)
  | 82 => ("StyleCourtModel", "isFit", "[Z", true)
  | 83 => ("StyleCourtModel", "way", "[I", true)
  | _ => ("StyleCourtModel", "latestHeavy", "I", false)
def xT13 : Nat → FieldType := fun k => match k with
  | 0 => .int
  | 1 => .array .int
  | 2 => .int
  | 3 => .array .int
  | 4 => .int
  | 5 => .int
  | 6 => .int
  | 7 => .array .int
  | 8 => .int
  | 9 => .int
  | 10 => .int
  | 11 => .int
  | 12 => .array .int
  | 13 => .array .int
  | 14 => .array .int
  | 15 => .array .int
  | 16 => .array .int
  | 17 => .array .int
  | 18 => .array .int
  | 19 => .array .int
  | 20 => .array .int
  | 21 => .array .int
  | 22 => .array .int
  | 23 => .array .int
  | 24 => .array .int
  | 25 => .array .boolean
  | 26 => .array .int
  | 27 => .array .int
  | 28 => .array .int
  | 29 => .array .int
  | 30 => .array .int
  | 31 => .array .int
  | 32 => .int
  | 33 => .array .int
  | 34 => .array .int
  | 35 => .array .int
  | 36 => .array .int
  | 37 => .int
  | 38 => .int
  | 39 => .int
  | 40 => .int
  | 41 => .array .int
  | 42 => .int
  | 43 => .array .int
  | 44 => .int
  | 45 => .int
  | 46 => .int
  | 47 => .int
  | 48 => .int
  | 49 => .int
  | 50 => .int
  | 51 => .int
  | 52 => .int
  | 53 => .array .int
  | 54 => .array .int
  | 55 => .array .int
  | 56 => .array .int
  | 57 => .array .int
  | 58 => .array .int
  | 59 => .array .int
  | 60 => .array .int
  | 61 => .array .int
  | 62 => .array .int
  | 63 => .array .int
  | 64 => .array .int
  | 65 => .array .int
  | 66 => .array .int
  | 67 => .array .int
  | 68 => .int
  | 69 => .int
  | 70 => .array .int
  | 71 => .array .int
  | 72 => .array .int
  | 73 => .array .int
  | 74 => .array .int
  | 75 => .array .int
  | 76 => .array .boolean
  | 77 => .array .int
  | 78 => .array .int
  | 79 => .int
  | 80 => .array .boolean
  | 81 => .array .boolean
  | 82 => .array .boolean
  | 83 => .array .int
  | _ => .int
def xF14 : u_T := fun k => match k with
  | _ => ("", "", "", false)
def xT14 : Nat → FieldType := fun k => match k with
  | _ => .int
def xF15 : u_T := fun k => match k with
  | _ => ("", "", "", false)
def xT15 : Nat → FieldType := fun k => match k with
  | _ => .int
def xF16 : u_T := fun k => match k with
  | _ => ("", "", "", false)
def xT16 : Nat → FieldType := fun k => match k with
  | _ => .int
def xcl : List vw_C := [("StyleCourt", xF0, 12), ("StyleCourt$Reader", xF1, 3), ("StyleCourt$Slice", xF2, 3), ("StyleCourt$Named", xF3, 2), ("StyleCourt$Element", xF4, 15), ("StyleCourt$Source", xF5, 5), ("StyleCourt$Condition", xF6, 4), ("StyleCourt$Step", xF7, 3), ("StyleCourt$Selector", xF8, 2), ("StyleCourt$Told", xF9, 7), ("StyleCourt$Rule", xF10, 2), ("StyleCourt$Style", xF11, 4), ("java/util/ArrayList", xF12, 3), ("StyleCourtModel", xF13, 85), ("java/lang/IndexOutOfBoundsException", xF14, 0), ("java/lang/IllegalArgumentException", xF15, 0), ("java/lang/UnsupportedOperationException", xF16, 0)]
def xty : Nat → Nat → FieldType := fun c => match c with
  | 0 => xT0
  | 1 => xT1
  | 2 => xT2
  | 3 => xT3
  | 4 => xT4
  | 5 => xT5
  | 6 => xT6
  | 7 => xT7
  | 8 => xT8
  | 9 => xT9
  | 10 => xT10
  | 11 => xT11
  | 12 => xT12
  | 13 => xT13
  | 14 => xT14
  | 15 => xT15
  | _ => xT16
def xela : List FieldType := [.int, .byte, .long, .boolean, .object "java/lang/Object", .object "StyleCourt$Element"]
def xst : List (String × String × String) := [("StyleCourt", "KNOWN", "[B"), ("java/util/ArrayList", "DEFAULTCAPACITY_EMPTY_ELEMENTDATA", "[Ljava/lang/Object;"), ("java/lang/String", "COMPACT_STRINGS", "Z")]
def xsr : List (String × Nat × String) := [("StyleCourt", 70, "the tape is full"), ("StyleCourt", 81, "the tape is not that long"), ("StyleCourt$Reader", 30, "the text is broken"), ("StyleCourt$Condition", 45, "first"), ("StyleCourt$Condition", 53, "last"), ("StyleCourt$Condition", 55, "empty"), ("StyleCourt$Condition", 57, "nth"), ("StyleCourt$Condition", 62, "not"), ("StyleCourt", 254, "no such element"), ("StyleCourt$Told", 66, "up"), ("StyleCourt", 192, "not so many are found"), ("StyleCourt", 194, "no such selector"), ("StyleCourt", 221, "nothing is asked by that number"), ("StyleCourt", 223, "the element has no such part"), ("StyleCourt", 293, "the text is too long"), ("StyleCourt", 242, "no byte of what is out"), ("StyleCourt", 247, "nothing is counted by that number")]
def xgood : Cond → Bool
  | .castable _ _ => true
  | .declares _ => true
  | .methodLinkNest _ _ _ _ => true
  | .fieldLinkNest _ _ _ _ _ _ => true
  | .arrayOver (.object _) => true
  | w => goodWord w
theorem xgood_warm {w : Cond} (hg : xgood w = true) {args a' : Array Value} {s U : State} (hW : s.WarmedH U.vm) (h : w.before args s = true) : w.before a' U = true := by
  unfold xgood at hg
  split at hg
  · exact va_Nw.use rfl (va_Nw.warmC hW (va_Nw.of rfl h))
  · exact va_Nw.use rfl (va_Nw.warmD hW (va_Nw.of rfl h))
  · exact va_Nw.use rfl (va_Nw.warmM hW (va_Nw.of rfl h))
  · exact va_Nw.use rfl (va_Nw.warmF hW (va_Nw.of rfl h))
  · exact va_AO.use (va_AO.moved hW.alike (va_AO.of h))
  · exact word_at hW (good_of_word hg) h
def xws : List Cond := lw_tbl.filter xgood
theorem xws_in {w : Cond} (h : w ∈ lw_tbl) (g : xgood w = true) : w ∈ xws := List.mem_filter.mpr ⟨h, g⟩
theorem xws_at {w : Cond} (i : Nat) (h : lw_tbl[i]? = some w) (g : xgood w = true) : w ∈ xws := xws_in (List.mem_of_getElem? h) g
theorem xws_ps {ws : List Cond} (ps : List Nat) (hp : ws = ps.filterMap (fun i => lw_tbl[i]?)) (h : ws.all xgood = true) : ∀ w ∈ ws, w ∈ xws := by
  intro w hw
  have h1 := List.all_eq_true.mp h w hw
  rw [hp] at hw
  obtain ⟨i, -, hi⟩ := List.mem_filterMap.mp hw
  exact xws_in (List.mem_of_getElem? hi) h1
theorem xin_0 : ∀ w ∈ u_ws "StyleCourt" xF0 12, w ∈ xws := xws_ps [427, 429, 431, 433, 435, 437, 439, 441, 443, 445, 447, 449] (by decide +kernel) (by decide +kernel)
theorem xnm_0 : ∀ a, a < 12 → ∀ b, b < 12 → a ≠ b → (xF0 a).2.1 ≠ (xF0 b).2.1 := by decide +kernel
theorem xpd_0 : ∀ k, k < 12 → parseFieldDescriptor (xF0 k).2.2.1 = some (xT0 k) := by decide +kernel
theorem xin_1 : ∀ w ∈ u_ws "StyleCourt$Reader" xF1 3, w ∈ xws := xws_ps [145, 147, 149] (by decide +kernel) (by decide +kernel)
theorem xnm_1 : ∀ a, a < 3 → ∀ b, b < 3 → a ≠ b → (xF1 a).2.1 ≠ (xF1 b).2.1 := by decide +kernel
theorem xpd_1 : ∀ k, k < 3 → parseFieldDescriptor (xF1 k).2.2.1 = some (xT1 k) := by decide +kernel
theorem xin_2 : ∀ w ∈ u_ws "StyleCourt$Slice" xF2 3, w ∈ xws := xws_ps [203, 205, 207] (by decide +kernel) (by decide +kernel)
theorem xnm_2 : ∀ a, a < 3 → ∀ b, b < 3 → a ≠ b → (xF2 a).2.1 ≠ (xF2 b).2.1 := by decide +kernel
theorem xpd_2 : ∀ k, k < 3 → parseFieldDescriptor (xF2 k).2.2.1 = some (xT2 k) := by decide +kernel
theorem xin_3 : ∀ w ∈ u_ws "StyleCourt$Named" xF3 2, w ∈ xws := xws_ps [307, 309] (by decide +kernel) (by decide +kernel)
theorem xnm_3 : ∀ a, a < 2 → ∀ b, b < 2 → a ≠ b → (xF3 a).2.1 ≠ (xF3 b).2.1 := by decide +kernel
theorem xpd_3 : ∀ k, k < 2 → parseFieldDescriptor (xF3 k).2.2.1 = some (xT3 k) := by decide +kernel
theorem xin_4 : ∀ w ∈ u_ws "StyleCourt$Element" xF4 15, w ∈ xws := xws_ps [264, 266, 268, 270, 272, 274, 276, 278, 280, 282, 284, 286, 288, 290, 292] (by decide +kernel) (by decide +kernel)
theorem xnm_4 : ∀ a, a < 15 → ∀ b, b < 15 → a ≠ b → (xF4 a).2.1 ≠ (xF4 b).2.1 := by decide +kernel
theorem xpd_4 : ∀ k, k < 15 → parseFieldDescriptor (xF4 k).2.2.1 = some (xT4 k) := by decide +kernel
theorem xin_5 : ∀ w ∈ u_ws "StyleCourt$Source" xF5 5, w ∈ xws := xws_ps [379, 381, 383, 385, 387] (by decide +kernel) (by decide +kernel)
theorem xnm_5 : ∀ a, a < 5 → ∀ b, b < 5 → a ≠ b → (xF5 a).2.1 ≠ (xF5 b).2.1 := by decide +kernel
theorem xpd_5 : ∀ k, k < 5 → parseFieldDescriptor (xF5 k).2.2.1 = some (xT5 k) := by decide +kernel
theorem xin_6 : ∀ w ∈ u_ws "StyleCourt$Condition" xF6 4, w ∈ xws := xws_ps [810, 812, 814, 816] (by decide +kernel) (by decide +kernel)
theorem xnm_6 : ∀ a, a < 4 → ∀ b, b < 4 → a ≠ b → (xF6 a).2.1 ≠ (xF6 b).2.1 := by decide +kernel
theorem xpd_6 : ∀ k, k < 4 → parseFieldDescriptor (xF6 k).2.2.1 = some (xT6 k) := by decide +kernel
theorem xin_7 : ∀ w ∈ u_ws "StyleCourt$Step" xF7 3, w ∈ xws := xws_ps [786, 788, 790] (by decide +kernel) (by decide +kernel)
theorem xnm_7 : ∀ a, a < 3 → ∀ b, b < 3 → a ≠ b → (xF7 a).2.1 ≠ (xF7 b).2.1 := by decide +kernel
theorem xpd_7 : ∀ k, k < 3 → parseFieldDescriptor (xF7 k).2.2.1 = some (xT7 k) := by decide +kernel
theorem xin_8 : ∀ w ∈ u_ws "StyleCourt$Selector" xF8 2, w ∈ xws := xws_ps [763, 765] (by decide +kernel) (by decide +kernel)
theorem xnm_8 : ∀ a, a < 2 → ∀ b, b < 2 → a ≠ b → (xF8 a).2.1 ≠ (xF8 b).2.1 := by decide +kernel
theorem xpd_8 : ∀ k, k < 2 → parseFieldDescriptor (xF8 k).2.2.1 = some (xT8 k) := by decide +kernel
theorem xin_9 : ∀ w ∈ u_ws "StyleCourt$Told" xF9 7, w ∈ xws := xws_ps [937, 939, 941, 943, 945, 947, 949] (by decide +kernel) (by decide +kernel)
theorem xnm_9 : ∀ a, a < 7 → ∀ b, b < 7 → a ≠ b → (xF9 a).2.1 ≠ (xF9 b).2.1 := by decide +kernel
theorem xpd_9 : ∀ k, k < 7 → parseFieldDescriptor (xF9 k).2.2.1 = some (xT9 k) := by decide +kernel
theorem xin_10 : ∀ w ∈ u_ws "StyleCourt$Rule" xF10 2, w ∈ xws := xws_ps [739, 741] (by decide +kernel) (by decide +kernel)
theorem xnm_10 : ∀ a, a < 2 → ∀ b, b < 2 → a ≠ b → (xF10 a).2.1 ≠ (xF10 b).2.1 := by decide +kernel
theorem xpd_10 : ∀ k, k < 2 → parseFieldDescriptor (xF10 k).2.2.1 = some (xT10 k) := by decide +kernel
theorem xin_11 : ∀ w ∈ u_ws "StyleCourt$Style" xF11 4, w ∈ xws := xws_ps [404, 406, 408, 410] (by decide +kernel) (by decide +kernel)
theorem xnm_11 : ∀ a, a < 4 → ∀ b, b < 4 → a ≠ b → (xF11 a).2.1 ≠ (xF11 b).2.1 := by decide +kernel
theorem xpd_11 : ∀ k, k < 4 → parseFieldDescriptor (xF11 k).2.2.1 = some (xT11 k) := by decide +kernel
theorem xin_12 : ∀ w ∈ u_ws "java/util/ArrayList" xF12 3, w ∈ xws := xws_ps [183, 179, 181] (by decide +kernel) (by decide +kernel)
theorem xnm_12 : ∀ a, a < 3 → ∀ b, b < 3 → a ≠ b → (xF12 a).2.1 ≠ (xF12 b).2.1 := by decide +kernel
theorem xpd_12 : ∀ k, k < 3 → parseFieldDescriptor (xF12 k).2.2.1 = some (xT12 k) := by decide +kernel
theorem xin_13 : ∀ w ∈ u_ws "StyleCourtModel" xF13 85, w ∈ xws := xws_ps [1230, 1232, 1234, 1236, 1238, 1240, 1242, 1244, 1246, 1248, 1250, 1252, 1254, 1256, 1258, 1260, 1262, 1264, 1266, 1268, 1270, 1272, 1274, 1276, 1278, 1280, 1282, 1284, 1286, 1288, 1290, 1292, 1294, 1296, 1298, 1300, 1302, 1304, 1306, 1308, 1310, 1312, 1314, 1316, 1318, 1320, 1322, 1324, 1326, 1328, 1330, 1332, 1334, 1336, 1338, 1340, 1342, 1344, 1346, 1348, 1350, 1352, 1354, 1356, 1358, 1360, 1362, 1364, 1366, 1368, 1370, 1372, 1374, 1376, 1378, 1380, 1382, 1384, 1386, 1388, 1390, 1392, 1394, 1396, 1398] (by decide +kernel) (by decide +kernel)
theorem xnm_13 : ∀ a, a < 85 → ∀ b, b < 85 → a ≠ b → (xF13 a).2.1 ≠ (xF13 b).2.1 := by decide +kernel
theorem xpd_13 : ∀ k, k < 85 → parseFieldDescriptor (xF13 k).2.2.1 = some (xT13 k) := by decide +kernel
theorem xin_14 : ∀ w ∈ u_ws "java/lang/IndexOutOfBoundsException" xF14 0, w ∈ xws := xws_ps [] (by decide +kernel) (by decide +kernel)
theorem xnm_14 : ∀ a, a < 0 → ∀ b, b < 0 → a ≠ b → (xF14 a).2.1 ≠ (xF14 b).2.1 := by decide +kernel
theorem xpd_14 : ∀ k, k < 0 → parseFieldDescriptor (xF14 k).2.2.1 = some (xT14 k) := by decide +kernel
theorem xin_15 : ∀ w ∈ u_ws "java/lang/IllegalArgumentException" xF15 0, w ∈ xws := xws_ps [] (by decide +kernel) (by decide +kernel)
theorem xnm_15 : ∀ a, a < 0 → ∀ b, b < 0 → a ≠ b → (xF15 a).2.1 ≠ (xF15 b).2.1 := by decide +kernel
theorem xpd_15 : ∀ k, k < 0 → parseFieldDescriptor (xF15 k).2.2.1 = some (xT15 k) := by decide +kernel
theorem xin_16 : ∀ w ∈ u_ws "java/lang/UnsupportedOperationException" xF16 0, w ∈ xws := xws_ps [] (by decide +kernel) (by decide +kernel)
theorem xnm_16 : ∀ a, a < 0 → ∀ b, b < 0 → a ≠ b → (xF16 a).2.1 ≠ (xF16 b).2.1 := by decide +kernel
theorem xpd_16 : ∀ k, k < 0 → parseFieldDescriptor (xF16 k).2.2.1 = some (xT16 k) := by decide +kernel
theorem xcl_in : ∀ {ci : Nat} {r : vw_C}, xcl[ci]? = some r → ∀ w ∈ u_ws r.1 r.2.1 r.2.2, w ∈ xws
  | 0, _, h => by cases h; exact xin_0
  | 1, _, h => by cases h; exact xin_1
  | 2, _, h => by cases h; exact xin_2
  | 3, _, h => by cases h; exact xin_3
  | 4, _, h => by cases h; exact xin_4
  | 5, _, h => by cases h; exact xin_5
  | 6, _, h => by cases h; exact xin_6
  | 7, _, h => by cases h; exact xin_7
  | 8, _, h => by cases h; exact xin_8
  | 9, _, h => by cases h; exact xin_9
  | 10, _, h => by cases h; exact xin_10
  | 11, _, h => by cases h; exact xin_11
  | 12, _, h => by cases h; exact xin_12
  | 13, _, h => by cases h; exact xin_13
  | 14, _, h => by cases h; exact xin_14
  | 15, _, h => by cases h; exact xin_15
  | 16, _, h => by cases h; exact xin_16
  | n + 17, _, h => by simp [xcl] at h
theorem xcl_ty : ∀ {ci : Nat} {r : vw_C}, xcl[ci]? = some r → ∀ k, k < r.2.2 → parseFieldDescriptor (r.2.1 k).2.2.1 = some (xty ci k)
  | 0, _, h => by cases h; exact xpd_0
  | 1, _, h => by cases h; exact xpd_1
  | 2, _, h => by cases h; exact xpd_2
  | 3, _, h => by cases h; exact xpd_3
  | 4, _, h => by cases h; exact xpd_4
  | 5, _, h => by cases h; exact xpd_5
  | 6, _, h => by cases h; exact xpd_6
  | 7, _, h => by cases h; exact xpd_7
  | 8, _, h => by cases h; exact xpd_8
  | 9, _, h => by cases h; exact xpd_9
  | 10, _, h => by cases h; exact xpd_10
  | 11, _, h => by cases h; exact xpd_11
  | 12, _, h => by cases h; exact xpd_12
  | 13, _, h => by cases h; exact xpd_13
  | 14, _, h => by cases h; exact xpd_14
  | 15, _, h => by cases h; exact xpd_15
  | 16, _, h => by cases h; exact xpd_16
  | n + 17, _, h => by simp [xcl] at h
theorem xcl_nm : ∀ {ci : Nat} {r : vw_C}, xcl[ci]? = some r → ∀ a, a < r.2.2 → ∀ b, b < r.2.2 → a ≠ b → (r.2.1 a).2.1 ≠ (r.2.1 b).2.1
  | 0, _, h => by cases h; exact xnm_0
  | 1, _, h => by cases h; exact xnm_1
  | 2, _, h => by cases h; exact xnm_2
  | 3, _, h => by cases h; exact xnm_3
  | 4, _, h => by cases h; exact xnm_4
  | 5, _, h => by cases h; exact xnm_5
  | 6, _, h => by cases h; exact xnm_6
  | 7, _, h => by cases h; exact xnm_7
  | 8, _, h => by cases h; exact xnm_8
  | 9, _, h => by cases h; exact xnm_9
  | 10, _, h => by cases h; exact xnm_10
  | 11, _, h => by cases h; exact xnm_11
  | 12, _, h => by cases h; exact xnm_12
  | 13, _, h => by cases h; exact xnm_13
  | 14, _, h => by cases h; exact xnm_14
  | 15, _, h => by cases h; exact xnm_15
  | 16, _, h => by cases h; exact xnm_16
  | n + 17, _, h => by simp [xcl] at h
end
section
/-! THE ABSTRACT MACHINE, 1: abstract heaps, worlds, contracts -/
abbrev xC : Type := Nat × List Value
abbrev xH : Type := Nat → Option xC
abbrev xO : Type := Option Value ⊕ (Nat × Nat)
abbrev xD : Type := (Nat → ClassId) × (Nat → Nat → Nat) × Nat × (Nat → Value)
abbrev xD.cid (D : xD) : Nat → ClassId := D.1
abbrev xD.slo (D : xD) : Nat → Nat → Nat := D.2.1
abbrev xD.sz (D : xD) : Nat := D.2.2.1
abbrev xD.sv (D : xD) : Nat → Value := D.2.2.2
def xset (h : xH) (a : Nat) (c : xC) : xH := fun q => if q = a then some c else h q
theorem xset_same (h : xH) (a : Nat) (c : xC) : xset h a c a = some c := if_pos rfl
theorem xset_ne (h : xH) {a q : Nat} (c : xC) (hq : q ≠ a) : xset h a c q = h q := if_neg hq
theorem xset_set (h : xH) (a : Nat) (c d : xC) : xset (xset h a c) a d = xset h a d := by
  funext q; unfold xset; split <;> rfl
theorem xset_comm (h : xH) {a b : Nat} (c d : xC) (hab : a ≠ b) : xset (xset h a c) b d = xset (xset h b d) a c := by
  funext q; unfold xset; split
  · rename_i e; rw [if_neg (by rw [e]; exact fun z => hab z.symm)]
  · rfl
theorem xset_self {h : xH} {a : Nat} {c : xC} (e : h a = some c) : xset h a c = h := by
  funext q; unfold xset; split
  · rename_i z; rw [z, e]
  · rfl
theorem xne {h : xH} {a b : Nat} {c d : xC} (ha : h a = some c) (hb : h b = some d) (hk : c.1 ≠ d.1) : a ≠ b := by
  intro e; subst e; rw [ha] at hb; cases hb; exact hk rfl
theorem xnn {h : xH} {a b : Nat} {c : xC} (ha : h a = some c) (hb : h b = none) : a ≠ b := by
  intro e; subst e; rw [ha] at hb; cases hb
def xel (t : Nat) : FieldType := xela.getD t .int
/-- a String constant of before the run: its bytes' array at v, Latin-1 -/
def xO_RO (D : xD) (U : State) (H : Heap) (a : Nat) (vs : List Value) : Prop :=
  ∃ v : Nat, vs = [.ref v] ∧ va_O "java/lang/String" a (fun q => D.sz ≤ q) U H ∧ va_OF "java/lang/String" "value" "[B" (.ref v) a (fun q => D.sz ≤ q) U H ∧ va_OF "java/lang/String" "coder" "B" (.int 0) a (fun q => D.sz ≤ q) U H
/-- what a cell of the abstract heap says of the heap: objects (kinds below 100), arrays (100 ..), arrays and objects of before the run (200 .., 300 ..) -/
def x_at (D : xD) (U : State) (H : Heap) (a : Nat) (c : xC) : Prop :=
  if c.1 < 100 then D.sz ≤ a ∧ ∃ r : vw_C, xcl[c.1]? = some r ∧ c.2.length = r.2.2 ∧ t_OB a (D.cid c.1) r.2.2 (D.slo c.1) H (vp_V c.2)
  else if c.1 < 200 then D.sz ≤ a ∧ c.2.length < 2 ^ 31 ∧ (∃ ty, xela[c.1 - 100]? = some ty) ∧ H[a]? = some { cls := D.cid c.1, slots := c.2.toArray, vm := .none }
  else if c.1 < 300 then a < D.sz ∧ c.2.length < 2 ^ 31 ∧ ∃ cell : Cell, H[a]? = some cell ∧ U.isArrayOf cell (xel (c.1 - 200)) ∧ cell.vm ≠ .unknown ∧ cell.slots = c.2.toArray
  else a < D.sz ∧ c.1 = 300 ∧ xO_RO D U H a c.2
def x_K (D : xD) (U : State) : Prop := (∀ (c : Nat) (q : vw_C), xcl[c]? = some q → u_Kn U q.1 q.2.1 q.2.2 (D.cid c) (D.slo c)) ∧ ∀ (t : Nat) (ty : FieldType), xela[t]? = some ty → ArrOfT U (D.cid (100 + t)) ty ∧ va_RA U (D.cid (100 + t)) ty
/-- a static field of before the run that holds a reference or null, with all that the tables say of it -/
def x_LS (q : String × String × String) (sz : Nat) (U : State) (H : Heap) : Prop := ∃ (c : ClassId) (k : Class) (i : Nat) (f : Field) (a : Nat) (cell : Cell) (v : Value), U.vm.findClass q.1 = some c ∧ U.fieldFound? q.1 q.2.1 q.2.2 = some (c, k, i, f) ∧ f.isStatic = true ∧ k.statics = some a ∧ H[a]? = some cell ∧ cell.vm.isStatics = true ∧ cell.cls = c ∧ f.slot < cell.slots.size ∧ k.staticTypes[f.slot]? = some f.type ∧ a < sz ∧ cell.slots[f.slot]? = some v ∧ (v = .null ∨ ∃ t, v = .ref t)
theorem x_LS.moved {q : String × String × String} {sz : Nat} {u U : State} {H : Heap} (hvm : u.vm.Alike U.vm) (h : x_LS q sz u H) : x_LS q sz U H := by
  obtain ⟨c, k, i, f, a, cell, v, h1, h2, h3, h4, h5, h6, h7, h8, h9, h10⟩ := h
  obtain ⟨k', hi', he⟩ := State.fieldFound?_setVm hvm h2
  exact ⟨c, k', i, f, a, cell, v, by rw [hvm.findClass]; exact h1, hi', h3, by rw [he]; exact h4, h5, h6, h7, h8, by rw [he]; exact h9, h10⟩
theorem x_LS.kept {q : String × String × String} {sz : Nat} {U : State} {H H1 : Heap} (h : x_LS q sz U H) (hq : ∀ a : Nat, a < sz → H1[a]? = H[a]?) : x_LS q sz U H1 := by
  obtain ⟨c, k, i, f, a, cell, v, h1, h2, h3, h4, h5, h6, h7, h8, h9, h10, h11⟩ := h
  exact ⟨c, k, i, f, a, cell, v, h1, h2, h3, h4, by rw [hq a h10]; exact h5, h6, h7, h8, h9, h10, h11⟩
theorem x_LS.lays {q : String × String × String} {sz : Nat} {args : Array Value} {s : State} (h : x_LS q sz s s.heap) : (Cond.laysStatic q.1 q.2.1 q.2.2).before args s = true := by
  obtain ⟨c, k, i, f, a, cell, v, h1, h2, h3, h4, h5, h6, h7, h8, h9, h10, h11⟩ := h
  simp [Cond.before, Cond.holds, Cond.value, h1, h2, h3, h4, h5, h6, h7, h8, h9]
theorem x_LS.isRef {q : String × String × String} {sz : Nat} {args : Array Value} {s : State} (h : x_LS q sz s s.heap) : (Cond.isRef (.static q.1 q.2.1 q.2.2)).before args s = true := by
  obtain ⟨c, k, i, f, a, cell, v, h1, h2, h3, h4, h5, h6, h7, h8, h9, h10, h11, h12⟩ := h
  have e2 : (Term.static q.1 q.2.1 q.2.2).eval args s none [] s = some v := by simp [Term.eval, State.fieldNamed?, h2, h3, h4, h5, h6, h11]
  rcases h12 with rfl | ⟨t, rfl⟩ <;> simp [Cond.before, Cond.holds, Cond.value, e2]
abbrev xt1 : String × String × String := (Bundle.tN, "UNASSIGNED_STACK", Bundle.steD)
abbrev xt2 : String × String × String := (Bundle.tN, "SUPPRESSED_SENTINEL", Bundle.listD)
def xhw : List Cond := [.isRef (.static Bundle.tN "UNASSIGNED_STACK" Bundle.steD), .isRef (.static Bundle.tN "SUPPRESSED_SENTINEL" Bundle.listD), .laysStatic Bundle.tN "UNASSIGNED_STACK" Bundle.steD, .laysStatic Bundle.tN "SUPPRESSED_SENTINEL" Bundle.listD]
def x_E (D : xD) (U : State) (H : Heap) : Prop := (∀ (i : Nat) (q : String × String × String), xst[i]? = some q → va_Z q.1 q.2.1 q.2.2 (D.sv i) (fun q => D.sz ≤ q) U H) ∧ (∀ (i : Nat) (q : String × Nat × String), xsr[i]? = some q → ∃ a : Nat, D.sv (1000 + i) = .ref a ∧ vk_R q.1 q.2.1 q.2.2 a U) ∧ x_LS xt1 D.sz U H ∧ x_LS xt2 D.sz U H ∧ ∃ mi : Nat, D.sv 2000 = .ref mi ∧ va_Mi "[Ljava/lang/Object;" mi U
theorem x_E.refs {D : xD} {args : Array Value} {s : State} (h : x_E D s s.heap) : ∀ a ∈ xhw, a.before args s = true := by
  intro a ha
  rcases List.mem_cons.mp ha with rfl | ha
  · exact h.2.2.1.isRef
  rcases List.mem_cons.mp ha with rfl | ha
  · exact h.2.2.2.1.isRef
  rcases List.mem_cons.mp ha with rfl | ha
  · exact h.2.2.1.lays
  rcases List.mem_cons.mp ha with rfl | ha
  · exact h.2.2.2.1.lays
  cases ha
def x_R (D : xD) (U : State) (h : xH) (H : Heap) : Prop := ∀ (a : Nat) (c : xC), h a = some c → x_at D U H a c
def x_S (D : xD) (H0 H : Heap) (locs : List Loc) : Prop := H0.size ≤ H.size ∧ (∀ q : Nat, q < D.sz → H[q]? = H0[q]?) ∧ ∀ l ∈ locs, D.sz ≤ l.base
theorem x_at.lt {D : xD} {U : State} {H : Heap} {a : Nat} {c : xC} (h : x_at D U H a c) : a < H.size := by
  unfold x_at at h
  split at h
  · obtain ⟨-, r, -, -, cell, h1, -⟩ := h
    exact (Array.getElem?_eq_some_iff.mp h1).1
  · split at h
    · exact (Array.getElem?_eq_some_iff.mp h.2.2.2).1
    · split at h
      · obtain ⟨-, -, cell, h1, -⟩ := h
        exact (Array.getElem?_eq_some_iff.mp h1).1
      · obtain ⟨-, -, v, -, ⟨cell, h1, -⟩, -⟩ := h
        exact (Array.getElem?_eq_some_iff.mp h1).1
theorem x_at.kept {D : xD} {U : State} {H H1 : Heap} {a : Nat} {c : xC} (h : x_at D U H a c) (hq : H1[a]? = H[a]?) : x_at D U H1 a c := by
  unfold x_at at h ⊢
  split at h
  · rename_i z
    rw [if_pos z]
    obtain ⟨h0, r, h1, h2, h3⟩ := h
    exact ⟨h0, r, h1, h2, h3.kept hq⟩
  · rename_i z
    rw [if_neg z]
    split at h
    · rename_i z
      rw [if_pos z, hq]
      exact h
    · rename_i z
      rw [if_neg z]
      split at h
      · rename_i z
        rw [if_pos z, hq]
        exact h
      · rename_i z
        rw [if_neg z]
        obtain ⟨h0, h1, v, h2, ⟨cell, g1, g2⟩, ⟨cf, k, i, f, cell2, g3, g4, g5, g6⟩, ⟨cf3, k3, i3, f3, cell3, g7, g8, g9, g10⟩⟩ := h
        exact ⟨h0, h1, v, h2, ⟨cell, by rw [hq]; exact g1, g2⟩, ⟨cf, k, i, f, cell2, g3, g4, by rw [hq]; exact g5, g6⟩, ⟨cf3, k3, i3, f3, cell3, g7, g8, by rw [hq]; exact g9, g10⟩⟩
theorem x_at.moved {D : xD} {u U : State} {H : Heap} {a : Nat} {c : xC} (hvm : u.vm.Alike U.vm) (h : x_at D u H a c) : x_at D U H a c := by
  unfold x_at at h ⊢
  split at h
  · rename_i z
    rw [if_pos z]
    exact h
  · rename_i z
    rw [if_neg z]
    split at h
    · rename_i z
      rw [if_pos z]
      exact h
    · rename_i z
      rw [if_neg z]
      split at h
      · rename_i z
        rw [if_pos z]
        obtain ⟨h0, h1, cell, h2, h3, h4⟩ := h
        exact ⟨h0, h1, cell, h2, State.isArrayOf_alike hvm h3, h4⟩
      · rename_i z
        rw [if_neg z]
        obtain ⟨h0, h1, v, h2, h3, h4, h5⟩ := h
        exact ⟨h0, h1, v, h2, h3.moved hvm, h4.moved hvm, h5.moved hvm⟩
theorem x_R.moved {D : xD} {u U : State} {h : xH} {H : Heap} (hvm : u.vm.Alike U.vm) (hR : x_R D u h H) : x_R D U h H := fun a c e => (hR a c e).moved hvm
theorem x_K.moved {D : xD} {u U : State} (hvm : u.vm.Alike U.vm) (hK : x_K D u) : x_K D U := ⟨fun c q hq => u_Kn_moved hvm (hK.1 c q hq), fun t ty ht => ⟨arrOfT_moved hvm (hK.2 t ty ht).1, (hK.2 t ty ht).2.moved hvm⟩⟩
theorem x_E.warm {D : xD} {s U : State} {H : Heap} (hW : s.WarmedH U.vm) (hE : x_E D s H) : x_E D U H := ⟨fun i q hq => (hE.1 i q hq).moved hW.alike, fun i q hq => by obtain ⟨a, h1, h2⟩ := hE.2.1 i q hq; exact ⟨a, h1, h2.warm hW⟩, hE.2.2.1.moved hW.alike, hE.2.2.2.1.moved hW.alike, by obtain ⟨mi, h1, h2⟩ := hE.2.2.2.2; exact ⟨mi, h1, h2.moved hW.alike⟩⟩
theorem x_E.kept {D : xD} {U : State} {H H1 : Heap} (hE : x_E D U H) (hq : ∀ q : Nat, q < D.sz → H1[q]? = H[q]?) : x_E D U H1 := ⟨fun i q hi => (hE.1 i q hi).kept (fun a _ ha => hq a (Nat.not_le.mp ha)), hE.2.1, hE.2.2.1.kept hq, hE.2.2.2.1.kept hq, hE.2.2.2.2⟩
theorem x_R.set {D : xD} {U : State} {h : xH} {H H1 : Heap} {a : Nat} {c : xC} (hR : x_R D U h H) (hc : x_at D U H1 a c) (hq : ∀ q, q ≠ a → H1[q]? = H[q]?) : x_R D U (xset h a c) H1 := by
  intro q d e
  by_cases z : q = a
  · subst z; rw [xset_same] at e; cases e; exact hc
  · rw [xset_ne _ _ z] at e; exact (hR q d e).kept (hq q z)
theorem x_R.push {D : xD} {U : State} {h : xH} {H H1 : Heap} {c : xC} (hR : x_R D U h H) (hc : x_at D U H1 H.size c) (hq : ∀ q, q < H.size → H1[q]? = H[q]?) : x_R D U (xset h H.size c) H1 := by
  intro q d e
  by_cases z : q = H.size
  · subst z; rw [xset_same] at e; cases e; exact hc
  · rw [xset_ne _ _ z] at e; exact (hR q d e).kept (hq q (hR q d e).lt)
theorem x_R.fresh {D : xD} {U : State} {h : xH} {H : Heap} (hR : x_R D U h H) : h H.size = none := by
  cases e : h H.size with
  | none => rfl
  | some c => exact absurd (hR _ _ e).lt (Nat.lt_irrefl _)
/-- words -/
theorem xws_warm {args : Array Value} {s : State} (hts : ∀ w ∈ xws, w.before args s = true) : ∀ w ∈ xws, ∀ (a' : Array Value) (U : State), s.WarmedH U.vm → w.before a' U = true :=
  fun w hw a' U hW => xgood_warm (List.mem_filter.mp hw).2 hW (hts w hw)
/-- outcomes -/
def xout (o : xO) (oc : Outcome) : Prop := match o with
  | .inl v => oc = .returned v
  | .inr q => oc = .threw q.2
def xOe (o : xO) (h : xH) : Prop := match o with
  | .inl _ => True
  | .inr q => q.1 < 100 ∧ h q.2 = some (q.1, [])
def xQ (D : xD) (P : xO → xH → Prop) : State → Outcome → State → Prop := fun st oc t =>
  ∃ (o : xO) (h' : xH), xout o oc ∧ xOe o h' ∧ P o h' ∧ x_R D st h' t.heap ∧ (∀ q : Nat, q < D.sz → t.heap[q]? = st.heap[q]?) ∧ st.heap.size ≤ t.heap.size
def xFE (first t : State) (L : List Loc) (k n : Nat) : Prop := first.WarmedH t.vm ∧ first.sameButNew ({ t with vm := first.vm } : State) L k n
def xrm (d mc ms : Nat) : Room := { frames := d, cells := mc, slots := ms, locals := 30 * d + 130 }
/-- A CONTRACT at a start: method y with the arguments av over the abstract heap h, within mc cells of ms slots, ends so that P -/
def xMet (l : Launch) (D : xD) (d : Nat) (y : MethodName) (av : List Value) (h : xH) (mc ms : Nat) (P : xO → xH → Prop) : Prop :=
  MetFree l y (headSpec xws (xrm d mc ms)) (fun a U => a = av.toArray ∧ x_R D U h U.heap ∧ x_K D U ∧ x_E D U U.heap ∧ D.sz ≤ U.heap.size) (fun _ e _ _ _ => e.platform.stackTraces = false)
    (fun _ st oc t => xQ D P st oc t ∧ ∃ L, xFE st t L mc ms ∧ ∀ q ∈ L, D.sz ≤ q.base)
theorem xMet.mono {l : Launch} {D : xD} {d : Nat} {y : MethodName} {av : List Value} {h : xH} {mc ms : Nat} {P Q : xO → xH → Prop} (hM : xMet l D d y av h mc ms P) (hPQ : ∀ o h', P o h' → Q o h') : xMet l D d y av h mc ms Q := by
  intro p e ha hc hk s m args below hf happ hP hK
  obtain ⟨n, o, h1, h2, h3, ⟨o', h', q1, q2, q3, q4⟩, q5⟩ := hM p e ha hc hk s m args below hf happ hP hK
  exact ⟨n, o, h1, h2, h3, ⟨o', h', q1, q2, hPQ _ _ q3, q4⟩, q5⟩
/-! THE ABSTRACT MACHINE, 2: a walk's context, its judgement, tables of operations -/
abbrev xX : Type := Program × Launch × Env × Room × State × MethodId × Array Value × List Frame × Method × Code × xD × (xO → xH → Prop)
abbrev xX.p (X : xX) : Program := X.1
abbrev xX.l (X : xX) : Launch := X.2.1
abbrev xX.e (X : xX) : Env := X.2.2.1
abbrev xX.R (X : xX) : Room := X.2.2.2.1
abbrev xX.s (X : xX) : State := X.2.2.2.2.1
abbrev xX.m (X : xX) : MethodId := X.2.2.2.2.2.1
abbrev xX.args (X : xX) : Array Value := X.2.2.2.2.2.2.1
abbrev xX.below (X : xX) : List Frame := X.2.2.2.2.2.2.2.1
abbrev xX.meth (X : xX) : Method := X.2.2.2.2.2.2.2.2.1
abbrev xX.c (X : xX) : Code := X.2.2.2.2.2.2.2.2.2.1
abbrev xX.D (X : xX) : xD := X.2.2.2.2.2.2.2.2.2.2.1
abbrev xX.P (X : xX) : xO → xH → Prop := X.2.2.2.2.2.2.2.2.2.2.2
def xZ (X : xX) : State → Prop := fun t => ∃ oc, t.status = .running ∧ Ended t X.below oc ∧ xQ X.D X.P X.s oc t ∧ ∃ L, xFE X.s t L X.R.cells X.R.slots ∧ ∀ q ∈ L, X.D.sz ≤ q.base
abbrev xW (X : xX) (H : Heap) (locs : List Loc) (k n : Nat) (g : JFrame) : Prop := W X.p X.l X.e X.R X.s X.m X.args X.below X.meth X.c H locs k n (xZ X) g
abbrev xL : Type := List (Nat × Value)
abbrev xK : Type := xL → List Value → xH → Nat → Nat → Prop
abbrev xOp : Type := (Nat → xK) → xK
/-- at pc, with these locals, this stack, this heap, and room for rc cells of rs slots: the walk ends well -/
def xG (X : xX) (pc : Nat) : xK := fun ls st h rc rs =>
  ∀ (A : Array Slot) (H : Heap) (locs : List Loc) (k n : Nat), lv_has A X.c.maxLocals ls → x_R X.D X.s h H → x_S X.D X.s.heap H locs → k + rc ≤ X.R.cells → n + rs ≤ X.R.slots → xW X H locs k n (F0 X.m pc A st)
def xCx (X : xX) (cc : ByteArray) (own : String) (nL d : Nat) : Prop :=
  X.p.tables.exec = Jvm.exec ∧ X.c.code = cc ∧ X.c.maxLocals = nL ∧ X.s.vm.findClass own = some X.m.cls ∧ (∀ w ∈ xws, w.before X.args X.s = true) ∧ X.meth.locks = false ∧ x_K X.D X.s ∧ x_E X.D X.s X.s.heap ∧ X.D.sz ≤ X.s.heap.size ∧ X.e.platform.stackTraces = false ∧ d ≤ X.R.frames ∧ 30 * d + 130 ≤ X.R.locals
section XCX
variable {X : xX} {cc : ByteArray} {own : String} {nL d : Nat}
theorem xCx.x (h : xCx X cc own nL d) : X.p.tables.exec = Jvm.exec := h.1
theorem xCx.b (h : xCx X cc own nL d) : X.c.code = cc := h.2.1
theorem xCx.ml (h : xCx X cc own nL d) : X.c.maxLocals = nL := h.2.2.1
theorem xCx.ow (h : xCx X cc own nL d) : X.s.vm.findClass own = some X.m.cls := h.2.2.2.1
theorem xCx.ts (h : xCx X cc own nL d) : ∀ w ∈ xws, w.before X.args X.s = true := h.2.2.2.2.1
theorem xCx.lk (h : xCx X cc own nL d) : X.meth.locks = false := h.2.2.2.2.2.1
theorem xCx.K (h : xCx X cc own nL d) : x_K X.D X.s := h.2.2.2.2.2.2.1
theorem xCx.E (h : xCx X cc own nL d) : x_E X.D X.s X.s.heap := h.2.2.2.2.2.2.2.1
theorem xCx.z (h : xCx X cc own nL d) : X.D.sz ≤ X.s.heap.size := h.2.2.2.2.2.2.2.2.1
theorem xCx.tr (h : xCx X cc own nL d) : X.e.platform.stackTraces = false := h.2.2.2.2.2.2.2.2.2.1
theorem xCx.fr (h : xCx X cc own nL d) : d ≤ X.R.frames := h.2.2.2.2.2.2.2.2.2.2.1
theorem xCx.lo (h : xCx X cc own nL d) : 30 * d + 130 ≤ X.R.locals := h.2.2.2.2.2.2.2.2.2.2.2
end XCX
def xOk (X : xX) (pc : Nat) (o : xOp) : Prop := ∀ K : Nat → xK, (∀ q ls st h rc rs, K q ls st h rc rs → xG X q ls st h rc rs) → ∀ ls st h rc rs, o K ls st h rc rs → xG X pc ls st h rc rs
def xAll (X : xX) : List (Nat × xOp) → Prop
  | [] => True
  | q :: t => xOk X q.1 q.2 ∧ xAll X t
def xlk : List (Nat × xOp) → Nat → xOp
  | [], _ => fun _ _ _ _ _ _ => False
  | q :: t, pc => cond (Nat.beq q.1 pc) q.2 (xlk t pc)
def xrun (X : xX) (tb : List (Nat × xOp)) (cut : List Nat) (n : Nat) : Nat → xK :=
  Nat.rec (fun pc => xG X pc) (fun _ ih pc => cond (cut.any (Nat.beq pc)) (xG X pc) (xlk tb pc ih)) n
theorem xlk_ok {X : xX} : ∀ {tb : List (Nat × xOp)}, xAll X tb → ∀ pc, xOk X pc (xlk tb pc)
  | [], _, _ => fun _ _ _ _ _ _ _ h => h.elim
  | q :: t, h, pc => by
    unfold xlk
    cases e : Nat.beq q.1 pc with
    | true =>
      have e1 : q.1 = pc := Nat.eq_of_beq_eq_true e
      subst e1
      exact h.1
    | false => exact xlk_ok h.2 pc
theorem xrun_ok {X : xX} {tb : List (Nat × xOp)} {cut : List Nat} (hA : xAll X tb) : ∀ (n pc : Nat) ls st h rc rs, xrun X tb cut n pc ls st h rc rs → xG X pc ls st h rc rs := by
  intro n
  induction n with
  | zero => intro pc ls st h rc rs q; exact q
  | succ n ih =>
    intro pc ls st h rc rs q
    change (cond (cut.any (Nat.beq pc)) (xG X pc) (xlk tb pc (xrun X tb cut n))) ls st h rc rs at q
    cases e : cut.any (Nat.beq pc) with
    | true => rw [e] at q; exact q
    | false => rw [e] at q; exact xlk_ok hA pc _ ih _ _ _ _ _ q
theorem xgo {X : xX} {tb : List (Nat × xOp)} (cut : List Nat) (n : Nat) (hA : xAll X tb) {pc : Nat} {ls : xL} {st : List Value} {h : xH} {rc rs : Nat} (q : xlk tb pc (xrun X tb cut n) ls st h rc rs) : xG X pc ls st h rc rs :=
  xlk_ok hA pc _ (xrun_ok hA n) _ _ _ _ _ q
/-- an induction on a measure -/
theorem xind {σ : Type} (P I : σ → Prop) (μ : σ → Nat) (hs : ∀ s, I s → (∀ s', I s' → μ s' < μ s → P s') → P s) : ∀ s, I s → P s := by
  have H : ∀ n s, μ s < n → I s → P s := by
    intro n
    induction n with
    | zero => intro s h; exact absurd h (Nat.not_lt_zero _)
    | succ n ih => intro s h hi; exact hs s hi (fun s' h1 h2 => ih s' (by omega) h1)
  exact fun s hi => H (μ s + 1) s (Nat.lt_succ_self _) hi
/-- less room will do -/
theorem xG.room {X : xX} {pc : Nat} {ls : xL} {st : List Value} {h : xH} {rc rs rc' rs' : Nat} (hG : xG X pc ls st h rc' rs') (h1 : rc' ≤ rc) (h2 : rs' ≤ rs) : xG X pc ls st h rc rs :=
  fun A H locs k n a b c d e => hG A H locs k n a b c (by omega) (by omega)
/-- fewer locals will do -/
theorem xG.locs {X : xX} {pc : Nat} {ls ls' : xL} {st : List Value} {h : xH} {rc rs : Nat} (hG : xG X pc ls' st h rc rs) (hl : ∀ q ∈ ls', q ∈ ls) : xG X pc ls st h rc rs :=
  fun A H locs k n a => hG A H locs k n ⟨a.1, a.2.1, fun q hq => a.2.2 q (hl q hq)⟩
def xget : xL → Nat → Option Value
  | [], _ => none
  | q :: t, i => cond (Nat.beq q.1 i) (some q.2) (xget t i)
theorem xget_mem : ∀ {ls : xL} {i : Nat} {v : Value}, xget ls i = some v → (i, v) ∈ ls
  | [], _, _, h => by cases h
  | q :: t, i, v, h => by
    unfold xget at h
    cases e : Nat.beq q.1 i with
    | true =>
      rw [e] at h
      have e1 : q.1 = i := Nat.eq_of_beq_eq_true e
      subst e1
      cases h
      exact List.mem_cons_self
    | false => rw [e] at h; exact List.mem_cons_of_mem _ (xget_mem h)
theorem xget_at {A : Array Slot} {nL : Nat} {ls : xL} (hl : lv_has A nL ls) {i : Nat} {v : Value} (h : xget ls i = some v) : A[i]? = some (.val v) := hl.2.2 (i, v) (xget_mem h)
def xfo {α : Type} : List α → (List α → Prop) → Prop
  | [], k => k []
  | a :: t, k => xfo t (fun t' => k (a :: t'))
theorem xfo_iff {α : Type} : ∀ (l : List α) (k : List α → Prop), xfo l k ↔ k l
  | [], _ => Iff.rfl
  | a :: t, k => xfo_iff t (fun t' => k (a :: t'))
abbrev xput1 (ls : xL) (i : Nat) (v : Value) : xL := (i, v) :: ls.filter (fun q => !(q.1 == i) && !(q.1 + 1 == i && q.2.category == 2))
abbrev xput2 (ls : xL) (i : Nat) (v : Value) : xL := (i, v) :: ls.filter (fun q => !(q.1 == i) && (!(q.1 == i + 1) && !(q.1 + 1 == i && q.2.category == 2)))
end
section
/-! THE ABSTRACT MACHINE, 3: the operations that touch no heap -/
section XOPS
variable {X : xX} {cc : ByteArray} {own : String} {nL d pc : Nat}
def o_ic (v : Int32) (n : Nat) : xOp := fun K ls st h rc rs => K n ls (.int v :: st) h rc rs
def o_lc (v : Int64) (n : Nat) : xOp := fun K ls st h rc rs => K n ls (.long v :: st) h rc rs
def o_null (n : Nat) : xOp := fun K ls st h rc rs => K n ls (.null :: st) h rc rs
theorem ok_iconst (hC : xCx X cc own nL d) {i : Int} {v : Int32} (hd : decode cc pc = .ok (.iconst i, 1)) (hv : Int32.ofInt i = v) : xOk X pc (o_ic v (pc + 1)) := by
  intro K hK ls st h rc rs ho A H locs k n h1 h2 h3 h4 h5
  exact lv_iconst hC.x hC.b hd hv (hK _ _ _ _ _ _ ho A H locs k n h1 h2 h3 h4 h5)
theorem ok_bipush (hC : xCx X cc own nL d) {i : Int} {v : Int32} (hd : decode cc pc = .ok (.bipush i, 2)) (hv : (Int8.ofInt i).toInt32 = v) : xOk X pc (o_ic v (pc + 2)) := by
  intro K hK ls st h rc rs ho A H locs k n h1 h2 h3 h4 h5
  exact lv_bipush hC.x hC.b hd hv (hK _ _ _ _ _ _ ho A H locs k n h1 h2 h3 h4 h5)
theorem ok_sipush (hC : xCx X cc own nL d) {i : Int} {v : Int32} (hd : decode cc pc = .ok (.sipush i, 3)) (hv : (Int16.ofInt i).toInt32 = v) : xOk X pc (o_ic v (pc + 3)) := by
  intro K hK ls st h rc rs ho A H locs k n h1 h2 h3 h4 h5
  exact lv_sipush hC.x hC.b hd hv (hK _ _ _ _ _ _ ho A H locs k n h1 h2 h3 h4 h5)
theorem ok_ldc (hC : xCx X cc own nL d) {i : Nat} {v : Int32} (hd : decode cc pc = .ok (.ldc i, 2)) (hw : Cond.constant own i v ∈ xws) : xOk X pc (o_ic v (pc + 2)) := by
  intro K hK ls st h rc rs ho A H locs k n h1 h2 h3 h4 h5
  exact lv_ldc hC.x hC.b hC.ow (hC.ts _ hw) hd (hK _ _ _ _ _ _ ho A H locs k n h1 h2 h3 h4 h5)
theorem ok_ldcw (hC : xCx X cc own nL d) {i : Nat} {v : Int32} (hd : decode cc pc = .ok (.ldc_w i, 3)) (hw : Cond.constant own i v ∈ xws) : xOk X pc (o_ic v (pc + 3)) := by
  intro K hK ls st h rc rs ho A H locs k n h1 h2 h3 h4 h5
  exact lv_ldcw hC.x hC.b hC.ow (hC.ts _ hw) hd (hK _ _ _ _ _ _ ho A H locs k n h1 h2 h3 h4 h5)
theorem ok_lconst (hC : xCx X cc own nL d) {i : Fin 2} {v : Int64} (hd : decode cc pc = .ok (.lconst i, 1)) (hv : Int64.ofNat (i : Nat) = v) : xOk X pc (o_lc v (pc + 1)) := by
  intro K hK ls st h rc rs ho A H locs k n h1 h2 h3 h4 h5
  exact lv_lconst hC.x hC.b hd hv (hK _ _ _ _ _ _ ho A H locs k n h1 h2 h3 h4 h5)
theorem ok_ldc2 (hC : xCx X cc own nL d) {i : Nat} {v : Int64} (hd : decode cc pc = .ok (.ldc2_w i, 3)) (hw : Cond.constantLong own i v ∈ xws) : xOk X pc (o_lc v (pc + 3)) := by
  intro K hK ls st h rc rs ho A H locs k n h1 h2 h3 h4 h5
  exact lv_ldc2 hC.x hC.b hC.ow (hC.ts _ hw) hd (hK _ _ _ _ _ _ ho A H locs k n h1 h2 h3 h4 h5)
theorem ok_null (hC : xCx X cc own nL d) (hd : decode cc pc = .ok (.aconst_null, 1)) : xOk X pc (o_null (pc + 1)) := by
  intro K hK ls st h rc rs ho A H locs k n h1 h2 h3 h4 h5
  exact lv_null hC.x hC.b hd (hK _ _ _ _ _ _ ho A H locs k n h1 h2 h3 h4 h5)
def o_ild (i n : Nat) : xOp := fun K ls st h rc rs => match xget ls i with
  | some (.int x) => K n ls (.int x :: st) h rc rs
  | _ => False
def o_lld (i n : Nat) : xOp := fun K ls st h rc rs => match xget ls i with
  | some (.long x) => K n ls (.long x :: st) h rc rs
  | _ => False
def o_ald (i n : Nat) : xOp := fun K ls st h rc rs => match xget ls i with
  | some (.ref x) => K n ls (.ref x :: st) h rc rs
  | some .null => K n ls (.null :: st) h rc rs
  | _ => False
theorem ok_iload (hC : xCx X cc own nL d) {i : Nat} (hd : decode cc pc = .ok (.iload i, 2)) : xOk X pc (o_ild i (pc + 2)) := by
  intro K hK ls st h rc rs ho A H locs k n h1 h2 h3 h4 h5
  unfold o_ild at ho
  split at ho
  · rename_i e
    exact lv_iload hC.x hC.b hd (xget_at h1 e) (hK _ _ _ _ _ _ ho A H locs k n h1 h2 h3 h4 h5)
  · exact ho.elim
theorem ok_iload_n (hC : xCx X cc own nL d) {j : Fin 4} {i : Nat} (hd : decode cc pc = .ok (.iload_n j, 1)) (hi : (j : Nat) = i) : xOk X pc (o_ild i (pc + 1)) := by
  intro K hK ls st h rc rs ho A H locs k n h1 h2 h3 h4 h5
  unfold o_ild at ho
  split at ho
  · rename_i e
    exact lv_iload_n hC.x hC.b hd hi (xget_at h1 e) (hK _ _ _ _ _ _ ho A H locs k n h1 h2 h3 h4 h5)
  · exact ho.elim
theorem ok_lload (hC : xCx X cc own nL d) {i : Nat} (hd : decode cc pc = .ok (.lload i, 2)) : xOk X pc (o_lld i (pc + 2)) := by
  intro K hK ls st h rc rs ho A H locs k n h1 h2 h3 h4 h5
  unfold o_lld at ho
  split at ho
  · rename_i e
    exact lv_lload hC.x hC.b hd (xget_at h1 e) (hK _ _ _ _ _ _ ho A H locs k n h1 h2 h3 h4 h5)
  · exact ho.elim
theorem ok_lload_n (hC : xCx X cc own nL d) {j : Fin 4} {i : Nat} (hd : decode cc pc = .ok (.lload_n j, 1)) (hi : (j : Nat) = i) : xOk X pc (o_lld i (pc + 1)) := by
  intro K hK ls st h rc rs ho A H locs k n h1 h2 h3 h4 h5
  unfold o_lld at ho
  split at ho
  · rename_i e
    exact lv_lload_n hC.x hC.b hd hi (xget_at h1 e) (hK _ _ _ _ _ _ ho A H locs k n h1 h2 h3 h4 h5)
  · exact ho.elim
theorem ok_aload (hC : xCx X cc own nL d) {i : Nat} (hd : decode cc pc = .ok (.aload i, 2)) : xOk X pc (o_ald i (pc + 2)) := by
  intro K hK ls st h rc rs ho A H locs k n h1 h2 h3 h4 h5
  unfold o_ald at ho
  split at ho
  · rename_i e
    exact lv_aload hC.x hC.b hd (xget_at h1 e) (hK _ _ _ _ _ _ ho A H locs k n h1 h2 h3 h4 h5)
  · rename_i e
    exact lv_aloadN hC.x hC.b hd (xget_at h1 e) (hK _ _ _ _ _ _ ho A H locs k n h1 h2 h3 h4 h5)
  · exact ho.elim
theorem ok_aload_n (hC : xCx X cc own nL d) {j : Fin 4} {i : Nat} (hd : decode cc pc = .ok (.aload_n j, 1)) (hi : (j : Nat) = i) : xOk X pc (o_ald i (pc + 1)) := by
  intro K hK ls st h rc rs ho A H locs k n h1 h2 h3 h4 h5
  unfold o_ald at ho
  split at ho
  · rename_i e
    exact lv_aload_n hC.x hC.b hd hi (xget_at h1 e) (hK _ _ _ _ _ _ ho A H locs k n h1 h2 h3 h4 h5)
  · rename_i e
    exact lv_aload_nN hC.x hC.b hd hi (xget_at h1 e) (hK _ _ _ _ _ _ ho A H locs k n h1 h2 h3 h4 h5)
  · exact ho.elim
def o_ist (i n : Nat) : xOp := fun K ls st h rc rs => match st with
  | .int x :: r => xfo (xput1 ls i (.int x)) (fun l => K n l r h rc rs)
  | _ => False
def o_lst (i n : Nat) : xOp := fun K ls st h rc rs => match st with
  | .long x :: r => xfo (xput2 ls i (.long x)) (fun l => K n l r h rc rs)
  | _ => False
def o_ast (i n : Nat) : xOp := fun K ls st h rc rs => match st with
  | .ref x :: r => xfo (xput1 ls i (.ref x)) (fun l => K n l r h rc rs)
  | .null :: r => xfo (xput1 ls i .null) (fun l => K n l r h rc rs)
  | _ => False
theorem ok_istore (hC : xCx X cc own nL d) {i : Nat} (hd : decode cc pc = .ok (.istore i, 2)) (hn : i < nL) : xOk X pc (o_ist i (pc + 2)) := by
  intro K hK ls st h rc rs ho A H locs k n h1 h2 h3 h4 h5
  unfold o_ist at ho
  split at ho
  · rw [xfo_iff] at ho
    exact lv_istore hC.x hC.b hd h1 (by rw [hC.ml]; exact hn) rfl (fun A' h1' => hK _ _ _ _ _ _ ho A' H locs k n h1' h2 h3 h4 h5)
  · exact ho.elim
theorem ok_istore_n (hC : xCx X cc own nL d) {j : Fin 4} {i : Nat} (hd : decode cc pc = .ok (.istore_n j, 1)) (hi : (j : Nat) = i) (hn : i < nL) : xOk X pc (o_ist i (pc + 1)) := by
  intro K hK ls st h rc rs ho A H locs k n h1 h2 h3 h4 h5
  unfold o_ist at ho
  split at ho
  · rw [xfo_iff] at ho
    exact lv_istore_n hC.x hC.b hd hi h1 (by rw [hC.ml]; exact hn) rfl (fun A' h1' => hK _ _ _ _ _ _ ho A' H locs k n h1' h2 h3 h4 h5)
  · exact ho.elim
theorem ok_lstore (hC : xCx X cc own nL d) {i : Nat} (hd : decode cc pc = .ok (.lstore i, 2)) (hn : i + 1 < nL) : xOk X pc (o_lst i (pc + 2)) := by
  intro K hK ls st h rc rs ho A H locs k n h1 h2 h3 h4 h5
  unfold o_lst at ho
  split at ho
  · rw [xfo_iff] at ho
    exact lv_lstore hC.x hC.b hd h1 (by rw [hC.ml]; exact hn) rfl (fun A' h1' => hK _ _ _ _ _ _ ho A' H locs k n h1' h2 h3 h4 h5)
  · exact ho.elim
theorem ok_lstore_n (hC : xCx X cc own nL d) {j : Fin 4} {i : Nat} (hd : decode cc pc = .ok (.lstore_n j, 1)) (hi : (j : Nat) = i) (hn : i + 1 < nL) : xOk X pc (o_lst i (pc + 1)) := by
  intro K hK ls st h rc rs ho A H locs k n h1 h2 h3 h4 h5
  unfold o_lst at ho
  split at ho
  · rw [xfo_iff] at ho
    exact lv_lstore_n hC.x hC.b hd hi h1 (by rw [hC.ml]; exact hn) rfl (fun A' h1' => hK _ _ _ _ _ _ ho A' H locs k n h1' h2 h3 h4 h5)
  · exact ho.elim
theorem ok_astore (hC : xCx X cc own nL d) {i : Nat} (hd : decode cc pc = .ok (.astore i, 2)) (hn : i < nL) : xOk X pc (o_ast i (pc + 2)) := by
  intro K hK ls st h rc rs ho A H locs k n h1 h2 h3 h4 h5
  unfold o_ast at ho
  split at ho
  · rw [xfo_iff] at ho
    exact lv_astore hC.x hC.b hd h1 (by rw [hC.ml]; exact hn) rfl (fun A' h1' => hK _ _ _ _ _ _ ho A' H locs k n h1' h2 h3 h4 h5)
  · rw [xfo_iff] at ho
    exact lv_astoreN hC.x hC.b hd h1 (by rw [hC.ml]; exact hn) rfl (fun A' h1' => hK _ _ _ _ _ _ ho A' H locs k n h1' h2 h3 h4 h5)
  · exact ho.elim
theorem ok_astore_n (hC : xCx X cc own nL d) {j : Fin 4} {i : Nat} (hd : decode cc pc = .ok (.astore_n j, 1)) (hi : (j : Nat) = i) (hn : i < nL) : xOk X pc (o_ast i (pc + 1)) := by
  intro K hK ls st h rc rs ho A H locs k n h1 h2 h3 h4 h5
  unfold o_ast at ho
  split at ho
  · rw [xfo_iff] at ho
    exact lv_astore_n hC.x hC.b hd hi h1 (by rw [hC.ml]; exact hn) rfl (fun A' h1' => hK _ _ _ _ _ _ ho A' H locs k n h1' h2 h3 h4 h5)
  · rw [xfo_iff] at ho
    exact lv_astore_nN hC.x hC.b hd hi h1 (by rw [hC.ml]; exact hn) rfl (fun A' h1' => hK _ _ _ _ _ _ ho A' H locs k n h1' h2 h3 h4 h5)
  · exact ho.elim
def o_inc (i : Nat) (v : Int32) (n : Nat) : xOp := fun K ls st h rc rs => match xget ls i with
  | some (.int x) => xfo (xput1 ls i (.int (x + v))) (fun l => K n l st h rc rs)
  | _ => False
theorem ok_iinc (hC : xCx X cc own nL d) {i : Nat} {z : Int} {v : Int32} (hd : decode cc pc = .ok (.iinc i z, 3)) (hv : Int32.ofInt z = v) (hn : i < nL) : xOk X pc (o_inc i v (pc + 3)) := by
  intro K hK ls st h rc rs ho A H locs k n h1 h2 h3 h4 h5
  unfold o_inc at ho
  split at ho
  · rename_i e
    rw [xfo_iff] at ho
    obtain ⟨j, hj⟩ := List.getElem?_of_mem (xget_mem e)
    exact lv_iinc hC.x hC.b hd h1 hj (by rw [hv]) (by rw [hC.ml]; exact hn) rfl (fun A' h1' => hK _ _ _ _ _ _ ho A' H locs k n h1' h2 h3 h4 h5)
  · exact ho.elim
def o_iadd (n : Nat) : xOp := fun K ls st h rc rs => match st with
  | .int y :: .int x :: r => K n ls (.int (x + y) :: r) h rc rs
  | _ => False
theorem ok_iadd (hC : xCx X cc own nL d) (hd : decode cc pc = .ok (.iadd, 1)) : xOk X pc (o_iadd (pc + 1)) := by
  intro K hK ls st h rc rs ho A H locs k n h1 h2 h3 h4 h5
  unfold o_iadd at ho
  split at ho
  · exact lv_iadd hC.x hC.b hd (hK _ _ _ _ _ _ ho A H locs k n h1 h2 h3 h4 h5)
  · exact ho.elim
def o_isub (n : Nat) : xOp := fun K ls st h rc rs => match st with
  | .int y :: .int x :: r => K n ls (.int (x - y) :: r) h rc rs
  | _ => False
theorem ok_isub (hC : xCx X cc own nL d) (hd : decode cc pc = .ok (.isub, 1)) : xOk X pc (o_isub (pc + 1)) := by
  intro K hK ls st h rc rs ho A H locs k n h1 h2 h3 h4 h5
  unfold o_isub at ho
  split at ho
  · exact lv_isub hC.x hC.b hd (hK _ _ _ _ _ _ ho A H locs k n h1 h2 h3 h4 h5)
  · exact ho.elim
def o_imul (n : Nat) : xOp := fun K ls st h rc rs => match st with
  | .int y :: .int x :: r => K n ls (.int (x * y) :: r) h rc rs
  | _ => False
theorem ok_imul (hC : xCx X cc own nL d) (hd : decode cc pc = .ok (.imul, 1)) : xOk X pc (o_imul (pc + 1)) := by
  intro K hK ls st h rc rs ho A H locs k n h1 h2 h3 h4 h5
  unfold o_imul at ho
  split at ho
  · exact lv_imul hC.x hC.b hd (hK _ _ _ _ _ _ ho A H locs k n h1 h2 h3 h4 h5)
  · exact ho.elim
def o_iand (n : Nat) : xOp := fun K ls st h rc rs => match st with
  | .int y :: .int x :: r => K n ls (.int (x &&& y) :: r) h rc rs
  | _ => False
theorem ok_iand (hC : xCx X cc own nL d) (hd : decode cc pc = .ok (.iand, 1)) : xOk X pc (o_iand (pc + 1)) := by
  intro K hK ls st h rc rs ho A H locs k n h1 h2 h3 h4 h5
  unfold o_iand at ho
  split at ho
  · exact lv_iand hC.x hC.b hd (hK _ _ _ _ _ _ ho A H locs k n h1 h2 h3 h4 h5)
  · exact ho.elim
def o_ior (n : Nat) : xOp := fun K ls st h rc rs => match st with
  | .int y :: .int x :: r => K n ls (.int (x ||| y) :: r) h rc rs
  | _ => False
theorem ok_ior (hC : xCx X cc own nL d) (hd : decode cc pc = .ok (.ior, 1)) : xOk X pc (o_ior (pc + 1)) := by
  intro K hK ls st h rc rs ho A H locs k n h1 h2 h3 h4 h5
  unfold o_ior at ho
  split at ho
  · exact lv_ior hC.x hC.b hd (hK _ _ _ _ _ _ ho A H locs k n h1 h2 h3 h4 h5)
  · exact ho.elim
def o_ixor (n : Nat) : xOp := fun K ls st h rc rs => match st with
  | .int y :: .int x :: r => K n ls (.int (x ^^^ y) :: r) h rc rs
  | _ => False
theorem ok_ixor (hC : xCx X cc own nL d) (hd : decode cc pc = .ok (.ixor, 1)) : xOk X pc (o_ixor (pc + 1)) := by
  intro K hK ls st h rc rs ho A H locs k n h1 h2 h3 h4 h5
  unfold o_ixor at ho
  split at ho
  · exact lv_ixor hC.x hC.b hd (hK _ _ _ _ _ _ ho A H locs k n h1 h2 h3 h4 h5)
  · exact ho.elim
def o_ishl (n : Nat) : xOp := fun K ls st h rc rs => match st with
  | .int y :: .int x :: r => K n ls (.int (x <<< (y &&& 31)) :: r) h rc rs
  | _ => False
theorem ok_ishl (hC : xCx X cc own nL d) (hd : decode cc pc = .ok (.ishl, 1)) : xOk X pc (o_ishl (pc + 1)) := by
  intro K hK ls st h rc rs ho A H locs k n h1 h2 h3 h4 h5
  unfold o_ishl at ho
  split at ho
  · exact lv_ishl hC.x hC.b hd (hK _ _ _ _ _ _ ho A H locs k n h1 h2 h3 h4 h5)
  · exact ho.elim
def o_ishr (n : Nat) : xOp := fun K ls st h rc rs => match st with
  | .int y :: .int x :: r => K n ls (.int (x >>> (y &&& 31)) :: r) h rc rs
  | _ => False
theorem ok_ishr (hC : xCx X cc own nL d) (hd : decode cc pc = .ok (.ishr, 1)) : xOk X pc (o_ishr (pc + 1)) := by
  intro K hK ls st h rc rs ho A H locs k n h1 h2 h3 h4 h5
  unfold o_ishr at ho
  split at ho
  · exact lv_ishr hC.x hC.b hd (hK _ _ _ _ _ _ ho A H locs k n h1 h2 h3 h4 h5)
  · exact ho.elim
def o_iushr (n : Nat) : xOp := fun K ls st h rc rs => match st with
  | .int y :: .int x :: r => K n ls (.int ((x.toUInt32 >>> (y.toUInt32 &&& Int32.toUInt32 31)).toInt32) :: r) h rc rs
  | _ => False
theorem ok_iushr (hC : xCx X cc own nL d) (hd : decode cc pc = .ok (.iushr, 1)) : xOk X pc (o_iushr (pc + 1)) := by
  intro K hK ls st h rc rs ho A H locs k n h1 h2 h3 h4 h5
  unfold o_iushr at ho
  split at ho
  · exact lv_iushr hC.x hC.b hd rfl (hK _ _ _ _ _ _ ho A H locs k n h1 h2 h3 h4 h5)
  · exact ho.elim
def o_idiv (n : Nat) : xOp := fun K ls st h rc rs => match st with
  | .int y :: .int x :: r => ¬ y = 0 ∧ K n ls (.int (x / y) :: r) h rc rs
  | _ => False
theorem ok_idiv (hC : xCx X cc own nL d) (hd : decode cc pc = .ok (.idiv, 1)) : xOk X pc (o_idiv (pc + 1)) := by
  intro K hK ls st h rc rs ho A H locs k n h1 h2 h3 h4 h5
  unfold o_idiv at ho
  split at ho
  · exact lv_idiv hC.x hC.b hd ho.1 (hK _ _ _ _ _ _ ho.2 A H locs k n h1 h2 h3 h4 h5)
  · exact ho.elim
def o_irem (n : Nat) : xOp := fun K ls st h rc rs => match st with
  | .int y :: .int x :: r => ¬ y = 0 ∧ K n ls (.int (x - x / y * y) :: r) h rc rs
  | _ => False
theorem ok_irem (hC : xCx X cc own nL d) (hd : decode cc pc = .ok (.irem, 1)) : xOk X pc (o_irem (pc + 1)) := by
  intro K hK ls st h rc rs ho A H locs k n h1 h2 h3 h4 h5
  unfold o_irem at ho
  split at ho
  · exact lv_irem hC.x hC.b hd ho.1 (hK _ _ _ _ _ _ ho.2 A H locs k n h1 h2 h3 h4 h5)
  · exact ho.elim
def o_ladd (n : Nat) : xOp := fun K ls st h rc rs => match st with
  | .long y :: .long x :: r => K n ls (.long (x + y) :: r) h rc rs
  | _ => False
theorem ok_ladd (hC : xCx X cc own nL d) (hd : decode cc pc = .ok (.ladd, 1)) : xOk X pc (o_ladd (pc + 1)) := by
  intro K hK ls st h rc rs ho A H locs k n h1 h2 h3 h4 h5
  unfold o_ladd at ho
  split at ho
  · exact lv_ladd hC.x hC.b hd (hK _ _ _ _ _ _ ho A H locs k n h1 h2 h3 h4 h5)
  · exact ho.elim
def o_lsub (n : Nat) : xOp := fun K ls st h rc rs => match st with
  | .long y :: .long x :: r => K n ls (.long (x - y) :: r) h rc rs
  | _ => False
theorem ok_lsub (hC : xCx X cc own nL d) (hd : decode cc pc = .ok (.lsub, 1)) : xOk X pc (o_lsub (pc + 1)) := by
  intro K hK ls st h rc rs ho A H locs k n h1 h2 h3 h4 h5
  unfold o_lsub at ho
  split at ho
  · exact lv_lsub hC.x hC.b hd (hK _ _ _ _ _ _ ho A H locs k n h1 h2 h3 h4 h5)
  · exact ho.elim
def o_lmul (n : Nat) : xOp := fun K ls st h rc rs => match st with
  | .long y :: .long x :: r => K n ls (.long (x * y) :: r) h rc rs
  | _ => False
theorem ok_lmul (hC : xCx X cc own nL d) (hd : decode cc pc = .ok (.lmul, 1)) : xOk X pc (o_lmul (pc + 1)) := by
  intro K hK ls st h rc rs ho A H locs k n h1 h2 h3 h4 h5
  unfold o_lmul at ho
  split at ho
  · exact lv_lmul hC.x hC.b hd (hK _ _ _ _ _ _ ho A H locs k n h1 h2 h3 h4 h5)
  · exact ho.elim
def o_land (n : Nat) : xOp := fun K ls st h rc rs => match st with
  | .long y :: .long x :: r => K n ls (.long (x &&& y) :: r) h rc rs
  | _ => False
theorem ok_land (hC : xCx X cc own nL d) (hd : decode cc pc = .ok (.land, 1)) : xOk X pc (o_land (pc + 1)) := by
  intro K hK ls st h rc rs ho A H locs k n h1 h2 h3 h4 h5
  unfold o_land at ho
  split at ho
  · exact lv_land hC.x hC.b hd (hK _ _ _ _ _ _ ho A H locs k n h1 h2 h3 h4 h5)
  · exact ho.elim
def o_lor (n : Nat) : xOp := fun K ls st h rc rs => match st with
  | .long y :: .long x :: r => K n ls (.long (x ||| y) :: r) h rc rs
  | _ => False
theorem ok_lor (hC : xCx X cc own nL d) (hd : decode cc pc = .ok (.lor, 1)) : xOk X pc (o_lor (pc + 1)) := by
  intro K hK ls st h rc rs ho A H locs k n h1 h2 h3 h4 h5
  unfold o_lor at ho
  split at ho
  · exact lv_lor hC.x hC.b hd (hK _ _ _ _ _ _ ho A H locs k n h1 h2 h3 h4 h5)
  · exact ho.elim
def o_lxor (n : Nat) : xOp := fun K ls st h rc rs => match st with
  | .long y :: .long x :: r => K n ls (.long (x ^^^ y) :: r) h rc rs
  | _ => False
theorem ok_lxor (hC : xCx X cc own nL d) (hd : decode cc pc = .ok (.lxor, 1)) : xOk X pc (o_lxor (pc + 1)) := by
  intro K hK ls st h rc rs ho A H locs k n h1 h2 h3 h4 h5
  unfold o_lxor at ho
  split at ho
  · exact lv_lxor hC.x hC.b hd (hK _ _ _ _ _ _ ho A H locs k n h1 h2 h3 h4 h5)
  · exact ho.elim
def o_ldiv (n : Nat) : xOp := fun K ls st h rc rs => match st with
  | .long y :: .long x :: r => ¬ y = 0 ∧ K n ls (.long (x / y) :: r) h rc rs
  | _ => False
theorem ok_ldiv (hC : xCx X cc own nL d) (hd : decode cc pc = .ok (.ldiv, 1)) : xOk X pc (o_ldiv (pc + 1)) := by
  intro K hK ls st h rc rs ho A H locs k n h1 h2 h3 h4 h5
  unfold o_ldiv at ho
  split at ho
  · exact lv_ldiv hC.x hC.b hd ho.1 (hK _ _ _ _ _ _ ho.2 A H locs k n h1 h2 h3 h4 h5)
  · exact ho.elim
def o_lrem (n : Nat) : xOp := fun K ls st h rc rs => match st with
  | .long y :: .long x :: r => ¬ y = 0 ∧ K n ls (.long (x - x / y * y) :: r) h rc rs
  | _ => False
theorem ok_lrem (hC : xCx X cc own nL d) (hd : decode cc pc = .ok (.lrem, 1)) : xOk X pc (o_lrem (pc + 1)) := by
  intro K hK ls st h rc rs ho A H locs k n h1 h2 h3 h4 h5
  unfold o_lrem at ho
  split at ho
  · exact lv_lrem hC.x hC.b hd ho.1 (hK _ _ _ _ _ _ ho.2 A H locs k n h1 h2 h3 h4 h5)
  · exact ho.elim
def o_lshl (n : Nat) : xOp := fun K ls st h rc rs => match st with
  | .int y :: .long x :: r => K n ls (.long (x <<< (y.toInt64 &&& 63)) :: r) h rc rs
  | _ => False
theorem ok_lshl (hC : xCx X cc own nL d) (hd : decode cc pc = .ok (.lshl, 1)) : xOk X pc (o_lshl (pc + 1)) := by
  intro K hK ls st h rc rs ho A H locs k n h1 h2 h3 h4 h5
  unfold o_lshl at ho
  split at ho
  · exact lv_lshl hC.x hC.b hd rfl (hK _ _ _ _ _ _ ho A H locs k n h1 h2 h3 h4 h5)
  · exact ho.elim
def o_lcmp (n : Nat) : xOp := fun K ls st h rc rs => match st with
  | .long y :: .long x :: r => K n ls (.int (lg_cmp x y) :: r) h rc rs
  | _ => False
theorem ok_lcmp (hC : xCx X cc own nL d) (hd : decode cc pc = .ok (.lcmp, 1)) : xOk X pc (o_lcmp (pc + 1)) := by
  intro K hK ls st h rc rs ho A H locs k n h1 h2 h3 h4 h5
  unfold o_lcmp at ho
  split at ho
  · exact W.lcmp hC.x hC.b hd (hK _ _ _ _ _ _ ho A H locs k n h1 h2 h3 h4 h5)
  · exact ho.elim
def o_ineg (n : Nat) : xOp := fun K ls st h rc rs => match st with
  | .int x :: r => K n ls (.int (-x) :: r) h rc rs
  | _ => False
theorem ok_ineg (hC : xCx X cc own nL d) (hd : decode cc pc = .ok (.ineg, 1)) : xOk X pc (o_ineg (pc + 1)) := by
  intro K hK ls st h rc rs ho A H locs k n h1 h2 h3 h4 h5
  unfold o_ineg at ho
  split at ho
  · exact lv_ineg hC.x hC.b hd (hK _ _ _ _ _ _ ho A H locs k n h1 h2 h3 h4 h5)
  · exact ho.elim
def o_i2l (n : Nat) : xOp := fun K ls st h rc rs => match st with
  | .int x :: r => K n ls (.long x.toInt64 :: r) h rc rs
  | _ => False
theorem ok_i2l (hC : xCx X cc own nL d) (hd : decode cc pc = .ok (.i2l, 1)) : xOk X pc (o_i2l (pc + 1)) := by
  intro K hK ls st h rc rs ho A H locs k n h1 h2 h3 h4 h5
  unfold o_i2l at ho
  split at ho
  · exact lv_i2l hC.x hC.b hd rfl (hK _ _ _ _ _ _ ho A H locs k n h1 h2 h3 h4 h5)
  · exact ho.elim
def o_l2i (n : Nat) : xOp := fun K ls st h rc rs => match st with
  | .long x :: r => K n ls (.int x.toInt32 :: r) h rc rs
  | _ => False
theorem ok_l2i (hC : xCx X cc own nL d) (hd : decode cc pc = .ok (.l2i, 1)) : xOk X pc (o_l2i (pc + 1)) := by
  intro K hK ls st h rc rs ho A H locs k n h1 h2 h3 h4 h5
  unfold o_l2i at ho
  split at ho
  · exact lv_l2i hC.x hC.b hd rfl (hK _ _ _ _ _ _ ho A H locs k n h1 h2 h3 h4 h5)
  · exact ho.elim
def o_i2b (n : Nat) : xOp := fun K ls st h rc rs => match st with
  | .int x :: r => K n ls (.int x.toInt8.toInt32 :: r) h rc rs
  | _ => False
theorem ok_i2b (hC : xCx X cc own nL d) (hd : decode cc pc = .ok (.i2b, 1)) : xOk X pc (o_i2b (pc + 1)) := by
  intro K hK ls st h rc rs ho A H locs k n h1 h2 h3 h4 h5
  unfold o_i2b at ho
  split at ho
  · exact lv_i2b hC.x hC.b hd rfl (hK _ _ _ _ _ _ ho A H locs k n h1 h2 h3 h4 h5)
  · exact ho.elim
theorem xcat {v : Value} {n : Nat} (h : Nat.beq v.category n = true) : v.category = n := Nat.eq_of_beq_eq_true h
def xif (b : Bool) (q : Prop) : Prop := match b with
  | true => q
  | false => False
theorem xif_iff {b : Bool} {q : Prop} (h : xif b q) : b = true ∧ q := by
  cases b with
  | true => exact ⟨rfl, h⟩
  | false => exact h.elim
def o_dup (n : Nat) : xOp := fun K ls st h rc rs => match st with
  | v :: r => xif (Nat.beq v.category 1) (K n ls (v :: v :: r) h rc rs)
  | _ => False
theorem ok_dup (hC : xCx X cc own nL d) (hd : decode cc pc = .ok (.dup, 1)) : xOk X pc (o_dup (pc + 1)) := by
  intro K hK ls st h rc rs ho A H locs k n h1 h2 h3 h4 h5
  unfold o_dup at ho
  split at ho
  · obtain ⟨e1, ho⟩ := xif_iff ho
    exact lv_dup hC.x hC.b hd (xcat e1) (hK _ _ _ _ _ _ ho A H locs k n h1 h2 h3 h4 h5)
  · exact ho.elim
def o_pop (n : Nat) : xOp := fun K ls st h rc rs => match st with
  | v :: r => xif (Nat.beq v.category 1) (K n ls r h rc rs)
  | _ => False
theorem ok_pop (hC : xCx X cc own nL d) (hd : decode cc pc = .ok (.pop, 1)) : xOk X pc (o_pop (pc + 1)) := by
  intro K hK ls st h rc rs ho A H locs k n h1 h2 h3 h4 h5
  unfold o_pop at ho
  split at ho
  · obtain ⟨e1, ho⟩ := xif_iff ho
    exact lv_pop hC.x hC.b hd (xcat e1) (hK _ _ _ _ _ _ ho A H locs k n h1 h2 h3 h4 h5)
  · exact ho.elim
def o_pop2 (n : Nat) : xOp := fun K ls st h rc rs => match st with
  | v :: r => xif (Nat.beq v.category 2) (K n ls r h rc rs)
  | _ => False
theorem ok_pop2 (hC : xCx X cc own nL d) (hd : decode cc pc = .ok (.pop2, 1)) : xOk X pc (o_pop2 (pc + 1)) := by
  intro K hK ls st h rc rs ho A H locs k n h1 h2 h3 h4 h5
  unfold o_pop2 at ho
  split at ho
  · obtain ⟨e1, ho⟩ := xif_iff ho
    exact lv_pop2_2 hC.x hC.b hd (xcat e1) (hK _ _ _ _ _ _ ho A H locs k n h1 h2 h3 h4 h5)
  · exact ho.elim
def o_dup_x1 (n : Nat) : xOp := fun K ls st h rc rs => match st with
  | v :: w :: r => xif (Nat.beq v.category 1) (xif (Nat.beq w.category 1) (K n ls (v :: w :: v :: r) h rc rs))
  | _ => False
theorem ok_dup_x1 (hC : xCx X cc own nL d) (hd : decode cc pc = .ok (.dup_x1, 1)) : xOk X pc (o_dup_x1 (pc + 1)) := by
  intro K hK ls st h rc rs ho A H locs k n h1 h2 h3 h4 h5
  unfold o_dup_x1 at ho
  split at ho
  · obtain ⟨e1, ho⟩ := xif_iff ho
    obtain ⟨e2, ho⟩ := xif_iff ho
    exact lv_dup_x1 hC.x hC.b hd (xcat e1) (xcat e2) (hK _ _ _ _ _ _ ho A H locs k n h1 h2 h3 h4 h5)
  · exact ho.elim
def o_dup_x2 (n : Nat) : xOp := fun K ls st h rc rs => match st with
  | v :: w :: u :: r => xif (Nat.beq v.category 1) (xif (Nat.beq w.category 1) (xif (Nat.beq u.category 1) (K n ls (v :: w :: u :: v :: r) h rc rs)))
  | _ => False
theorem ok_dup_x2 (hC : xCx X cc own nL d) (hd : decode cc pc = .ok (.dup_x2, 1)) : xOk X pc (o_dup_x2 (pc + 1)) := by
  intro K hK ls st h rc rs ho A H locs k n h1 h2 h3 h4 h5
  unfold o_dup_x2 at ho
  split at ho
  · obtain ⟨e1, ho⟩ := xif_iff ho
    obtain ⟨e2, ho⟩ := xif_iff ho
    obtain ⟨e3, ho⟩ := xif_iff ho
    exact lv_dup_x2 hC.x hC.b hd (xcat e1) (xcat e2) (xcat e3) (hK _ _ _ _ _ _ ho A H locs k n h1 h2 h3 h4 h5)
  · exact ho.elim
def o_dup2 (n : Nat) : xOp := fun K ls st h rc rs => match st with
  | v :: w :: r => xif (Nat.beq v.category 1) (xif (Nat.beq w.category 1) (K n ls (v :: w :: v :: w :: r) h rc rs))
  | _ => False
theorem ok_dup2 (hC : xCx X cc own nL d) (hd : decode cc pc = .ok (.dup2, 1)) : xOk X pc (o_dup2 (pc + 1)) := by
  intro K hK ls st h rc rs ho A H locs k n h1 h2 h3 h4 h5
  unfold o_dup2 at ho
  split at ho
  · obtain ⟨e1, ho⟩ := xif_iff ho
    obtain ⟨e2, ho⟩ := xif_iff ho
    exact lv_dup2_11 hC.x hC.b hd (xcat e1) (xcat e2) (hK _ _ _ _ _ _ ho A H locs k n h1 h2 h3 h4 h5)
  · exact ho.elim
def o_dup2L (n : Nat) : xOp := fun K ls st h rc rs => match st with
  | v :: r => xif (Nat.beq v.category 2) (K n ls (v :: v :: r) h rc rs)
  | _ => False
theorem ok_dup2L (hC : xCx X cc own nL d) (hd : decode cc pc = .ok (.dup2, 1)) : xOk X pc (o_dup2L (pc + 1)) := by
  intro K hK ls st h rc rs ho A H locs k n h1 h2 h3 h4 h5
  unfold o_dup2L at ho
  split at ho
  · obtain ⟨e1, ho⟩ := xif_iff ho
    exact lv_dup2_2 hC.x hC.b hd (xcat e1) (hK _ _ _ _ _ _ ho A H locs k n h1 h2 h3 h4 h5)
  · exact ho.elim
def o_goto (t : Nat) : xOp := fun K ls st h rc rs => K t ls st h rc rs
theorem ok_goto (hC : xCx X cc own nL d) {off : Int} {t : Nat} (hd : decode cc pc = .ok (.goto off, 3)) (ht : (pc : Int) + off = (t : Int)) : xOk X pc (o_goto t) := by
  intro K hK ls st h rc rs ho A H locs k n h1 h2 h3 h4 h5
  exact lv_goto hC.x hC.b hd ht (hK _ _ _ _ _ _ ho A H locs k n h1 h2 h3 h4 h5)
def o_ifeq (t n : Nat) : xOp := fun K ls st h rc rs => match st with
  | .int x :: r => (x = 0 → K t ls r h rc rs) ∧ (¬ x = 0 → K n ls r h rc rs)
  | _ => False
theorem ok_ifeq (hC : xCx X cc own nL d) {off : Int} {t : Nat} (hd : decode cc pc = .ok (.ifCond .eq off, 3)) (ht : (pc : Int) + off = (t : Int)) : xOk X pc (o_ifeq t (pc + 3)) := by
  intro K hK ls st h rc rs ho A H locs k n h1 h2 h3 h4 h5
  unfold o_ifeq at ho
  split at ho
  · exact lv_if_eq hC.x hC.b hd ht (fun z => hK _ _ _ _ _ _ (ho.1 z) A H locs k n h1 h2 h3 h4 h5) (fun z => hK _ _ _ _ _ _ (ho.2 z) A H locs k n h1 h2 h3 h4 h5)
  · exact ho.elim
def o_ifne (t n : Nat) : xOp := fun K ls st h rc rs => match st with
  | .int x :: r => (¬ x = 0 → K t ls r h rc rs) ∧ (x = 0 → K n ls r h rc rs)
  | _ => False
theorem ok_ifne (hC : xCx X cc own nL d) {off : Int} {t : Nat} (hd : decode cc pc = .ok (.ifCond .ne off, 3)) (ht : (pc : Int) + off = (t : Int)) : xOk X pc (o_ifne t (pc + 3)) := by
  intro K hK ls st h rc rs ho A H locs k n h1 h2 h3 h4 h5
  unfold o_ifne at ho
  split at ho
  · exact lv_if_ne hC.x hC.b hd ht (fun z => hK _ _ _ _ _ _ (ho.1 z) A H locs k n h1 h2 h3 h4 h5) (fun z => hK _ _ _ _ _ _ (ho.2 z) A H locs k n h1 h2 h3 h4 h5)
  · exact ho.elim
def o_iflt (t n : Nat) : xOp := fun K ls st h rc rs => match st with
  | .int x :: r => (x < 0 → K t ls r h rc rs) ∧ (¬ x < 0 → K n ls r h rc rs)
  | _ => False
theorem ok_iflt (hC : xCx X cc own nL d) {off : Int} {t : Nat} (hd : decode cc pc = .ok (.ifCond .lt off, 3)) (ht : (pc : Int) + off = (t : Int)) : xOk X pc (o_iflt t (pc + 3)) := by
  intro K hK ls st h rc rs ho A H locs k n h1 h2 h3 h4 h5
  unfold o_iflt at ho
  split at ho
  · exact lv_if_lt hC.x hC.b hd ht (fun z => hK _ _ _ _ _ _ (ho.1 z) A H locs k n h1 h2 h3 h4 h5) (fun z => hK _ _ _ _ _ _ (ho.2 z) A H locs k n h1 h2 h3 h4 h5)
  · exact ho.elim
def o_ifge (t n : Nat) : xOp := fun K ls st h rc rs => match st with
  | .int x :: r => (0 ≤ x → K t ls r h rc rs) ∧ (¬ 0 ≤ x → K n ls r h rc rs)
  | _ => False
theorem ok_ifge (hC : xCx X cc own nL d) {off : Int} {t : Nat} (hd : decode cc pc = .ok (.ifCond .ge off, 3)) (ht : (pc : Int) + off = (t : Int)) : xOk X pc (o_ifge t (pc + 3)) := by
  intro K hK ls st h rc rs ho A H locs k n h1 h2 h3 h4 h5
  unfold o_ifge at ho
  split at ho
  · exact lv_if_ge hC.x hC.b hd ht (fun z => hK _ _ _ _ _ _ (ho.1 z) A H locs k n h1 h2 h3 h4 h5) (fun z => hK _ _ _ _ _ _ (ho.2 z) A H locs k n h1 h2 h3 h4 h5)
  · exact ho.elim
def o_ifgt (t n : Nat) : xOp := fun K ls st h rc rs => match st with
  | .int x :: r => (0 < x → K t ls r h rc rs) ∧ (¬ 0 < x → K n ls r h rc rs)
  | _ => False
theorem ok_ifgt (hC : xCx X cc own nL d) {off : Int} {t : Nat} (hd : decode cc pc = .ok (.ifCond .gt off, 3)) (ht : (pc : Int) + off = (t : Int)) : xOk X pc (o_ifgt t (pc + 3)) := by
  intro K hK ls st h rc rs ho A H locs k n h1 h2 h3 h4 h5
  unfold o_ifgt at ho
  split at ho
  · exact lv_if_gt hC.x hC.b hd ht (fun z => hK _ _ _ _ _ _ (ho.1 z) A H locs k n h1 h2 h3 h4 h5) (fun z => hK _ _ _ _ _ _ (ho.2 z) A H locs k n h1 h2 h3 h4 h5)
  · exact ho.elim
def o_ifle (t n : Nat) : xOp := fun K ls st h rc rs => match st with
  | .int x :: r => (x ≤ 0 → K t ls r h rc rs) ∧ (¬ x ≤ 0 → K n ls r h rc rs)
  | _ => False
theorem ok_ifle (hC : xCx X cc own nL d) {off : Int} {t : Nat} (hd : decode cc pc = .ok (.ifCond .le off, 3)) (ht : (pc : Int) + off = (t : Int)) : xOk X pc (o_ifle t (pc + 3)) := by
  intro K hK ls st h rc rs ho A H locs k n h1 h2 h3 h4 h5
  unfold o_ifle at ho
  split at ho
  · exact lv_if_le hC.x hC.b hd ht (fun z => hK _ _ _ _ _ _ (ho.1 z) A H locs k n h1 h2 h3 h4 h5) (fun z => hK _ _ _ _ _ _ (ho.2 z) A H locs k n h1 h2 h3 h4 h5)
  · exact ho.elim
def o_iceq (t n : Nat) : xOp := fun K ls st h rc rs => match st with
  | .int y :: .int x :: r => (x = y → K t ls r h rc rs) ∧ (¬ x = y → K n ls r h rc rs)
  | _ => False
theorem ok_iceq (hC : xCx X cc own nL d) {off : Int} {t : Nat} (hd : decode cc pc = .ok (.if_icmp .eq off, 3)) (ht : (pc : Int) + off = (t : Int)) : xOk X pc (o_iceq t (pc + 3)) := by
  intro K hK ls st h rc rs ho A H locs k n h1 h2 h3 h4 h5
  unfold o_iceq at ho
  split at ho
  · exact lv_icmp_eq hC.x hC.b hd ht (fun z => hK _ _ _ _ _ _ (ho.1 z) A H locs k n h1 h2 h3 h4 h5) (fun z => hK _ _ _ _ _ _ (ho.2 z) A H locs k n h1 h2 h3 h4 h5)
  · exact ho.elim
def o_icne (t n : Nat) : xOp := fun K ls st h rc rs => match st with
  | .int y :: .int x :: r => (¬ x = y → K t ls r h rc rs) ∧ (x = y → K n ls r h rc rs)
  | _ => False
theorem ok_icne (hC : xCx X cc own nL d) {off : Int} {t : Nat} (hd : decode cc pc = .ok (.if_icmp .ne off, 3)) (ht : (pc : Int) + off = (t : Int)) : xOk X pc (o_icne t (pc + 3)) := by
  intro K hK ls st h rc rs ho A H locs k n h1 h2 h3 h4 h5
  unfold o_icne at ho
  split at ho
  · exact lv_icmp_ne hC.x hC.b hd ht (fun z => hK _ _ _ _ _ _ (ho.1 z) A H locs k n h1 h2 h3 h4 h5) (fun z => hK _ _ _ _ _ _ (ho.2 z) A H locs k n h1 h2 h3 h4 h5)
  · exact ho.elim
def o_iclt (t n : Nat) : xOp := fun K ls st h rc rs => match st with
  | .int y :: .int x :: r => (x < y → K t ls r h rc rs) ∧ (¬ x < y → K n ls r h rc rs)
  | _ => False
theorem ok_iclt (hC : xCx X cc own nL d) {off : Int} {t : Nat} (hd : decode cc pc = .ok (.if_icmp .lt off, 3)) (ht : (pc : Int) + off = (t : Int)) : xOk X pc (o_iclt t (pc + 3)) := by
  intro K hK ls st h rc rs ho A H locs k n h1 h2 h3 h4 h5
  unfold o_iclt at ho
  split at ho
  · exact lv_icmp_lt hC.x hC.b hd ht (fun z => hK _ _ _ _ _ _ (ho.1 z) A H locs k n h1 h2 h3 h4 h5) (fun z => hK _ _ _ _ _ _ (ho.2 z) A H locs k n h1 h2 h3 h4 h5)
  · exact ho.elim
def o_icge (t n : Nat) : xOp := fun K ls st h rc rs => match st with
  | .int y :: .int x :: r => (y ≤ x → K t ls r h rc rs) ∧ (¬ y ≤ x → K n ls r h rc rs)
  | _ => False
theorem ok_icge (hC : xCx X cc own nL d) {off : Int} {t : Nat} (hd : decode cc pc = .ok (.if_icmp .ge off, 3)) (ht : (pc : Int) + off = (t : Int)) : xOk X pc (o_icge t (pc + 3)) := by
  intro K hK ls st h rc rs ho A H locs k n h1 h2 h3 h4 h5
  unfold o_icge at ho
  split at ho
  · exact lv_icmp_ge hC.x hC.b hd ht (fun z => hK _ _ _ _ _ _ (ho.1 z) A H locs k n h1 h2 h3 h4 h5) (fun z => hK _ _ _ _ _ _ (ho.2 z) A H locs k n h1 h2 h3 h4 h5)
  · exact ho.elim
def o_icgt (t n : Nat) : xOp := fun K ls st h rc rs => match st with
  | .int y :: .int x :: r => (y < x → K t ls r h rc rs) ∧ (¬ y < x → K n ls r h rc rs)
  | _ => False
theorem ok_icgt (hC : xCx X cc own nL d) {off : Int} {t : Nat} (hd : decode cc pc = .ok (.if_icmp .gt off, 3)) (ht : (pc : Int) + off = (t : Int)) : xOk X pc (o_icgt t (pc + 3)) := by
  intro K hK ls st h rc rs ho A H locs k n h1 h2 h3 h4 h5
  unfold o_icgt at ho
  split at ho
  · exact lv_icmp_gt hC.x hC.b hd ht (fun z => hK _ _ _ _ _ _ (ho.1 z) A H locs k n h1 h2 h3 h4 h5) (fun z => hK _ _ _ _ _ _ (ho.2 z) A H locs k n h1 h2 h3 h4 h5)
  · exact ho.elim
def o_icle (t n : Nat) : xOp := fun K ls st h rc rs => match st with
  | .int y :: .int x :: r => (x ≤ y → K t ls r h rc rs) ∧ (¬ x ≤ y → K n ls r h rc rs)
  | _ => False
theorem ok_icle (hC : xCx X cc own nL d) {off : Int} {t : Nat} (hd : decode cc pc = .ok (.if_icmp .le off, 3)) (ht : (pc : Int) + off = (t : Int)) : xOk X pc (o_icle t (pc + 3)) := by
  intro K hK ls st h rc rs ho A H locs k n h1 h2 h3 h4 h5
  unfold o_icle at ho
  split at ho
  · exact lv_icmp_le hC.x hC.b hd ht (fun z => hK _ _ _ _ _ _ (ho.1 z) A H locs k n h1 h2 h3 h4 h5) (fun z => hK _ _ _ _ _ _ (ho.2 z) A H locs k n h1 h2 h3 h4 h5)
  · exact ho.elim
def o_nul (t n : Nat) : xOp := fun K ls st h rc rs => match st with
  | .null :: r => K t ls r h rc rs
  | .ref _ :: r => K n ls r h rc rs
  | _ => False
theorem ok_ifnull (hC : xCx X cc own nL d) {off : Int} {t : Nat} (hd : decode cc pc = .ok (.ifnull off, 3)) (ht : (pc : Int) + off = (t : Int)) : xOk X pc (o_nul t (pc + 3)) := by
  intro K hK ls st h rc rs ho A H locs k n h1 h2 h3 h4 h5
  unfold o_nul at ho
  split at ho
  · exact lv_ifnullN hC.x hC.b hd ht (hK _ _ _ _ _ _ ho A H locs k n h1 h2 h3 h4 h5)
  · exact lv_ifnull hC.x hC.b hd (hK _ _ _ _ _ _ ho A H locs k n h1 h2 h3 h4 h5)
  · exact ho.elim
theorem ok_ifnonnull (hC : xCx X cc own nL d) {off : Int} {t : Nat} (hd : decode cc pc = .ok (.ifnonnull off, 3)) (ht : (pc : Int) + off = (t : Int)) : xOk X pc (o_nul (pc + 3) t) := by
  intro K hK ls st h rc rs ho A H locs k n h1 h2 h3 h4 h5
  unfold o_nul at ho
  split at ho
  · exact lv_ifnonnullN hC.x hC.b hd (hK _ _ _ _ _ _ ho A H locs k n h1 h2 h3 h4 h5)
  · exact lv_ifnonnull hC.x hC.b hd ht (hK _ _ _ _ _ _ ho A H locs k n h1 h2 h3 h4 h5)
  · exact ho.elim
def o_acm (t n : Nat) : xOp := fun K ls st h rc rs => match st with
  | .ref y :: .ref x :: r => (x = y → K t ls r h rc rs) ∧ (¬ x = y → K n ls r h rc rs)
  | .null :: .null :: r => K t ls r h rc rs
  | .ref _ :: .null :: r => K n ls r h rc rs
  | .null :: .ref _ :: r => K n ls r h rc rs
  | _ => False
theorem ok_acmpeq (hC : xCx X cc own nL d) {off : Int} {t : Nat} (hd : decode cc pc = .ok (.if_acmp .eq off, 3)) (ht : (pc : Int) + off = (t : Int)) : xOk X pc (o_acm t (pc + 3)) := by
  intro K hK ls st h rc rs ho A H locs k n h1 h2 h3 h4 h5
  unfold o_acm at ho
  split at ho
  · rename_i y x r
    exact lv_acmp_eq (rx := some x) (ry := some y) hC.x hC.b hd ht (fun z => (hK _ _ _ _ _ _ (ho.1 (Option.some.inj z)) A H locs k n h1 h2 h3 h4 h5)) (fun z => (hK _ _ _ _ _ _ (ho.2 (fun w => z (congrArg some w))) A H locs k n h1 h2 h3 h4 h5))
  · exact lv_acmp_eq (rx := none) (ry := none) hC.x hC.b hd ht (fun _ => (hK _ _ _ _ _ _ ho A H locs k n h1 h2 h3 h4 h5)) (fun z => absurd rfl z)
  · rename_i y r
    exact lv_acmp_eq (rx := none) (ry := some y) hC.x hC.b hd ht (fun z => by cases z) (fun _ => (hK _ _ _ _ _ _ ho A H locs k n h1 h2 h3 h4 h5))
  · rename_i x r
    exact lv_acmp_eq (rx := some x) (ry := none) hC.x hC.b hd ht (fun z => by cases z) (fun _ => (hK _ _ _ _ _ _ ho A H locs k n h1 h2 h3 h4 h5))
  · exact ho.elim
theorem ok_acmpne (hC : xCx X cc own nL d) {off : Int} {t : Nat} (hd : decode cc pc = .ok (.if_acmp .ne off, 3)) (ht : (pc : Int) + off = (t : Int)) : xOk X pc (o_acm (pc + 3) t) := by
  intro K hK ls st h rc rs ho A H locs k n h1 h2 h3 h4 h5
  unfold o_acm at ho
  split at ho
  · rename_i y x r
    exact lv_acmp_ne (rx := some x) (ry := some y) hC.x hC.b hd ht (fun z => (hK _ _ _ _ _ _ (ho.2 (fun w => z (congrArg some w))) A H locs k n h1 h2 h3 h4 h5)) (fun z => (hK _ _ _ _ _ _ (ho.1 (Option.some.inj z)) A H locs k n h1 h2 h3 h4 h5))
  · exact lv_acmp_ne (rx := none) (ry := none) hC.x hC.b hd ht (fun z => absurd rfl z) (fun _ => (hK _ _ _ _ _ _ ho A H locs k n h1 h2 h3 h4 h5))
  · rename_i y r
    exact lv_acmp_ne (rx := none) (ry := some y) hC.x hC.b hd ht (fun _ => (hK _ _ _ _ _ _ ho A H locs k n h1 h2 h3 h4 h5)) (fun z => by cases z)
  · rename_i x r
    exact lv_acmp_ne (rx := some x) (ry := none) hC.x hC.b hd ht (fun _ => (hK _ _ _ _ _ _ ho A H locs k n h1 h2 h3 h4 h5)) (fun z => by cases z)
  · exact ho.elim
def xsw : List (Int32 × Nat) → Nat → Int32 → (Nat → Prop) → Prop
  | [], t, _, k => k t
  | q :: l, t, x, k => (x = q.1 → k q.2) ∧ (¬ x = q.1 → xsw l t x k)
theorem xsw_or : ∀ {l : List (Int32 × Nat)} {t : Nat} {x : Int32} {k : Nat → Prop}, xsw l t x k → (∃ (i : Nat) (q : Int32 × Nat), l[i]? = some q ∧ x = q.1 ∧ k q.2) ∨ ((∀ q ∈ l, ¬ x = q.1) ∧ k t)
  | [], _, _, _, h => Or.inr ⟨fun q hq => (by cases hq), h⟩
  | q :: l, t, x, k, h => by
    by_cases z : x = q.1
    · exact Or.inl ⟨0, q, rfl, z, h.1 z⟩
    · rcases xsw_or (h.2 z) with ⟨i, q', h1, h2, h3⟩ | ⟨h1, h2⟩
      · exact Or.inl ⟨i + 1, q', h1, h2, h3⟩
      · exact Or.inr ⟨fun a ha => by
          rcases List.mem_cons.mp ha with rfl | ha
          · exact z
          · exact h1 a ha, h2⟩
def o_sw (l : List (Int32 × Nat)) (t : Nat) : xOp := fun K ls st h rc rs => match st with
  | .int x :: r => xsw l t x (fun q => K q ls r h rc rs)
  | _ => False
theorem ok_table (hC : xCx X cc own nL d) {dflt lo hi : Int} {offs : Array Int} {len t : Nat} (l : List (Int32 × Nat)) (hd : decode cc pc = .ok (.tableswitch dflt lo hi offs, len)) (ht : (pc : Int) + dflt = (t : Int))
    (hl : (List.range l.length).all (fun i => decide ((l.getD i (0, 0)).1.toInt = lo + i) && decide ((offs[i]?).map (fun o => (pc : Int) + o) = some (((l.getD i (0, 0)).2 : Nat) : Int))) = true) (hn : lo + l.length = hi + 1) : xOk X pc (o_sw l t) := by
  intro K hK ls st h rc rs ho A H locs k n h1 h2 h3 h4 h5
  unfold o_sw at ho
  split at ho
  · rename_i x r
    rcases xsw_or ho with ⟨i, q, e1, e2, e3⟩ | ⟨e1, e2⟩
    · have hi' : i < l.length := (List.getElem?_eq_some_iff.mp e1).1
      have e4 := List.all_eq_true.mp hl i (List.mem_range.mpr hi')
      simp only [Bool.and_eq_true, decide_eq_true_eq] at e4
      have e5 : l.getD i (0, 0) = q := by simp [List.getD, e1]
      rw [e5] at e4
      obtain ⟨e6, e7⟩ := e4
      cases e8 : offs[i]? with
      | none => rw [e8] at e7; cases e7
      | some o =>
        rw [e8] at e7
        have e9 : (pc : Int) + o = (q.2 : Int) := Option.some.inj e7
        refine lv_tableIn hC.x hC.b hd (by rw [e2, e6]; omega) (by rw [e2, e6]; omega) (off := o) ?_ e9 (hK _ _ _ _ _ _ e3 A H locs k n h1 h2 h3 h4 h5)
        rw [e2, e6, show (lo + (i : Int) - lo).toNat = i by omega]
        exact e8
    · refine lv_tableOut hC.x hC.b hd ?_ ht (hK _ _ _ _ _ _ e2 A H locs k n h1 h2 h3 h4 h5)
      by_cases z : x.toInt < lo ∨ hi < x.toInt
      · exact z
      · exfalso
        have z1 : (x.toInt - lo).toNat < l.length := by omega
        have e4 := List.all_eq_true.mp hl _ (List.mem_range.mpr z1)
        simp only [Bool.and_eq_true, decide_eq_true_eq] at e4
        refine e1 _ (List.getElem_mem z1) (Int32.toInt_inj.mp ?_)
        have e5 : l.getD (x.toInt - lo).toNat (0, 0) = l[(x.toInt - lo).toNat] := by simp [List.getD, z1]
        rw [← e5, e4.1]
        omega
  · exact ho.elim
theorem ok_lookup (hC : xCx X cc own nL d) {dflt : Int} {ps : Array (Int × Int)} {len t : Nat} (l : List (Int32 × Nat)) (hd : decode cc pc = .ok (.lookupswitch dflt ps, len)) (ht : (pc : Int) + dflt = (t : Int))
    (hp : (ps.toList.zip (ps.toList.drop 1)).all (fun (a, next) => a.1 < next.1) = true) (hl : ps.toList = l.map (fun q => (q.1.toInt, (q.2 : Int) - (pc : Int)))) : xOk X pc (o_sw l t) := by
  intro K hK ls st h rc rs ho A H locs k n h1 h2 h3 h4 h5
  unfold o_sw at ho
  split at ho
  · rename_i x r
    have hgo : ∀ l : List (Int32 × Nat), xsw l t x (fun q => K q ls r h rc rs) → ∃ (off : Int) (tgt : Nat), Op.lookupswitch.offset (l.map (fun q => (q.1.toInt, (q.2 : Int) - (pc : Int)))) dflt x.toInt = off ∧ (pc : Int) + off = (tgt : Int) ∧ K tgt ls r h rc rs := by
      intro l
      induction l with
      | nil => intro z; exact ⟨dflt, t, rfl, ht, z⟩
      | cons q l ih =>
        intro z
        by_cases e : x = q.1
        · refine ⟨(q.2 : Int) - (pc : Int), q.2, ?_, by omega, z.1 e⟩
          rw [List.map_cons, Op.lookupswitch.offset_cons, if_pos (by rw [e])]
        · obtain ⟨off, tgt, e1, e2, e3⟩ := ih (z.2 e)
          exact ⟨off, tgt, by rw [List.map_cons, lv_osw e rfl]; exact e1, e2, e3⟩
    obtain ⟨off, tgt, e1, e2, e3⟩ := hgo l ho
    exact lv_lookup hC.x hC.b hd hp (by rw [hl]; exact e1) e2 (hK _ _ _ _ _ _ e3 A H locs k n h1 h2 h3 h4 h5)
  · exact ho.elim
end XOPS
end
section
/-! THE ABSTRACT MACHINE, 4: fields, arrays, new, returns -/
def xfitb (ty : FieldType) (v : Value) : Bool := match ty, v with
  | .int, .int _ => true
  | .long, .long _ => true
  | .object _, .ref _ => true
  | .object _, .null => true
  | .array _, .ref _ => true
  | .array _, .null => true
  | _, _ => false
def xfit (ty : FieldType) (v : Value) (q : Prop) : Prop := match xfitb ty v with
  | true => q
  | false => (narrow ty v = v ∧ fits ty v = true) ∧ q
theorem xfit_iff {ty : FieldType} {v : Value} {q : Prop} (h : xfit ty v q) : narrow ty v = v ∧ fits ty v = true ∧ q := by
  unfold xfit at h
  split at h
  · rename_i e
    unfold xfitb at e
    split at e <;> first | exact ⟨rfl, rfl, h⟩ | cases e
  · exact ⟨h.1.1, h.1.2, h.2⟩
theorem x_obj {D : xD} {U : State} {H : Heap} {a ci : Nat} {fs : List Value} (hci : ci < 100) (h : x_at D U H a (ci, fs)) : D.sz ≤ a ∧ ∃ r : vw_C, xcl[ci]? = some r ∧ fs.length = r.2.2 ∧ t_OB a (D.cid ci) r.2.2 (D.slo ci) H (vp_V fs) := by
  unfold x_at at h; rw [if_pos hci] at h; exact h
theorem x_arr {D : xD} {U : State} {H : Heap} {a t : Nat} {vs : List Value} (ht : t < 100) (h : x_at D U H a (100 + t, vs)) : D.sz ≤ a ∧ vs.length < 2 ^ 31 ∧ (∃ ty, xela[t]? = some ty) ∧ H[a]? = some { cls := D.cid (100 + t), slots := vs.toArray, vm := .none } := by
  unfold x_at at h
  rw [if_neg (by show ¬ 100 + t < 100; omega), if_pos (by show 100 + t < 200; omega)] at h
  rw [show (100 + t, vs).1 - 100 = t by show 100 + t - 100 = t; omega] at h
  exact h
theorem x_arr_mk {D : xD} {U : State} {H : Heap} {a t : Nat} {vs : List Value} (ht : t < 100) (h0 : D.sz ≤ a) (h1 : vs.length < 2 ^ 31) (h2 : ∃ ty, xela[t]? = some ty) (h3 : H[a]? = some { cls := D.cid (100 + t), slots := vs.toArray, vm := .none }) : x_at D U H a (100 + t, vs) := by
  unfold x_at
  rw [if_neg (by show ¬ 100 + t < 100; omega), if_pos (by show 100 + t < 200; omega)]
  rw [show (100 + t, vs).1 - 100 = t by show 100 + t - 100 = t; omega]
  exact ⟨h0, h1, h2, h3⟩
theorem x_ro {D : xD} {U : State} {H : Heap} {a t : Nat} {vs : List Value} (ht : t < 100) (h : x_at D U H a (200 + t, vs)) : a < D.sz ∧ vs.length < 2 ^ 31 ∧ ∃ cell : Cell, H[a]? = some cell ∧ U.isArrayOf cell (xel t) ∧ cell.vm ≠ .unknown ∧ cell.slots = vs.toArray := by
  unfold x_at at h
  rw [if_neg (by show ¬ 200 + t < 100; omega), if_neg (by show ¬ 200 + t < 200; omega), if_pos (by show 200 + t < 300; omega)] at h
  rw [show (200 + t, vs).1 - 200 = t by show 200 + t - 200 = t; omega] at h
  exact h
/-- an array, of the run or of before it, as the machine's rows ask for it -/
theorem x_anyarr {D : xD} {U : State} {h : xH} {H : Heap} {a t : Nat} {vs : List Value} (hK : x_K D U) (hR : x_R D U h H) (ht : t < 100) (e : h a = some (100 + t, vs) ∨ h a = some (200 + t, vs)) : ∃ cell : Cell, H[a]? = some cell ∧ U.isArrayOf cell (xel t) ∧ cell.vm ≠ .unknown ∧ cell.slots = vs.toArray ∧ vs.length < 2 ^ 31 := by
  rcases e with e | e
  · obtain ⟨h0, h1, ⟨ty, h2⟩, h3⟩ := x_arr ht (hR _ _ e)
    refine ⟨_, h3, ?_, fun z => (by cases z), rfl, h1⟩
    obtain ⟨k1, -⟩ := hK.2 t ty h2
    have e1 : xel t = ty := by simp [xel, List.getD, h2]
    rw [e1]
    obtain ⟨q1, q2⟩ := k1 0 (fun _ => .null)
    exact ⟨fun k z => (by cases z), q2⟩
  · obtain ⟨h0, h1, cell, h2, h3, h4, h5⟩ := x_ro ht (hR _ _ e)
    exact ⟨cell, h2, h3, h4, h5, h1⟩
theorem x_ain {cell : Cell} {vs : List Value} {i : Int32} {j : Nat} (hs : cell.slots = vs.toArray) (hi : i = nI j) (hj : j < vs.length) (hl : vs.length < 2 ^ 31) : ¬ (i < 0 ∨ cell.slots.size ≤ i.toNatClampNeg) := by
  subst hi
  rw [hs, List.size_toArray, nI_clamp (by omega)]
  intro z
  rcases z with z | z
  · exact nI_pos (by omega) z
  · omega
section XHEAP
variable {X : xX} {cc : ByteArray} {own : String} {nL d pc : Nat}
def o_get (ci k n : Nat) : xOp := fun K ls st h rc rs => match st with
  | .ref a :: r => ∃ (fs : List Value) (v : Value), h a = some (ci, fs) ∧ fs[k]? = some v ∧ K n ls (v :: r) h rc rs
  | _ => False
theorem x_getAux (hC : xCx X cc own nL d) {ci k : Nat} {r0 : vw_C} (hci : ci < 100) (hc : xcl[ci]? = some r0) (hk : k < r0.2.2) {a : Nat} {fs : List Value} {v : Value} {h : xH} {H : Heap} (hR : x_R X.D X.s h H) (e : h a = some (ci, fs)) (hv : fs[k]? = some v) :
    ∃ (cf : Nat) (kf : Class) (fi : Nat) (f : Field) (cell : Cell), X.s.fieldFound? (r0.2.1 k).1 (r0.2.1 k).2.1 (r0.2.1 k).2.2.1 = some (cf, kf, fi, f) ∧ f.isStatic = false ∧ H[a]? = some cell ∧ cell.vm ≠ .unknown ∧ cell.slots[f.slot]? = some v := by
  obtain ⟨h0, r, h1, h2, cell, q1, q2, q3, q4⟩ := x_obj hci (hR _ _ e)
  have hr : r = r0 := Option.some.inj (h1.symm.trans hc)
  subst hr
  obtain ⟨hS, hfc, kC, hkC, hkind⟩ := hC.K.1 ci _ hc
  obtain ⟨cf, kf, fi, f, hi, hsl⟩ := hS k hk
  refine ⟨cf, kf, fi, f, cell, hi, (u_facts hfc hkC (u_lays hC.ts (xcl_in hc) hk) hi).1, q1, by rw [q3]; exact fun z => (by cases z), ?_⟩
  rw [hsl, q4 k hk]
  simp [vp_V, hv]
theorem ok_get (hC : xCx X cc own nL d) {ci k i : Nat} {ref nm ds : String} {r0 : vw_C} (hd : decode cc pc = .ok (.getfield i, 3)) (hci : ci < 100) (hc : xcl[ci]? = some r0) (hk : k < r0.2.2) (hf : r0.2.1 k = (ref, nm, ds, (r0.2.1 k).2.2.2)) (hw : Cond.fieldLink own i ref nm ds ∈ xws) : xOk X pc (o_get ci k (pc + 3)) := by
  intro K hK ls st h rc rs ho A H locs kk n h1 h2 h3 h4 h5
  unfold o_get at ho
  split at ho
  · obtain ⟨fs, v, e1, e2, e3⟩ := ho
    obtain ⟨cf, kf, fi, f, cell, g1, g2, g3, g4, g5⟩ := x_getAux hC hci hc hk h2 e1 e2
    rw [hf] at g1
    exact W.getf hC.x hC.b hC.ow (hC.ts _ hw) g1 g2 g3 g4 g5 rfl rfl hd (hK _ _ _ _ _ _ e3 A H locs kk n h1 h2 h3 h4 h5)
  · exact ho.elim
theorem ok_getN (hC : xCx X cc own nL d) {ci k i : Nat} {ref nm ds host : String} {r0 : vw_C} (hd : decode cc pc = .ok (.getfield i, 3)) (hci : ci < 100) (hc : xcl[ci]? = some r0) (hk : k < r0.2.2) (hf : r0.2.1 k = (ref, nm, ds, (r0.2.1 k).2.2.2)) (hw : Cond.fieldLinkNest own i ref nm ds host ∈ xws) : xOk X pc (o_get ci k (pc + 3)) := by
  intro K hK ls st h rc rs ho A H locs kk n h1 h2 h3 h4 h5
  unfold o_get at ho
  split at ho
  · obtain ⟨fs, v, e1, e2, e3⟩ := ho
    obtain ⟨cf, kf, fi, f, cell, g1, g2, g3, g4, g5⟩ := x_getAux hC hci hc hk h2 e1 e2
    rw [hf] at g1
    exact va_Wgetf hC.x hC.b hC.ow (hC.ts _ hw) g1 g2 g3 g4 g5 rfl rfl hd (hK _ _ _ _ _ _ e3 A H locs kk n h1 h2 h3 h4 h5)
  · exact ho.elim
def o_put (ci k : Nat) (ty : FieldType) (n : Nat) : xOp := fun K ls st h rc rs => match st with
  | v :: .ref a :: r => ∃ fs : List Value, h a = some (ci, fs) ∧ xfit ty v (xfo (fs.set k v) (fun fs' => K n ls r (xset h a (ci, fs')) rc rs))
  | _ => False
theorem x_putBack (hC : xCx X cc own nL d) {ci k : Nat} {r0 : vw_C} (hci : ci < 100) (hc : xcl[ci]? = some r0) (hk : k < r0.2.2) {a : Nat} {fs : List Value} {v : Value} {h : xH} {H H' : Heap} {cell : Cell} {locs : List Loc} (hR : x_R X.D X.s h H) (hS : x_S X.D X.s.heap H locs) (e : h a = some (ci, fs)) (hz : X.D.sz ≤ a) (hl : fs.length = r0.2.2)
    (q2 : cell.cls = X.D.cid ci) (q3 : cell.vm = .none) (q4 : ∀ j, j < r0.2.2 → cell.slots[X.D.slo ci j]? = some (vp_V fs j)) (e1 : H'[a]? = some (cell.setSlot (X.D.slo ci k) v)) (e2 : H'.size = H.size) (e3 : ∀ q, q ≠ a → H'[q]? = H[q]?) : x_R X.D X.s (xset h a (ci, fs.set k v)) H' ∧ x_S X.D X.s.heap H' (locs ++ [⟨a, X.D.slo ci k⟩]) := by
  have hap : ∀ x y, x < r0.2.2 → y < r0.2.2 → x ≠ y → X.D.slo ci x ≠ X.D.slo ci y := va_apart (own := own) (D := (X.D.cid, X.D.slo)) (cl := xcl) (tys := []) (C := r0.1) (T := r0.2.1) hC.ts (xcl_in hc) (xty ci) (xcl_ty hc) (xcl_nm hc) ⟨hC.K.1, fun _ _ z => by simp at z⟩ hc
  refine ⟨hR.set ?_ e3, by rw [e2]; exact hS.1, fun q hq => (e3 q (by omega)).trans (hS.2.1 q hq), fun l hl2 => ?_⟩
  · unfold x_at
    rw [if_pos hci]
    exact ⟨hz, r0, hc, by rw [List.length_set]; exact hl, t_OB.to (V := updV (vp_V fs) k v) ⟨_, e1, q2, q3, t_set q4 hap hk v⟩ (fun j _ => vp_updV_set (by omega) v j)⟩
  · rcases List.mem_append.mp hl2 with z | z
    · exact hS.2.2 l z
    · rw [List.mem_singleton.mp z]; exact hz
theorem ok_put (hC : xCx X cc own nL d) {ci k i : Nat} {ty : FieldType} {ref nm ds : String} {r0 : vw_C} (hd : decode cc pc = .ok (.putfield i, 3)) (hci : ci < 100) (hc : xcl[ci]? = some r0) (hk : k < r0.2.2) (hf : r0.2.1 k = (ref, nm, ds, false)) (hp : parseFieldDescriptor ds = some ty) (hw : Cond.fieldLink own i ref nm ds ∈ xws) : xOk X pc (o_put ci k ty (pc + 3)) := by
  intro K hK ls st h rc rs ho A H locs kk n h1 h2 h3 h4 h5
  unfold o_put at ho
  split at ho
  · rename_i v a r
    obtain ⟨fs, e1, e2⟩ := ho
    obtain ⟨f1, f2, e2⟩ := xfit_iff e2
    rw [xfo_iff] at e2
    obtain ⟨h0, r', g1, g2, cell, q1, q2, q3, q4⟩ := x_obj hci (h2 _ _ e1)
    have hr : r' = r0 := Option.some.inj (g1.symm.trans hc)
    subst hr
    obtain ⟨hS, hfc, kC, hkC, hkind⟩ := hC.K.1 ci _ hc
    obtain ⟨cf, kf, fi, f, hi, hsl⟩ := hS k hk
    have hlay := hC.ts _ (xcl_in hc _ (u_in_lay hk))
    unfold u_lay at hlay
    rw [hf] at hlay hi
    rw [if_neg (by simp)] at hlay
    have hst := (u_facts hfc hkC (Or.inl hlay) hi).1
    have h6 := u_store hfc hkC hkind hlay hi hp f1 f2
    refine W.putK hC.x hC.b (f := f) ⟨hC.ow, hC.ts _ hw, ⟨cf, kf, fi, hi⟩, hst⟩ (by rw [q2]; exact h6) q1 q3 (by rw [hsl]; exact k2_hasslot (q4 k hk)) rfl rfl hd fun H' z1 z2 z3 => ?_
    rw [hsl] at z1 ⊢
    obtain ⟨y1, y2⟩ := x_putBack hC hci hc hk h2 h3 e1 h0 g2 q2 q3 q4 z1 z2 z3
    exact hK _ _ _ _ _ _ e2 A H' _ kk n h1 y1 y2 h4 h5
  · exact ho.elim
theorem ok_putN (hC : xCx X cc own nL d) {ci k i : Nat} {ty : FieldType} {ref nm ds host : String} {r0 : vw_C} (hd : decode cc pc = .ok (.putfield i, 3)) (hci : ci < 100) (hc : xcl[ci]? = some r0) (hk : k < r0.2.2) (hf : r0.2.1 k = (ref, nm, ds, false)) (hp : parseFieldDescriptor ds = some ty) (hw : Cond.fieldLinkNest own i ref nm ds host ∈ xws) : xOk X pc (o_put ci k ty (pc + 3)) := by
  intro K hK ls st h rc rs ho A H locs kk n h1 h2 h3 h4 h5
  unfold o_put at ho
  split at ho
  · rename_i v a r
    obtain ⟨fs, e1, e2⟩ := ho
    obtain ⟨f1, f2, e2⟩ := xfit_iff e2
    rw [xfo_iff] at e2
    obtain ⟨h0, r', g1, g2, cell, q1, q2, q3, q4⟩ := x_obj hci (h2 _ _ e1)
    have hr : r' = r0 := Option.some.inj (g1.symm.trans hc)
    subst hr
    obtain ⟨hS, hfc, kC, hkC, hkind⟩ := hC.K.1 ci _ hc
    obtain ⟨cf, kf, fi, f, hi, hsl⟩ := hS k hk
    have hlay := hC.ts _ (xcl_in hc _ (u_in_lay hk))
    unfold u_lay at hlay
    rw [hf] at hlay hi
    rw [if_neg (by simp)] at hlay
    have hst := (u_facts hfc hkC (Or.inl hlay) hi).1
    have h6 := u_store hfc hkC hkind hlay hi hp f1 f2
    refine va_WputK hC.x hC.b (f := f) hC.ow (hC.ts _ hw) hi hst (by rw [q2]; exact h6) q1 q3 (by rw [hsl]; exact k2_hasslot (q4 k hk)) rfl rfl hd fun H' z1 z2 z3 => ?_
    rw [hsl] at z1 ⊢
    obtain ⟨y1, y2⟩ := x_putBack hC hci hc hk h2 h3 e1 h0 g2 q2 q3 q4 z1 z2 z3
    exact hK _ _ _ _ _ _ e2 A H' _ kk n h1 y1 y2 h4 h5
  · exact ho.elim
theorem ok_putF (hC : xCx X cc own nL d) (hin : X.meth.name = "<init>") {ci k i : Nat} {ty : FieldType} {nm ds : String} {r0 : vw_C} (hd : decode cc pc = .ok (.putfield i, 3)) (hci : ci < 100) (hc : xcl[ci]? = some r0) (hk : k < r0.2.2) (hf : r0.2.1 k = (own, nm, ds, true)) (hp : parseFieldDescriptor ds = some ty) (hw : Cond.fieldLink own i own nm ds ∈ xws) : xOk X pc (o_put ci k ty (pc + 3)) := by
  intro K hK ls st h rc rs ho A H locs kk n h1 h2 h3 h4 h5
  unfold o_put at ho
  split at ho
  · rename_i v a r
    obtain ⟨fs, e1, e2⟩ := ho
    obtain ⟨f1, f2, e2⟩ := xfit_iff e2
    rw [xfo_iff] at e2
    obtain ⟨h0, r', g1, g2, cell, q1, q2, q3, q4⟩ := x_obj hci (h2 _ _ e1)
    have hr : r' = r0 := Option.some.inj (g1.symm.trans hc)
    subst hr
    obtain ⟨hS, hfc, kC, hkC, hkind⟩ := hC.K.1 ci _ hc
    obtain ⟨cf, kf, fi, f, hi, hsl⟩ := hS k hk
    have hlay := hC.ts _ (xcl_in hc _ (u_in_lay hk))
    unfold u_lay at hlay
    rw [hf] at hlay hi
    rw [if_pos rfl] at hlay
    have hst := (u_facts hfc hkC (Or.inr hlay) hi).1
    have hcf : X.m.cls = cf := by
      obtain ⟨_, _, c', _, _, _, -, -, hf', -, -, -, hown2, -⟩ := Cond.laysFinal_spec hlay
      have e1 : c' = cf := by have := hi.symm.trans hf'; simp at this; exact this.1.symm
      rw [← e1]; exact Option.some.inj (hC.ow.symm.trans hown2)
    have h6 := u_fits hfc hkC hkind (Or.inr hlay) hi hp f1 f2
    refine W.putFinK hC.x hC.b hC.ow (hC.ts _ hw) hi hst hcf hin (by rw [q2]; exact h6) q1 q3 (by rw [hsl]; exact k2_hasslot (q4 k hk)) rfl rfl hd fun H' z1 z2 z3 => ?_
    rw [hsl] at z1 ⊢
    obtain ⟨y1, y2⟩ := x_putBack hC hci hc hk h2 h3 e1 h0 g2 q2 q3 q4 z1 z2 z3
    exact hK _ _ _ _ _ _ e2 A H' _ kk n h1 y1 y2 h4 h5
  · exact ho.elim
/-- new -/
def o_new (ci N : Nat) (zs : List Value) (n : Nat) : xOp := fun K ls st h rc rs => 1 ≤ rc ∧ N ≤ rs ∧ ∀ q : Nat, h q = none → K n ls (.ref q :: st) (xset h q (ci, zs)) (rc - 1) (rs - N)
theorem ok_new (hC : xCx X cc own nL d) {ci i : Nat} {zs : List Value} {r0 : vw_C} (hd : decode cc pc = .ok (.new i, 3)) (hci : ci < 100) (hc : xcl[ci]? = some r0) (hz : (List.range r0.2.2).map (fun k => defaultValue (xty ci k)) = zs) (hw1 : Cond.classLink own i r0.1 ∈ xws) (hw2 : Cond.instantiable r0.1 r0.2.2 ∈ xws) (hw3 : Cond.initialized r0.1 ∈ xws) : xOk X pc (o_new ci r0.2.2 zs (pc + 3)) := by
  intro K hK ls st h rc rs ho A H locs kk n h1 h2 h3 h4 h5
  obtain ⟨e1, e2, e3⟩ := ho
  have hKn := hC.K.1 ci _ hc
  refine W.newcK hC.x hC.b hC.ow (hC.ts _ hw1) (hC.ts _ hw2) (hC.ts _ hw3) rfl hd (by omega) (by omega) hKn.2.1 rfl fun H1 kC hkC z1 z2 z3 => ?_
  have hs1 : X.s.heap.size ≤ H.size := h3.1
  have hsz : X.D.sz ≤ H.size := Nat.le_trans hC.z h3.1
  refine hK _ _ _ _ _ _ (e3 H.size h2.fresh) A H1 locs (kk + 1) (n + r0.2.2) h1 (h2.push ?_ z3) ⟨by omega, fun q hq => (z3 q (by omega)).trans (h3.2.1 q hq), h3.2.2⟩ (by omega) (by omega)
  unfold x_at
  rw [if_pos hci]
  refine ⟨hsz, r0, hc, by rw [← hz]; simp, (u_born (xty ci) hC.ts (xcl_in hc) hKn hkC z1 (xcl_ty hc)).to (fun j hj => ?_)⟩
  rw [← hz]
  simp [vp_V, hj]
def o_newa (t : Nat) (dv : Value) (n : Nat) : xOp := fun K ls st h rc rs => match st with
  | .int c :: r => ∃ N : Nat, c = nI N ∧ N < 2 ^ 24 ∧ 1 ≤ rc ∧ N ≤ rs ∧ ∀ q : Nat, h q = none → K n ls (.ref q :: r) (xset h q (100 + t, List.replicate N dv)) (rc - 1) (rs - N)
  | _ => False
theorem ok_newa (hC : xCx X cc own nL d) {t : Nat} {at' : ArrayType} {dv : Value} {ty : FieldType} (hd : decode cc pc = .ok (.newarray at', 2)) (ht : t < 100) (hty : xela[t]? = some ty) (ha : newarray.typeOf at' = ty) (hdv : defaultValue ty = dv) (hcb : componentBytes ty ≤ 8) (hw : Cond.arrayClass ty ∈ xws) (hnr : ∀ C, ty ≠ .object C) : xOk X pc (o_newa t dv (pc + 2)) := by
  intro K hK ls st h rc rs ho A H locs kk n h1 h2 h3 h4 h5
  unfold o_newa at ho
  split at ho
  · obtain ⟨N, e0, e1, e2, e3, e4⟩ := ho
    subst e0
    subst ha
    have hcl : (nI N).toNatClampNeg = N := nI_clamp (by omega)
    refine W.newa hC.x hC.b (hC.ts _ hw) rfl hd rfl (nI_pos (by omega)) (by rw [hcl]; exact Nat.le_trans (Nat.mul_le_mul (Nat.le_of_lt e1) hcb) (by decide)) (by omega) (by rw [hcl]; omega) fun cA kA comp z1 z2 z3 => ?_
    rw [hcl]
    have hs1 : X.s.heap.size ≤ H.size := h3.1
    have hsz : X.D.sz ≤ H.size := Nat.le_trans hC.z h3.1
    have hcA : cA = X.D.cid (100 + t) := by
      have k1 := (hC.K.2 t _ hty).2
      cases at' <;> exact Option.some.inj (z1.symm.trans k1)
    subst hcA
    refine hK _ _ _ _ _ _ (e4 H.size h2.fresh) A _ locs (kk + 1) (n + N) h1 (h2.push ?_ ?_) ⟨by simp; omega, fun q hq => ?_, h3.2.2⟩ (by omega) (by omega)
    · refine x_arr_mk ht hsz (by rw [List.length_replicate]; omega) ⟨_, hty⟩ ?_
      rw [hdv]
      simp
    · intro q hq
      rw [Array.getElem?_push, if_neg (Nat.ne_of_lt hq)]
    · rw [Array.getElem?_push, if_neg (by omega)]
      exact h3.2.1 q hq
  · exact ho.elim
def o_anew (t n : Nat) : xOp := fun K ls st h rc rs => match st with
  | .int c :: r => ∃ N : Nat, c = nI N ∧ N < 2 ^ 24 ∧ 1 ≤ rc ∧ N ≤ rs ∧ ∀ q : Nat, h q = none → K n ls (.ref q :: r) (xset h q (100 + t, List.replicate N .null)) (rc - 1) (rs - N)
  | _ => False
theorem ok_anew (hC : xCx X cc own nL d) {t i : Nat} {C : String} (hd : decode cc pc = .ok (.anewarray i, 3)) (ht : t < 100) (hty : xela[t]? = some (.object C)) (hw1 : Cond.classLink own i C ∈ xws) (hw2 : Cond.arrayOver (.object C) ∈ xws) : xOk X pc (o_anew t (pc + 3)) := by
  intro K hK ls st h rc rs ho A H locs kk n h1 h2 h3 h4 h5
  unfold o_anew at ho
  split at ho
  · obtain ⟨N, e0, e1, e2, e3, e4⟩ := ho
    subst e0
    have hcl : (nI N).toNatClampNeg = N := nI_clamp (by omega)
    refine W.anew hC.x hC.b hC.ow (hC.ts _ hw1) (hC.ts _ hw2) rfl hd rfl (nI_pos (by omega)) (by rw [hcl]; omega) (by omega) (by rw [hcl]; omega) fun cA kA comp z1 z2 z3 z4 => ?_
    rw [hcl]
    have hs1 : X.s.heap.size ≤ H.size := h3.1
    have hsz : X.D.sz ≤ H.size := Nat.le_trans hC.z h3.1
    have hcA : cA = X.D.cid (100 + t) := by
      obtain ⟨kA, comp, k1, k2, k3, k4⟩ := (hC.K.2 t _ hty).2
      exact Option.some.inj (z1.symm.trans k4)
    subst hcA
    refine hK _ _ _ _ _ _ (e4 H.size h2.fresh) A _ locs (kk + 1) (n + N) h1 (h2.push ?_ ?_) ⟨by simp; omega, fun q hq => ?_, h3.2.2⟩ (by omega) (by omega)
    · refine x_arr_mk ht hsz (by rw [List.length_replicate]; omega) ⟨_, hty⟩ ?_
      simp
    · intro q hq
      rw [Array.getElem?_push, if_neg (Nat.ne_of_lt hq)]
    · rw [Array.getElem?_push, if_neg (by omega)]
      exact h3.2.1 q hq
  · exact ho.elim
/-- arrays: length, load, store -/
def o_len (n : Nat) : xOp := fun K ls st h rc rs => match st with
  | .ref a :: r => ∃ (t : Nat) (vs : List Value), (h a = some (100 + t, vs) ∨ h a = some (200 + t, vs)) ∧ t < 100 ∧ K n ls (.int (nI vs.length) :: r) h rc rs
  | _ => False
theorem ok_len (hC : xCx X cc own nL d) (hd : decode cc pc = .ok (.arraylength, 1)) : xOk X pc (o_len (pc + 1)) := by
  intro K hK ls st h rc rs ho A H locs kk n h1 h2 h3 h4 h5
  unfold o_len at ho
  split at ho
  · obtain ⟨t, vs, e1, e2, e3⟩ := ho
    obtain ⟨cell, g1, g2, g3, g4, g5⟩ := x_anyarr hC.K h2 e2 e1
    exact W.alen hC.x hC.b g1 g2 (by rw [g4, List.size_toArray]; rfl) rfl rfl hd (hK _ _ _ _ _ _ e3 A H locs kk n h1 h2 h3 h4 h5)
  · exact ho.elim
/-- a load of an array of element type number t -/
def o_ld (t n : Nat) : xOp := fun K ls st h rc rs => match st with
  | .int i :: .ref a :: r => ∃ (vs : List Value) (j : Nat) (v : Value), (h a = some (100 + t, vs) ∨ h a = some (200 + t, vs)) ∧ i = nI j ∧ vs[j]? = some v ∧ K n ls (v :: r) h rc rs
  | _ => False
theorem ok_iald (hC : xCx X cc own nL d) {t : Nat} (hd : decode cc pc = .ok (.iaload, 1)) (ht : t < 100) (hty : xel t = .int) : xOk X pc (o_ld t (pc + 1)) := by
  intro K hK ls st h rc rs ho A H locs kk n h1 h2 h3 h4 h5
  unfold o_ld at ho
  split at ho
  · obtain ⟨vs, j, v, e1, e2, e3, e4⟩ := ho
    obtain ⟨cell, g1, g2, g3, g4, g5⟩ := x_anyarr hC.K h2 ht e1
    have hj : j < vs.length := (List.getElem?_eq_some_iff.mp e3).1
    exact W.iald hC.x hC.b g1 (by rw [← hty]; exact g2) g3 (x_ain g4 e2 hj g5) (by rw [g4, e2, nI_clamp (by omega), List.getElem?_toArray]; exact e3) rfl rfl hd (hK _ _ _ _ _ _ e4 A H locs kk n h1 h2 h3 h4 h5)
  · exact ho.elim
theorem ok_bald (hC : xCx X cc own nL d) {t : Nat} (hd : decode cc pc = .ok (.baload, 1)) (ht : t < 100) (hty : xel t = .byte) : xOk X pc (o_ld t (pc + 1)) := by
  intro K hK ls st h rc rs ho A H locs kk n h1 h2 h3 h4 h5
  unfold o_ld at ho
  split at ho
  · obtain ⟨vs, j, v, e1, e2, e3, e4⟩ := ho
    obtain ⟨cell, g1, g2, g3, g4, g5⟩ := x_anyarr hC.K h2 ht e1
    have hj : j < vs.length := (List.getElem?_eq_some_iff.mp e3).1
    exact W.bald hC.x hC.b g1 (by rw [← hty]; exact g2) g3 (x_ain g4 e2 hj g5) (by rw [g4, e2, nI_clamp (by omega), List.getElem?_toArray]; exact e3) rfl rfl hd (hK _ _ _ _ _ _ e4 A H locs kk n h1 h2 h3 h4 h5)
  · exact ho.elim
theorem ok_zald (hC : xCx X cc own nL d) {t : Nat} (hd : decode cc pc = .ok (.baload, 1)) (ht : t < 100) (hty : xel t = .boolean) : xOk X pc (o_ld t (pc + 1)) := by
  intro K hK ls st h rc rs ho A H locs kk n h1 h2 h3 h4 h5
  unfold o_ld at ho
  split at ho
  · obtain ⟨vs, j, v, e1, e2, e3, e4⟩ := ho
    obtain ⟨cell, g1, g2, g3, g4, g5⟩ := x_anyarr hC.K h2 ht e1
    have hj : j < vs.length := (List.getElem?_eq_some_iff.mp e3).1
    exact W.zald hC.x hC.b g1 (by rw [← hty]; exact g2) g3 (x_ain g4 e2 hj g5) (by rw [g4, e2, nI_clamp (by omega), List.getElem?_toArray]; exact e3) rfl rfl hd (hK _ _ _ _ _ _ e4 A H locs kk n h1 h2 h3 h4 h5)
  · exact ho.elim
theorem ok_cald (hC : xCx X cc own nL d) {t : Nat} (hd : decode cc pc = .ok (.caload, 1)) (ht : t < 100) (hty : xel t = .char) : xOk X pc (o_ld t (pc + 1)) := by
  intro K hK ls st h rc rs ho A H locs kk n h1 h2 h3 h4 h5
  unfold o_ld at ho
  split at ho
  · obtain ⟨vs, j, v, e1, e2, e3, e4⟩ := ho
    obtain ⟨cell, g1, g2, g3, g4, g5⟩ := x_anyarr hC.K h2 ht e1
    have hj : j < vs.length := (List.getElem?_eq_some_iff.mp e3).1
    exact W.cald hC.x hC.b g1 (by rw [← hty]; exact g2) g3 (x_ain g4 e2 hj g5) (by rw [g4, e2, nI_clamp (by omega), List.getElem?_toArray]; exact e3) rfl rfl hd (hK _ _ _ _ _ _ e4 A H locs kk n h1 h2 h3 h4 h5)
  · exact ho.elim
theorem ok_lald (hC : xCx X cc own nL d) {t : Nat} (hd : decode cc pc = .ok (.laload, 1)) (ht : t < 100) (hty : xel t = .long) : xOk X pc (o_ld t (pc + 1)) := by
  intro K hK ls st h rc rs ho A H locs kk n h1 h2 h3 h4 h5
  unfold o_ld at ho
  split at ho
  · obtain ⟨vs, j, v, e1, e2, e3, e4⟩ := ho
    obtain ⟨cell, g1, g2, g3, g4, g5⟩ := x_anyarr hC.K h2 ht e1
    have hj : j < vs.length := (List.getElem?_eq_some_iff.mp e3).1
    exact W.lald hC.x hC.b g1 (by rw [← hty]; exact g2) g3 (x_ain g4 e2 hj g5) (by rw [g4, e2, nI_clamp (by omega), List.getElem?_toArray]; exact e3) rfl rfl hd (hK _ _ _ _ _ _ e4 A H locs kk n h1 h2 h3 h4 h5)
  · exact ho.elim
theorem ok_aald (hC : xCx X cc own nL d) {t : Nat} {C : String} (hd : decode cc pc = .ok (.aaload, 1)) (ht : t < 100) (hty : xel t = .object C) : xOk X pc (o_ld t (pc + 1)) := by
  intro K hK ls st h rc rs ho A H locs kk n h1 h2 h3 h4 h5
  unfold o_ld at ho
  split at ho
  · obtain ⟨vs, j, v, e1, e2, e3, e4⟩ := ho
    obtain ⟨cell, g1, g2, g3, g4, g5⟩ := x_anyarr hC.K h2 ht e1
    have hj : j < vs.length := (List.getElem?_eq_some_iff.mp e3).1
    exact W.aald (ty := .object C) hC.x hC.b g1 (by rw [← hty]; exact g2) rfl g3 (x_ain g4 e2 hj g5) (by rw [g4, e2, nI_clamp (by omega), List.getElem?_toArray]; exact e3) rfl rfl hd (hK _ _ _ _ _ _ e4 A H locs kk n h1 h2 h3 h4 h5)
  · exact ho.elim
theorem x_stBack {D : xD} {s : State} {h : xH} {H H' : Heap} {locs : List Loc} {a t j : Nat} {vs : List Value} {v : Value} (ht : t < 100) (hR : x_R D s h H) (hS : x_S D s.heap H locs) (e : h a = some (100 + t, vs)) (hj : j < vs.length)
    (e1 : ∀ cell : Cell, H[a]? = some cell → H'[a]? = some (cell.setSlot j v)) (e2 : H'.size = H.size) (e3 : ∀ q, q ≠ a → H'[q]? = H[q]?) : x_R D s (xset h a (100 + t, vs.set j v)) H' ∧ x_S D s.heap H' (locs ++ [⟨a, j⟩]) := by
  obtain ⟨h0, h1, h2, h3⟩ := x_arr ht (hR _ _ e)
  have e4 := e1 _ h3
  refine ⟨hR.set (x_arr_mk ht h0 (by rw [List.length_set]; exact h1) h2 ?_) e3, by rw [e2]; exact hS.1, fun q hq => (e3 q (by omega)).trans (hS.2.1 q hq), fun l hl => ?_⟩
  · rw [e4]
    simp [Cell.setSlot]
  · rcases List.mem_append.mp hl with z | z
    · exact hS.2.2 l z
    · rw [List.mem_singleton.mp z]; exact h0
def o_iast (t n : Nat) : xOp := fun K ls st h rc rs => match st with
  | .int x :: .int i :: .ref a :: r => ∃ (vs : List Value) (j : Nat), h a = some (100 + t, vs) ∧ i = nI j ∧ j < vs.length ∧ K n ls r (xset h a (100 + t, vs.set j (.int x))) rc rs
  | _ => False
theorem ok_iast (hC : xCx X cc own nL d) {t : Nat} (hd : decode cc pc = .ok (.iastore, 1)) (ht : t < 100) (hty : xel t = .int) : xOk X pc (o_iast t (pc + 1)) := by
  intro K hK ls st h rc rs ho A H locs kk n h1 h2 h3 h4 h5
  unfold o_iast at ho
  split at ho
  · rename_i x i a r
    obtain ⟨vs, j, e1, e2, e3, e4⟩ := ho
    obtain ⟨cell, g1, g2, g3, g4, g5⟩ := x_anyarr hC.K h2 ht (Or.inl e1)
    refine W.iast hC.x hC.b g1 (by rw [← hty]; exact g2) g3 (x_ain g4 e2 e3 g5) rfl rfl hd fun H' z1 z2 z3 => ?_
    have ej : (nI j).toNatClampNeg = j := nI_clamp (by omega)
    rw [e2, ej] at z1 ⊢
    obtain ⟨y1, y2⟩ := x_stBack (v := .int x) ht h2 h3 e1 e3 (fun c hc => by cases g1.symm.trans hc; exact z1) z2 z3
    exact hK _ _ _ _ _ _ e4 A H' _ kk n h1 y1 y2 h4 h5
  · exact ho.elim
def o_bast (t n : Nat) : xOp := fun K ls st h rc rs => match st with
  | .int x :: .int i :: .ref a :: r => ∃ (vs : List Value) (j : Nat), h a = some (100 + t, vs) ∧ i = nI j ∧ j < vs.length ∧ K n ls r (xset h a (100 + t, vs.set j (.int x.toInt8.toInt32))) rc rs
  | _ => False
theorem ok_bast (hC : xCx X cc own nL d) {t : Nat} (hd : decode cc pc = .ok (.bastore, 1)) (ht : t < 100) (hty : xel t = .byte) : xOk X pc (o_bast t (pc + 1)) := by
  intro K hK ls st h rc rs ho A H locs kk n h1 h2 h3 h4 h5
  unfold o_bast at ho
  split at ho
  · rename_i x i a r
    obtain ⟨vs, j, e1, e2, e3, e4⟩ := ho
    obtain ⟨cell, g1, g2, g3, g4, g5⟩ := x_anyarr hC.K h2 ht (Or.inl e1)
    refine W.bast hC.x hC.b g1 (by rw [← hty]; exact g2) g3 (x_ain g4 e2 e3 g5) rfl rfl hd fun H' z1 z2 z3 => ?_
    have ej : (nI j).toNatClampNeg = j := nI_clamp (by omega)
    rw [e2, ej] at z1 ⊢
    obtain ⟨y1, y2⟩ := x_stBack (v := .int x.toInt8.toInt32) ht h2 h3 e1 e3 (fun c hc => by cases g1.symm.trans hc; exact z1) z2 z3
    exact hK _ _ _ _ _ _ e4 A H' _ kk n h1 y1 y2 h4 h5
  · exact ho.elim
def o_last (t n : Nat) : xOp := fun K ls st h rc rs => match st with
  | .long x :: .int i :: .ref a :: r => ∃ (vs : List Value) (j : Nat), h a = some (100 + t, vs) ∧ i = nI j ∧ j < vs.length ∧ K n ls r (xset h a (100 + t, vs.set j (.long x))) rc rs
  | _ => False
theorem ok_last (hC : xCx X cc own nL d) {t : Nat} (hd : decode cc pc = .ok (.lastore, 1)) (ht : t < 100) (hty : xel t = .long) : xOk X pc (o_last t (pc + 1)) := by
  intro K hK ls st h rc rs ho A H locs kk n h1 h2 h3 h4 h5
  unfold o_last at ho
  split at ho
  · rename_i x i a r
    obtain ⟨vs, j, e1, e2, e3, e4⟩ := ho
    obtain ⟨cell, g1, g2, g3, g4, g5⟩ := x_anyarr hC.K h2 ht (Or.inl e1)
    refine W.last hC.x hC.b g1 (by rw [← hty]; exact g2) g3 (x_ain g4 e2 e3 g5) rfl rfl hd fun H' z1 z2 z3 => ?_
    have ej : (nI j).toNatClampNeg = j := nI_clamp (by omega)
    rw [e2, ej] at z1 ⊢
    obtain ⟨y1, y2⟩ := x_stBack (v := .long x) ht h2 h3 e1 e3 (fun c hc => by cases g1.symm.trans hc; exact z1) z2 z3
    exact hK _ _ _ _ _ _ e4 A H' _ kk n h1 y1 y2 h4 h5
  · exact ho.elim
/-- a reference is stored into an array of references (element type number t, its class C): null, or an object of a class that can be cast to C -/
def o_aast (t : Nat) (ok : Nat → Bool) (n : Nat) : xOp := fun K ls st h rc rs => match st with
  | .ref b :: .int i :: .ref a :: r => ∃ (vs : List Value) (j ci : Nat) (fs : List Value), h a = some (100 + t, vs) ∧ i = nI j ∧ j < vs.length ∧ h b = some (ci, fs) ∧ ok ci = true ∧ K n ls r (xset h a (100 + t, vs.set j (.ref b))) rc rs
  | .null :: .int i :: .ref a :: r => ∃ (vs : List Value) (j : Nat), h a = some (100 + t, vs) ∧ i = nI j ∧ j < vs.length ∧ K n ls r (xset h a (100 + t, vs.set j .null)) rc rs
  | _ => False
theorem ok_aast (hC : xCx X cc own nL d) {t : Nat} {C : String} {ok : Nat → Bool} (hd : decode cc pc = .ok (.aastore, 1)) (ht : t < 100) (hty : xela[t]? = some (.object C)) (hok : ∀ ci, ok ci = true → ci < 100 ∧ ∃ r0, xcl[ci]? = some r0 ∧ (r0.1 = C ∨ Cond.castable r0.1 C ∈ xws)) : xOk X pc (o_aast t ok (pc + 1)) := by
  intro K hK ls st h rc rs ho A H locs kk n h1 h2 h3 h4 h5
  unfold o_aast at ho
  have hel : xel t = .object C := by simp [xel, List.getD, hty]
  split at ho
  · rename_i b i a r
    obtain ⟨vs, j, ci, fs, e1, e2, e3, e4, e5, e6⟩ := ho
    obtain ⟨hci, r0, hc, hcast⟩ := hok ci e5
    obtain ⟨g0, r', w1, w2, cellV, w3, w4, w5, w6⟩ := x_obj hci (h2 _ _ e4)
    have hr : r' = r0 := Option.some.inj (w1.symm.trans hc)
    subst hr
    have hcls := (hC.K.1 ci _ hc).2
    obtain ⟨kC, hkC, -⟩ := hcls.2
    obtain ⟨kA, comp, k1, k2, k3, -⟩ := (hC.K.2 t _ hty).2
    obtain ⟨q0, q1, q2, q3⟩ := x_arr ht (h2 _ _ e1)
    have hasg : X.s.vm.assignable (X.D.cid ci) comp = true := by
      rcases hcast with z | z
      · rw [z] at hcls
        have hcomp : comp = X.D.cid ci := Option.some.inj (k3.symm.trans hcls.1)
        subst hcomp
        exact va_assign hcls
      · have z1 := hC.ts _ z
        obtain ⟨c1, t1, z2, z3, z4⟩ := Cond.castable_spec z1
        cases Option.some.inj (hcls.1.symm.trans z2)
        cases Option.some.inj (k3.symm.trans z3)
        exact z4
    obtain ⟨kcomp, hkcomp⟩ := Vm.classAt_of_findClass k3
    have ej : (nI j).toNatClampNeg = j := nI_clamp (by omega)
    refine W.aast hC.x hC.b q3 (fun q z => by cases z) (fun z => by cases z) k1 k2 rfl hkcomp (by subst e2; rw [ej]; exact ⟨nI_pos (by omega), by simpa using e3⟩) w3 (fun q z => by rw [w5] at z; cases z) (by rw [w4]; exact hkC) (by rw [w4]; exact hasg) rfl rfl hd fun H' z1 z2 z3 => ?_
    rw [e2, ej] at z1 ⊢
    obtain ⟨y1, y2⟩ := x_stBack (v := .ref b) ht h2 h3 e1 e3 (fun c hc => by cases q3.symm.trans hc; exact z1) z2 z3
    exact hK _ _ _ _ _ _ e6 A H' _ kk n h1 y1 y2 h4 h5
  · obtain ⟨vs, j, e1, e2, e3, e6⟩ := ho
    obtain ⟨cell, g1, g2, g3, g4, g5⟩ := x_anyarr hC.K h2 ht (Or.inl e1)
    have ej : (nI j).toNatClampNeg = j := nI_clamp (by omega)
    refine va_WaastN hC.x hC.b g1 (by rw [← hel]; exact g2) g3 (x_ain g4 e2 e3 g5) rfl rfl hd fun H' z1 z2 z3 => ?_
    rw [e2, ej] at z1 ⊢
    obtain ⟨y1, y2⟩ := x_stBack (v := .null) ht h2 h3 e1 e3 (fun c hc => by cases g1.symm.trans hc; exact z1) z2 z3
    exact hK _ _ _ _ _ _ e6 A H' _ kk n h1 y1 y2 h4 h5
  · exact ho.elim
/-- a cast that holds -/
def o_cast (ok : Nat → Bool) (n : Nat) : xOp := fun K ls st h rc rs => match st with
  | .null :: r => K n ls (.null :: r) h rc rs
  | .ref a :: r => ∃ (ci : Nat) (fs : List Value), h a = some (ci, fs) ∧ ok ci = true ∧ K n ls (.ref a :: r) h rc rs
  | _ => False
theorem ok_cast (hC : xCx X cc own nL d) {i : Nat} {C : String} {ok : Nat → Bool} (hd : decode cc pc = .ok (.checkcast i, 3)) (hw : Cond.classLink own i C ∈ xws) (hok : ∀ ci, ok ci = true → ci < 100 ∧ ∃ r0, xcl[ci]? = some r0 ∧ r0.1 = C) : xOk X pc (o_cast ok (pc + 3)) := by
  intro K hK ls st h rc rs ho A H locs kk n h1 h2 h3 h4 h5
  unfold o_cast at ho
  split at ho
  · exact lv_castN hC.x hC.b hd (hK _ _ _ _ _ _ ho A H locs kk n h1 h2 h3 h4 h5)
  · obtain ⟨ci, fs, e1, e2, e3⟩ := ho
    obtain ⟨hci, r0, hc, rfl⟩ := hok ci e2
    obtain ⟨g0, r', w1, w2, cellV, w3, w4, w5, w6⟩ := x_obj hci (h2 _ _ e1)
    have hcls := (hC.K.1 ci _ hc).2
    exact va_castS hC.x hC.b hC.ow (hC.ts _ hw) hcls ⟨cellV, w3, by rw [w5]; rfl, by rw [w4]; exact hcls.1⟩ hd (hK _ _ _ _ _ _ e3 A H locs kk n h1 h2 h3 h4 h5)
  · exact ho.elim
/-- a static field of before the run -/
def o_gets (D : xD) (i n : Nat) : xOp := fun K ls st h rc rs => K n ls (D.sv i :: st) h rc rs
theorem ok_gets (hC : xCx X cc own nL d) {i j : Nat} {q : String × String × String} (hd : decode cc pc = .ok (.getstatic j, 3)) (hq : xst[i]? = some q) (hw : Cond.fieldLink own j q.1 q.2.1 q.2.2 ∈ xws) : xOk X pc (o_gets X.D i (pc + 3)) := by
  intro K hK ls st h rc rs ho A H locs kk n h1 h2 h3 h4 h5
  exact va_gets (A := fun q => X.D.sz ≤ q) hC.x hC.b (hC.E.1 i q hq) ⟨h3.1, fun a _ z => h3.2.1 a (Nat.not_le.mp z), h3.2.2⟩ hC.ow (hC.ts _ hw) (fun _ z => z) hd (hK _ _ _ _ _ _ ho A H locs kk n h1 h2 h3 h4 h5)
/-- a constant text -/
def o_ldcS (D : xD) (i n : Nat) : xOp := fun K ls st h rc rs => K n ls (D.sv (1000 + i) :: st) h rc rs
theorem ok_ldcS (hC : xCx X cc own nL d) {i j : Nat} {tx : String} (hd : decode cc pc = .ok (.ldc j, 2)) (hq : xsr[i]? = some (own, j, tx)) : xOk X pc (o_ldcS X.D i (pc + 2)) := by
  intro K hK ls st h rc rs ho A H locs kk n h1 h2 h3 h4 h5
  obtain ⟨a, e1, e2⟩ := hC.E.2.1 i _ hq
  unfold o_ldcS at ho
  rw [e1] at ho
  exact va_ldcS hC.x hC.b hC.ow e2 hd (hK _ _ _ _ _ _ ho A H locs kk n h1 h2 h3 h4 h5)
end XHEAP
end
section
/-! THE ABSTRACT MACHINE, 5: returns, calls, contracts -/
section XRET
variable {X : xX} {cc : ByteArray} {own : String} {nL d pc : Nat}
theorem x_conv {H : Heap} {locs : List Loc} {k n : Nat} {g : JFrame} (hk : k ≤ X.R.cells) (hn : n ≤ X.R.slots) (hw : W X.p X.l X.e X.R X.s X.m X.args X.below X.meth X.c H locs k n (MQ X.below (fun _ st oc t => xQ X.D X.P st oc t) X.args X.s k n (fun q => X.D.sz ≤ q)) g) : xW X H locs k n g := by
  intro T hT Y
  obtain ⟨t, a, o, b1, b2, b3, L, ⟨-, b4, b5⟩, b6⟩ := hw T hT Y
  exact ⟨t, a, o, b1, b2, b3, L, ⟨b4, b5.mono hk hn⟩, b6⟩
theorem x_fin {h : xH} {H : Heap} {locs : List Loc} {v : Option Value} (h2 : x_R X.D X.s h H) (h3 : x_S X.D X.s.heap H locs) (hP : X.P (.inl v) h) : ∀ t : State, t.heap = H → X.s.WarmedH t.vm → xQ X.D X.P X.s (.returned v) t := fun t ht _ =>
  ⟨.inl v, h, rfl, trivial, hP, by rw [ht]; exact h2, fun q hq => by rw [ht]; exact h3.2.1 q hq, by rw [ht]; exact h3.1⟩
def o_iret (P : xO → xH → Prop) : xOp := fun _ _ st h _ _ => match st with
  | [.int v] => P (.inl (some (.int v))) h
  | _ => False
theorem ok_iret (hC : xCx X cc own nL d) (hr : X.meth.sig.returnType = some .int) (hd : decode cc pc = .ok (.ireturn, 1)) : xOk X pc (o_iret X.P) := by
  intro K hK ls st h rc rs ho A H locs k n h1 h2 h3 h4 h5
  unfold o_iret at ho
  split at ho
  · exact x_conv (by omega) (by omega) (W.iret (Qc := fun _ st oc t => xQ X.D X.P st oc t) (free := fun q => X.D.sz ≤ q) hC.x hC.b hr (x_fin h2 h3 ho) h3.2.2 hd hC.lk)
  · exact ho.elim
def o_zret (ty : FieldType) (P : xO → xH → Prop) : xOp := fun _ _ st h _ _ => match st with
  | [.int v] => narrow ty (.int v) = .int v ∧ P (.inl (some (.int v))) h
  | _ => False
theorem ok_zret (hC : xCx X cc own nL d) {ty : FieldType} (hr : X.meth.sig.returnType = some ty) (hd : decode cc pc = .ok (.ireturn, 1)) : xOk X pc (o_zret ty X.P) := by
  intro K hK ls st h rc rs ho A H locs k n h1 h2 h3 h4 h5
  unfold o_zret at ho
  split at ho
  · exact x_conv (by omega) (by omega) (W.zret (Qc := fun _ st oc t => xQ X.D X.P st oc t) (free := fun q => X.D.sz ≤ q) hC.x hC.b hr ho.1 (x_fin h2 h3 ho.2) h3.2.2 hd hC.lk)
  · exact ho.elim
def o_lret (P : xO → xH → Prop) : xOp := fun _ _ st h _ _ => match st with
  | [.long v] => P (.inl (some (.long v))) h
  | _ => False
theorem ok_lret (hC : xCx X cc own nL d) (hr : X.meth.sig.returnType = some .long) (hd : decode cc pc = .ok (.lreturn, 1)) : xOk X pc (o_lret X.P) := by
  intro K hK ls st h rc rs ho A H locs k n h1 h2 h3 h4 h5
  unfold o_lret at ho
  split at ho
  · exact x_conv (by omega) (by omega) (W.lret (Qc := fun _ st oc t => xQ X.D X.P st oc t) (free := fun q => X.D.sz ≤ q) hC.x hC.b hr (x_fin h2 h3 ho) h3.2.2 hd hC.lk)
  · exact ho.elim
def o_vret (P : xO → xH → Prop) : xOp := fun _ _ st h _ _ => match st with
  | [] => P (.inl none) h
  | _ => False
theorem ok_vret (hC : xCx X cc own nL d) (hr : X.meth.sig.returnType = none) (hd : decode cc pc = .ok (.return_, 1)) : xOk X pc (o_vret X.P) := by
  intro K hK ls st h rc rs ho A H locs k n h1 h2 h3 h4 h5
  unfold o_vret at ho
  split at ho
  · exact x_conv (by omega) (by omega) (W.vret (Qc := fun _ st oc t => xQ X.D X.P st oc t) (free := fun q => X.D.sz ≤ q) hC.x hC.b hr (x_fin h2 h3 ho) h3.2.2 hd hC.lk)
  · exact ho.elim
def o_aret (P : xO → xH → Prop) : xOp := fun _ _ st h _ _ => match st with
  | [.ref a] => P (.inl (some (.ref a))) h
  | [.null] => P (.inl (some .null)) h
  | _ => False
theorem ok_aret (hC : xCx X cc own nL d) {rt : FieldType} (hr : X.meth.sig.returnType = some rt) (hrt : (∃ n, rt = .object n) ∨ ∃ t, rt = .array t) (hd : decode cc pc = .ok (.areturn, 1)) : xOk X pc (o_aret X.P) := by
  intro K hK ls st h rc rs ho A H locs k n h1 h2 h3 h4 h5
  unfold o_aret at ho
  split at ho
  · exact x_conv (by omega) (by omega) (W.aret (Qc := fun _ st oc t => xQ X.D X.P st oc t) (free := fun q => X.D.sz ≤ q) hC.x hC.b hr hrt (Or.inr ⟨_, rfl⟩) (x_fin h2 h3 ho) h3.2.2 hd hC.lk)
  · exact x_conv (by omega) (by omega) (W.aret (Qc := fun _ st oc t => xQ X.D X.P st oc t) (free := fun q => X.D.sz ≤ q) hC.x hC.b hr hrt (Or.inl rfl) (x_fin h2 h3 ho) h3.2.2 hd hC.lk)
  · exact ho.elim
end XRET
/-- behind the invocation of a method that has a contract: it has returned, or thrown -/
theorem x_enter {p : Program} {l : Launch} {e : Env} {R : Room} {s : State} {m : MethodId} {args : Array Value} {below : List Frame} {meth : Method} {c : Code} {U : State} {Ls : List Loc} {c0 s0 : Nat} (X : Stand p l e R s m args below meth c U Ls c0 s0)
    {D : xD} {d mc ms maxL len : Nat} {y : MethodName} {av : List Value} {h : xH} {P : xO → xH → Prop} {bytes : ByteArray} {ret : Option FieldType} (hM : xMet l D d y av h mc ms P) (htr : e.platform.stackTraces = false)
    {g : JFrame} {ig : Instr} {mk : MethodId} (hg : g.method = m) (hsize : g.locals.size = c.maxLocals) (hdg : decode c.code g.pc = .ok (ig, len)) (hW : 2 * g.monitorRoom + (g.stack.map fun v => v.category).sum ≤ 8) (hn : U.methodNamed? y = some mk)
    (hws : ∀ w ∈ xws, ∀ (a' : Array Value) (V : State), s.WarmedH V.vm → w.before a' V = true) (hcode : ∃ (hh : List (Nat × Nat × Nat × Nat)), Cond.code y bytes maxL ret ∈ xws ∨ Cond.codeWith y bytes maxL ret hh ∈ xws) (hini : Cond.initialized y.cls ∈ xws) (hfr : d + 1 ≤ R.frames) (hlo : 8 + (maxL + 11) + (30 * d + 130) ≤ R.locals) (hc : c0 + mc ≤ R.cells) (hs : s0 + ms ≤ R.slots)
    (hR : x_R D U h U.heap) (hK : x_K D U) (hE : x_E D U U.heap) (hz : D.sz ≤ U.heap.size) :
    ∃ (o : xO) (h' : xH) (U' : State) (L : List Loc), Stand p l e R s m args below meth c U' (Ls ++ L) (c0 + mc) (s0 + ms) ∧ (∀ q ∈ L, D.sz ≤ q.base) ∧ xOe o h' ∧ P o h' ∧ x_R D U h' U'.heap ∧ (∀ q : Nat, q < D.sz → U'.heap[q]? = U.heap[q]?) ∧ U.heap.size ≤ U'.heap.size ∧
      (∀ v, o = .inl v → Steps p.tables e below (doInvoke e (U.setTop g) [] mk av.toArray).1 (U'.setTop { g with pc := g.pc + len, stack := v.toList ++ g.stack })) ∧
      (∀ ci a, o = .inr (ci, a) → Steps p.tables e below (doInvoke e (U.setTop g) [] mk av.toArray).1 ((U'.setTop g).pushFrame (.throwing a))) := by
  have hmY : ∃ (methY : Method) (cY : Code), U.vm.method? mk = some methY ∧ methY.code = some cY ∧ cY.maxLocals = maxL := by
    obtain ⟨hh, z | z⟩ := hcode
    · obtain ⟨methY, cY, z1, z2, -, z3, -⟩ := Cond.code_spec hn (hws _ z #[] U X.warmed)
      exact ⟨methY, cY, z1, z2, z3⟩
    · obtain ⟨m9, methY, cY, z0, z1, z2, -, z3, -⟩ := Cond.codeWith_spec (hws _ z #[] U X.warmed)
      cases hn.symm.trans z0
      exact ⟨methY, cY, z1, z2, z3⟩
  obtain ⟨methY, cY, hmY, hcY, hlY⟩ := hmY
  obtain ⟨kY, hkY, -⟩ := className_of_methodNamed hn
  have hinitY : kY.init = .initialized := Cond.initialized_spec (findClass_of_methodNamed hn) hkY (hws _ hini #[] U X.warmed)
  have hat : At U g.method c below := by rw [hg]; exact X.here
  have happ : (headSpec xws (xrm d mc ms)).appliesLoose y e.platform (U.calling g mk av.toArray) = true :=
    Spec.appliesLoose_calling (g := g) hat hdg hn hkY hinitY
      (X.room_calling (g := g) (R' := xrm d mc ms) hsize hmY hcY (by show d + 1 ≤ _; omega) (by rw [hlY]; show _ + (30 * d + 130) ≤ _; omega) hc hs) (atoms_intro fun w hw => hws w hw _ _ X.warmed)
  obtain ⟨mid, hmid⟩ := hat.above
  have hfrm : (U.setTop g).frames = (.java g :: mid) ++ below := by rw [State.frames_setTop' g hat.top, hmid]; rfl
  obtain ⟨oc, s₂, hsteps, -, hend, ⟨o, h', q1, q2, q3, q4, q5, q6⟩, L, ⟨hW₂, hsame2⟩, hL⟩ := Steps.callFree hM p X.admits X.cas X.clock (acts := []) hfrm happ ⟨rfl, hR, hK, hE, hz⟩ htr
  have hsame3 : (U.calling g mk av.toArray).sameButNew ({ s₂ with vm := (U.calling g mk av.toArray).vm } : State) L mc ms := hsame2
  obtain ⟨e2, r2, r3, r4, r5, r6⟩ := id hsame3
  rw [State.frames_setTop' g hat.top] at hend
  have e3 : s₂ = ({ (U.calling g mk av.toArray).setFrames s₂.frames with heap := s₂.heap, slotsUsed := s₂.slotsUsed } : State).setVm s₂.vm := by
    have : s₂ = ({ s₂ with vm := (U.calling g mk av.toArray).vm } : State).setVm s₂.vm := rfl
    rw [e2] at this
    exact this
  have hW' : U.WarmedH s₂.vm := hW₂
  obtain ⟨g₀, hg0⟩ := Option.isSome_iff_exists.mp hat.top
  obtain ⟨r, hr⟩ := State.topJava?_eq_some.mp hg0
  have hsame : U.sameButNew ({ U with heap := s₂.heap, slotsUsed := s₂.slotsUsed } : State) L mc ms := by
    refine ⟨?_, r2, r3, r4, r5, r6⟩
    obtain ⟨t, ht, -⟩ := State.frames_cons hr
    show ({ U with heap := s₂.heap, slotsUsed := s₂.slotsUsed } : State) = { U.setFrames U.frames with heap := s₂.heap, slotsUsed := s₂.slotsUsed }
    rw [State.setFrames_self ht]
  have hr' : (({ U with heap := s₂.heap, slotsUsed := s₂.slotsUsed } : State).setVm s₂.vm).frames = .java g₀ :: r := hr
  subst hg
  refine ⟨o, h', (({ U with heap := s₂.heap, slotsUsed := s₂.slotsUsed } : State).setVm s₂.vm), L,
    ⟨X.admits, X.cas, X.clock, X.frames, X.room, X.hears, X.method, X.code, (X.here.setHeapUsed s₂.heap s₂.slotsUsed).setVm hW'.alike, X.tail, State.WarmedH.trans X.warmed hW', X.limits, X.bytes, X.same.trans (hsame.setVm s.vm)⟩,
    hL, q2, q3, q4, q5, q6, ?_, ?_⟩
  · intro v ev
    subst ev
    have ev : oc = .returned v := q1
    subst ev
    obtain ⟨c₂, i₂, len₂, hc₂, hd₂, hf₂⟩ := hend
    have hcc : c₂ = c := by
      have h1 : s₂.code? g.method = U.code? g.method := by
        rw [State.code?_eq, State.code?_eq, hW'.alike.method?]
      exact Option.some.inj (hc₂.symm.trans (h1.trans hat.code))
    subst hcc
    have hlen : len₂ = len := by rw [hdg] at hd₂; cases hd₂; rfl
    subst hlen
    have hs₂ : s₂ = (({ U with heap := s₂.heap, slotsUsed := s₂.slotsUsed } : State).setVm s₂.vm).setTop { g with pc := g.pc + len₂, stack := v.toList ++ g.stack } := by
      refine e3.trans ?_
      rw [hf₂, State.calling_eq hat.top, State.setFrames_setFrames, State.setTop_of_frames _ hr', hr]
      rfl
    rw [← hs₂]
    exact hsteps
  · intro ci a ev
    subst ev
    have ev : oc = .threw a := q1
    subst ev
    have hf₂ : s₂.frames = .throwing a :: .java g :: U.frames.tail := hend
    have hs₂ : s₂ = ((({ U with heap := s₂.heap, slotsUsed := s₂.slotsUsed } : State).setVm s₂.vm).setTop g).pushFrame (.throwing a) := by
      refine e3.trans ?_
      rw [hf₂, State.calling_eq hat.top, State.setFrames_setFrames, State.pushFrame, State.frames_setTop _ hr', State.setTop_of_frames _ hr', State.setFrames_setFrames, hr]
      rfl
    rw [← hs₂]
    exact hsteps
/-- how a call comes to the method: by the instruction at g.pc the machine at T invokes y with av, 'rest' stays on the stack -/
def x_Inv (p : Program) (e : Env) (s : State) (below : List Frame) (T : State) (g : JFrame) (y : MethodName) (av rest : List Value) : Prop :=
  ∃ (mk : MethodId) (vm₁ : Vm), s.methodNamed? y = some mk ∧ s.WarmedH vm₁ ∧ ∀ target, (∀ acts, Steps p.tables e below (doInvoke e ((T.setVm vm₁).setTop { g with stack := rest }) acts mk av.toArray).1 target) → Steps p.tables e below (T.setTop g) target
section XINV
variable {p : Program} {l : Launch} {e : Env} {R : Room} {s : State} {m : MethodId} {args : Array Value} {below : List Frame} {meth : Method} {c : Code} {T : State} {locs : List Loc} {cells slots : Nat}
theorem x_invV (X : Stand p l e R s m args below meth c T locs cells slots) (hexec : p.tables.exec = Jvm.exec) {own C : String} {index : Nat} {y : MethodName} {bytes : ByteArray} {maxL : Nat} {ret : Option FieldType}
    (hown : s.vm.findClass own = some m.cls) (hlink : (Cond.methodLink own index y).before args s = true) (hinst : (Cond.instanceMethod y).before args s = true) (hsel : (Cond.selects C y y).before args s = true)
    (hcode : (Cond.code y bytes maxL ret).before args s = true) (hy : y.cls ≠ "java/lang/invoke/MethodHandle" ∧ y.cls ≠ "java/lang/invoke/VarHandle")
    {b : Addr} {cellB : Cell} (hcell : T.heap[b]? = some cellB) (hobj : cellB.vm.isStatics = false) (hcls : s.vm.findClass C = some cellB.cls)
    {g : JFrame} (hg : g.method = m) {argsL rest : List Value} (hlen : ∀ sig, parseMethodDescriptor y.desc = some sig → argsL.length = sig.parameters.length)
    (hstack : g.stack = argsL.reverse ++ .ref b :: rest) (hdg : decode c.code g.pc = .ok (.invokevirtual index, 3)) : x_Inv p e s below T g y (Value.ref b :: argsL) rest := by
  obtain ⟨mk, methM, hnamed, hmethM, hstM, habM⟩ := Cond.instanceMethod_spec hinst
  obtain ⟨methM', cM, hmethM', -, -, -, -, -, -, hsigM⟩ := Cond.code_spec hnamed hcode
  cases hmethM.symm.trans hmethM'
  obtain ⟨c2, r2, m2, q1, q2, q3, q4, kP, hkP, hkPi⟩ := Cond.selects_spec hsel
  cases hcls.symm.trans q1
  cases (State.methodFound?_of_named hnamed hy).symm.trans q2
  cases hnamed.symm.trans q3
  have hselP : selectMethod e.platform s.vm cellB.cls mk = .method mk := by rw [Launch.admits_selectMethod X.admits]; exact q4
  obtain ⟨vm₁, X₁, hstep₁⟩ := X.invokevirtual hexec hown hlink hnamed hmethM hstM hkP hkPi hy (a := b) (cell := cellB) hcell
    (fun z h => by rw [h] at hobj; cases hobj) hselP hmethM habM hkP hkPi (g := g) hg (argsL := argsL) (rest := rest) (hlen _ hsigM) hstack hdg
  exact ⟨mk, vm₁, hnamed, X₁.warmed, fun target h => hstep₁ _ fun acts => h acts⟩
theorem x_invVN (X : Stand p l e R s m args below meth c T locs cells slots) (hexec : p.tables.exec = Jvm.exec) {own C : String} {index : Nat} {host : String} {y : MethodName} {bytes : ByteArray} {maxL : Nat} {ret : Option FieldType}
    (hown : s.vm.findClass own = some m.cls) (hlink : (Cond.methodLinkNest own index y host).before args s = true) (hinst : (Cond.instanceMethod y).before args s = true) (hsel : (Cond.selects C y y).before args s = true)
    (hcode : (Cond.code y bytes maxL ret).before args s = true) (hy : y.cls ≠ "java/lang/invoke/MethodHandle" ∧ y.cls ≠ "java/lang/invoke/VarHandle")
    {b : Addr} {cellB : Cell} (hcell : T.heap[b]? = some cellB) (hobj : cellB.vm.isStatics = false) (hcls : s.vm.findClass C = some cellB.cls)
    {g : JFrame} (hg : g.method = m) {argsL rest : List Value} (hlen : ∀ sig, parseMethodDescriptor y.desc = some sig → argsL.length = sig.parameters.length)
    (hstack : g.stack = argsL.reverse ++ .ref b :: rest) (hdg : decode c.code g.pc = .ok (.invokevirtual index, 3)) : x_Inv p e s below T g y (Value.ref b :: argsL) rest := by
  obtain ⟨mk, methM, hnamed, hmethM, hstM, habM⟩ := Cond.instanceMethod_spec hinst
  obtain ⟨methM', cM, hmethM', -, -, -, -, -, -, hsigM⟩ := Cond.code_spec hnamed hcode
  cases hmethM.symm.trans hmethM'
  obtain ⟨c2, r2, m2, q1, q2, q3, q4, kP, hkP, hkPi⟩ := Cond.selects_spec hsel
  cases hcls.symm.trans q1
  cases (State.methodFound?_of_named hnamed hy).symm.trans q2
  cases hnamed.symm.trans q3
  have hselP : selectMethod e.platform s.vm cellB.cls mk = .method mk := by rw [Launch.admits_selectMethod X.admits]; exact q4
  obtain ⟨vm₁, X₁, hstep₁⟩ := X.invokevirtualNest hexec hown hlink hnamed hmethM hstM hkP hkPi hy (a := b) (cell := cellB) hcell
    (fun z h => by rw [h] at hobj; cases hobj) hselP hmethM habM hkP hkPi (g := g) hg (argsL := argsL) (rest := rest) (hlen _ hsigM) hstack hdg
  exact ⟨mk, vm₁, hnamed, X₁.warmed, fun target h => hstep₁ _ fun acts => h acts⟩
theorem x_invS (X : Stand p l e R s m args below meth c T locs cells slots) (hexec : p.tables.exec = Jvm.exec) {own : String} {index : Nat} {y : MethodName} {mk : MethodId} {methM : Method}
    (hown : s.vm.findClass own = some m.cls) (hlink : (Cond.methodLink own index y).before args s = true) (hstat : (Cond.static y).before args s = true) (hinit : (Cond.initialized y.cls).before args s = true)
    (hnamed : s.methodNamed? y = some mk) (hmethM : s.vm.method? mk = some methM) (hsigM : parseMethodDescriptor y.desc = some methM.sig) (hy : y.cls ≠ "java/lang/invoke/MethodHandle" ∧ y.cls ≠ "java/lang/invoke/VarHandle")
    {g : JFrame} (hg : g.method = m) {argsL rest : List Value} (hlen : ∀ sig, parseMethodDescriptor y.desc = some sig → argsL.length = sig.parameters.length)
    (hstack : g.stack = argsL.reverse ++ rest) (hdg : decode c.code g.pc = .ok (.invokestatic index, 3)) : x_Inv p e s below T g y argsL rest := by
  have hstatic : methM.isStatic = true := Cond.static_spec hnamed hmethM hstat
  obtain ⟨kP, hkP, -⟩ := className_of_methodNamed hnamed
  have hinitP : kP.init = .initialized := Cond.initialized_spec (findClass_of_methodNamed hnamed) hkP hinit
  obtain ⟨vm₁, X₁, hstep₁⟩ := X.invokestatic hexec hown hlink hnamed hmethM hstatic hkP hinitP hy (g := g) hg (argsL := argsL) (rest := rest) (hlen _ hsigM) hstack hdg
  exact ⟨mk, vm₁, hnamed, X₁.warmed, fun target h => hstep₁ _ fun acts => h acts⟩
theorem x_invSN (X : Stand p l e R s m args below meth c T locs cells slots) (hexec : p.tables.exec = Jvm.exec) {own host : String} {index : Nat} {y : MethodName} {mk : MethodId} {methM : Method}
    (hown : s.vm.findClass own = some m.cls) (hlink : (Cond.methodLinkNest own index y host).before args s = true) (hstat : (Cond.static y).before args s = true) (hinit : (Cond.initialized y.cls).before args s = true)
    (hnamed : s.methodNamed? y = some mk) (hmethM : s.vm.method? mk = some methM) (hsigM : parseMethodDescriptor y.desc = some methM.sig) (hy : y.cls ≠ "java/lang/invoke/MethodHandle" ∧ y.cls ≠ "java/lang/invoke/VarHandle")
    {g : JFrame} (hg : g.method = m) {argsL rest : List Value} (hlen : ∀ sig, parseMethodDescriptor y.desc = some sig → argsL.length = sig.parameters.length)
    (hstack : g.stack = argsL.reverse ++ rest) (hdg : decode c.code g.pc = .ok (.invokestatic index, 3)) : x_Inv p e s below T g y argsL rest := by
  have hstatic : methM.isStatic = true := Cond.static_spec hnamed hmethM hstat
  obtain ⟨kP, hkP, -⟩ := className_of_methodNamed hnamed
  have hinitP : kP.init = .initialized := Cond.initialized_spec (findClass_of_methodNamed hnamed) hkP hinit
  obtain ⟨vm₁, X₁, hstep₁⟩ := X.invokestaticNest hexec hown hlink hnamed hmethM hstatic hkP hinitP hy (g := g) hg (argsL := argsL) (rest := rest) (hlen _ hsigM) hstack hdg
  exact ⟨mk, vm₁, hnamed, X₁.warmed, fun target h => hstep₁ _ fun acts => h acts⟩
theorem x_invI (X : Stand p l e R s m args below meth c T locs cells slots) (hexec : p.tables.exec = Jvm.exec) {own : String} {index : Nat} {y : MethodName} {bytes : ByteArray} {maxL : Nat}
    (hown : s.vm.findClass own = some m.cls) (hy1 : y.name = "<init>") (hlink : (Cond.methodLink own index y).before args s = true) (hinst : (Cond.instanceMethod y).before args s = true)
    (hcode : (Cond.code y bytes maxL none).before args s = true) (hy : y.cls ≠ "java/lang/invoke/MethodHandle" ∧ y.cls ≠ "java/lang/invoke/VarHandle")
    {g : JFrame} (hg : g.method = m) {a : Addr} {argsL rest : List Value} (hlen : ∀ sig, parseMethodDescriptor y.desc = some sig → argsL.length = sig.parameters.length)
    (hstack : g.stack = argsL.reverse ++ .ref a :: rest) (hdg : decode c.code g.pc = .ok (.invokespecial index, 3)) : x_Inv p e s below T g y (Value.ref a :: argsL) rest := by
  subst hg
  have hpl : e.platform.magicAccessors = ({} : Platform).magicAccessors := by rw [X.admits.platform]
  obtain ⟨mk, methM, cM, kP, vm₁, hnamed, hmethM, hcodeM, -, hlocalsM, -, hkP, -, hW₁, hstep₁⟩ := Steps.initColdArgs (e := e) X.here hexec X.warmed hpl hown hy1 hy hlink hinst hcode (f := g) rfl hlen hstack hdg
  exact ⟨mk, vm₁, hnamed, hW₁, fun target h => hstep₁ _ fun acts => h acts⟩
theorem x_invIN (X : Stand p l e R s m args below meth c T locs cells slots) (hexec : p.tables.exec = Jvm.exec) {own host : String} {index : Nat} {y : MethodName} {bytes : ByteArray} {maxL : Nat}
    (hown : s.vm.findClass own = some m.cls) (hy1 : y.name = "<init>") (hlink : (Cond.methodLinkNest own index y host).before args s = true) (hinst : (Cond.instanceMethod y).before args s = true)
    (hcode : (Cond.code y bytes maxL none).before args s = true) (hy : y.cls ≠ "java/lang/invoke/MethodHandle" ∧ y.cls ≠ "java/lang/invoke/VarHandle")
    {g : JFrame} (hg : g.method = m) {a : Addr} {argsL rest : List Value} (hlen : ∀ sig, parseMethodDescriptor y.desc = some sig → argsL.length = sig.parameters.length)
    (hstack : g.stack = argsL.reverse ++ .ref a :: rest) (hdg : decode c.code g.pc = .ok (.invokespecial index, 3)) : x_Inv p e s below T g y (Value.ref a :: argsL) rest := by
  subst hg
  have hpl : e.platform.magicAccessors = ({} : Platform).magicAccessors := by rw [X.admits.platform]
  obtain ⟨mk, methM, cM, kP, vm₁, hnamed, hmethM, hcodeM, -, hlocalsM, -, hkP, -, hW₁, hstep₁⟩ := Steps.initColdArgsNest (e := e) X.here hexec X.warmed hpl hown hy1 hy hlink hinst hcode (f := g) rfl hlen hstack hdg
  exact ⟨mk, vm₁, hnamed, hW₁, fun target h => hstep₁ _ fun acts => h acts⟩
end XINV
/-! THE ABSTRACT MACHINE, 6: the call operations, contracts out of walks -/
def xsp : Nat → List Value → List Value → (List Value → List Value → Prop) → Prop
  | 0, acc, st, k => k acc st
  | n + 1, acc, st, k => match st with
    | v :: r => xsp n (v :: acc) r k
    | [] => False
theorem xsp_of : ∀ {n : Nat} {acc st : List Value} {k : List Value → List Value → Prop}, xsp n acc st k → ∃ av rest : List Value, st = av.reverse ++ rest ∧ av.length = n ∧ k (av ++ acc) rest
  | 0, acc, st, k, h => ⟨[], st, rfl, rfl, h⟩
  | n + 1, acc, st, k, h => by
    unfold xsp at h
    split at h
    · rename_i v r
      obtain ⟨av, rest, e1, e2, e3⟩ := xsp_of h
      refine ⟨av ++ [v], rest, by rw [e1]; simp, by simp [e2], ?_⟩
      rw [List.append_assoc]
      exact e3
    · exact h.elim
def xaf (K : Nat → xK) (P : xO → xH → Prop) (n : Nat) (ls : xL) (rest : List Value) (rc rs : Nat) (o : xO) (h' : xH) : Prop := match o with
  | .inl none => K n ls rest h' rc rs
  | .inl (some v) => K n ls (v :: rest) h' rc rs
  | .inr q => P (.inr q) h'
def xcl' (l : Launch) (D : xD) (P : xO → xH → Prop) (d : Nat) (y : MethodName) (n : Nat) (K : Nat → xK) (ls : xL) (h : xH) (rc rs : Nat) (av rest : List Value) : Prop :=
  xif (Nat.ble (rest.map fun v => v.category).sum 8) (∃ (mc ms : Nat) (Pc : xO → xH → Prop), xMet l D d y av h mc ms Pc ∧ mc ≤ rc ∧ ms ≤ rs ∧ ∀ o h', Pc o h' → xaf K P n ls rest (rc - mc) (rs - ms) o h')
def o_callS (l : Launch) (D : xD) (P : xO → xH → Prop) (d na : Nat) (y : MethodName) (n : Nat) : xOp := fun K ls st h rc rs => xsp na [] st (xcl' l D P d y n K ls h rc rs)
def o_callV (l : Launch) (D : xD) (P : xO → xH → Prop) (ci d na : Nat) (y : MethodName) (n : Nat) : xOp := fun K ls st h rc rs => xsp na [] st (fun av rest => match av with
  | .ref b :: _ => ∃ fs : List Value, h b = some (ci, fs) ∧ xcl' l D P d y n K ls h rc rs av rest
  | _ => False)
def o_callI (l : Launch) (D : xD) (P : xO → xH → Prop) (d na : Nat) (y : MethodName) (n : Nat) : xOp := fun K ls st h rc rs => xsp na [] st (fun av rest => match av with
  | .ref _ :: _ => xcl' l D P d y n K ls h rc rs av rest
  | _ => False)
section XCALL
variable {X : xX} {cc bytes : ByteArray} {own : String} {nL d pc maxL : Nat} {ret : Option FieldType}
theorem x_call (hC : xCx X cc own nL d) (hnh : X.c.exceptionTable.isEmpty = true) {y : MethodName} {d' len : Nat} {ig : Instr} (hdd : d' < d) (hmx : maxL ≤ 11) (hcode : ∃ (hh : List (Nat × Nat × Nat × Nat)), Cond.code y bytes maxL ret ∈ xws ∨ Cond.codeWith y bytes maxL ret hh ∈ xws) (hini : Cond.initialized y.cls ∈ xws) (hd : decode cc pc = .ok (ig, len))
    {K : Nat → xK} (hK : ∀ q ls st h rc rs, K q ls st h rc rs → xG X q ls st h rc rs) {ls : xL} {h : xH} {rc rs : Nat} {av rest st : List Value} (ho : xcl' X.l X.D X.P d' y (pc + len) K ls h rc rs av rest)
    {A : Array Slot} {H : Heap} {locs : List Loc} {k n : Nat} (h1 : lv_has A X.c.maxLocals ls) (h2 : x_R X.D X.s h H) (h3 : x_S X.D X.s.heap H locs) (h4 : k + rc ≤ X.R.cells) (h5 : n + rs ≤ X.R.slots)
    (hinv : ∀ T : State, T.heap = H → Stand X.p X.l X.e X.R X.s X.m X.args X.below X.meth X.c T locs k n → x_Inv X.p X.e X.s X.below T (F0 X.m pc A st) y av rest) : xW X H locs k n (F0 X.m pc A st) := by
  obtain ⟨hst, mc, ms, Pc, hM, g1, g2, g3⟩ := xif_iff ho
  intro T hT Y
  obtain ⟨mk, vm₁, hn, hW1, hgo⟩ := hinv T hT Y
  have Y1 := Y.noted hW1
  have hE1 : x_E X.D (T.setVm vm₁) (T.setVm vm₁).heap := (hC.E.kept (fun q hq => by show T.heap[q]? = _; rw [hT]; exact h3.2.1 q hq)).warm hW1
  obtain ⟨o, h', U', L, Y2, q1, q2, q3, q4, q5, q6, q7, q8⟩ := x_enter Y1 hM hC.tr (bytes := bytes) (maxL := maxL) (ret := ret) (g := { (F0 X.m pc A st) with stack := rest }) (ig := ig) (len := len) (mk := mk) rfl h1.1 (by rw [hC.b]; exact hd)
    (by show 2 * 0 + (rest.map fun v => v.category).sum ≤ 8; have := Nat.le_of_ble_eq_true hst; omega) (Y1.named hn) (xws_warm hC.ts) hcode hini (by have := hC.fr; omega) (by have := hC.lo; omega) (by omega) (by omega)
    ((by show x_R X.D (T.setVm vm₁) h T.heap; rw [hT]; exact h2.moved hW1.alike)) (hC.K.moved hW1.alike) hE1 (by show X.D.sz ≤ T.heap.size; rw [hT]; exact Nat.le_trans hC.z h3.1)
  have hTh : (T.setVm vm₁).heap = H := hT
  rw [hTh] at q5 q6
  have hR' : x_R X.D X.s h' U'.heap := q4.moved hW1.alike.symm
  have hS' : x_S X.D X.s.heap U'.heap (locs ++ L) := ⟨Nat.le_trans h3.1 q6, fun q hq => (q5 q hq).trans (h3.2.1 q hq), fun z hz => by
    rcases List.mem_append.mp hz with z1 | z1
    · exact h3.2.2 z z1
    · exact q1 z z1⟩
  have hgoon := g3 o h' q3
  cases o with
  | inl v =>
    have hs := q7 v rfl
    have hG : xG X (pc + len) ls (v.toList ++ rest) h' (rc - mc) (rs - ms) := by
      cases v with
      | none => exact hK _ _ _ _ _ _ hgoon
      | some v => exact hK _ _ _ _ _ _ hgoon
    obtain ⟨t, a1, b1⟩ := hG A U'.heap (locs ++ L) (k + mc) (n + ms) h1 hR' hS' (by omega) (by omega) U' rfl Y2
    exact ⟨t, hgo _ (fun acts => by rw [doInvoke_state]; exact hs.trans a1), b1⟩
  | inr q =>
    obtain ⟨ci, a⟩ := q
    have hs := q8 ci a rfl
    obtain ⟨w1, w2, w3, w4, w5⟩ := Y2.leaveThrown a (g := { (F0 X.m pc A st) with stack := rest }) rfl rfl rfl (fun x hx => by
      have z : X.c.exceptionTable = #[] := Array.isEmpty_iff.mp hnh
      rw [z] at hx
      cases hx) hC.lk
    refine ⟨_, hgo _ (fun acts => by rw [doInvoke_state]; exact hs.trans w1), .threw a, w2, w3, ⟨.inr (ci, a), h', rfl, q2, hgoon, hR', fun q hq => (q5 q hq).trans (h3.2.1 q hq), Nat.le_trans h3.1 q6⟩, locs ++ L, ⟨w4, w5.mono (by omega) (by omega)⟩, hS'.2.2⟩
abbrev xpn (y : MethodName) (na : Nat) : Prop := y.cls ≠ "java/lang/invoke/MethodHandle" ∧ y.cls ≠ "java/lang/invoke/VarHandle" ∧ (parseMethodDescriptor y.desc).map (fun d => d.parameters.length) = some na
theorem xpn.len {y : MethodName} {na : Nat} (h : xpn y na) {as : List Value} (ha : as.length = na) : ∀ sig, parseMethodDescriptor y.desc = some sig → as.length = sig.parameters.length := fun sig e => by
  have h2 := h.2.2
  rw [e] at h2
  rw [ha]
  exact (Option.some.inj h2).symm
theorem x_recv {D : xD} {s : State} {h : xH} {H : Heap} {b ci : Nat} {fs : List Value} {r0 : vw_C} (hK : x_K D s) (hR : x_R D s h H) (hci : ci < 100) (hc : xcl[ci]? = some r0) (e : h b = some (ci, fs)) : ∃ cell : Cell, H[b]? = some cell ∧ cell.vm.isStatics = false ∧ s.vm.findClass r0.1 = some cell.cls := by
  obtain ⟨g0, r', w1, w2, cellV, w3, w4, w5, w6⟩ := x_obj hci (hR _ _ e)
  exact ⟨cellV, w3, by rw [w5]; rfl, by rw [w4]; exact (hK.1 ci _ hc).2.1⟩
theorem ok_callV (hC : xCx X cc own nL d) (hnh : X.c.exceptionTable.isEmpty = true) {y : MethodName} {ci d' na i : Nat} {r0 : vw_C} (hd : decode cc pc = .ok (.invokevirtual i, 3)) (hdd : d' < d) (hmx : maxL ≤ 11) (hci : ci < 100) (hc : xcl[ci]? = some r0) (hp : xpn y na)
    (hcode : Cond.code y bytes maxL ret ∈ xws) (hini : Cond.initialized y.cls ∈ xws) (hl : Cond.methodLink own i y ∈ xws) (hin : Cond.instanceMethod y ∈ xws) (hse : Cond.selects r0.1 y y ∈ xws) : xOk X pc (o_callV X.l X.D X.P ci d' (na + 1) y (pc + 3)) := by
  intro K hK ls st h rc rs ho A H locs k n h1 h2 h3 h4 h5
  obtain ⟨av, rest, e1, e2, e3⟩ := xsp_of ho
  rw [List.append_nil] at e3
  split at e3
  · rename_i b as
    obtain ⟨fs, e4, e5⟩ := e3
    obtain ⟨cellB, r1, r2, r3⟩ := x_recv hC.K h2 hci hc e4
    refine x_call hC hnh (bytes := bytes) (ret := ret) hdd hmx ⟨[], Or.inl hcode⟩ hini hd hK e5 h1 h2 h3 h4 h5 (fun T hT Y => ?_)
    exact x_invV Y hC.x hC.ow (hC.ts _ hl) (hC.ts _ hin) (hC.ts _ hse) (hC.ts _ hcode) ⟨hp.1, hp.2.1⟩ (by rw [hT]; exact r1) r2 r3 rfl (hp.len (by simpa using e2)) (by show st = _; rw [e1]; simp) (by rw [hC.b]; exact hd)
  · exact e3.elim
theorem ok_callVN (hC : xCx X cc own nL d) (hnh : X.c.exceptionTable.isEmpty = true) {y : MethodName} {host : String} {ci d' na i : Nat} {r0 : vw_C} (hd : decode cc pc = .ok (.invokevirtual i, 3)) (hdd : d' < d) (hmx : maxL ≤ 11) (hci : ci < 100) (hc : xcl[ci]? = some r0) (hp : xpn y na)
    (hcode : Cond.code y bytes maxL ret ∈ xws) (hini : Cond.initialized y.cls ∈ xws) (hl : Cond.methodLinkNest own i y host ∈ xws) (hin : Cond.instanceMethod y ∈ xws) (hse : Cond.selects r0.1 y y ∈ xws) : xOk X pc (o_callV X.l X.D X.P ci d' (na + 1) y (pc + 3)) := by
  intro K hK ls st h rc rs ho A H locs k n h1 h2 h3 h4 h5
  obtain ⟨av, rest, e1, e2, e3⟩ := xsp_of ho
  rw [List.append_nil] at e3
  split at e3
  · rename_i b as
    obtain ⟨fs, e4, e5⟩ := e3
    obtain ⟨cellB, r1, r2, r3⟩ := x_recv hC.K h2 hci hc e4
    refine x_call hC hnh (bytes := bytes) (ret := ret) hdd hmx ⟨[], Or.inl hcode⟩ hini hd hK e5 h1 h2 h3 h4 h5 (fun T hT Y => ?_)
    exact x_invVN Y hC.x hC.ow (hC.ts _ hl) (hC.ts _ hin) (hC.ts _ hse) (hC.ts _ hcode) ⟨hp.1, hp.2.1⟩ (by rw [hT]; exact r1) r2 r3 rfl (hp.len (by simpa using e2)) (by show st = _; rw [e1]; simp) (by rw [hC.b]; exact hd)
  · exact e3.elim
theorem x_codeNamed {args : Array Value} {s : State} {y : MethodName} (hts : ∀ w ∈ xws, w.before args s = true) {hh : List (Nat × Nat × Nat × Nat)} (hcode : Cond.code y bytes maxL ret ∈ xws ∨ Cond.codeWith y bytes maxL ret hh ∈ xws) : ∃ (mk : MethodId) (methM : Method), s.methodNamed? y = some mk ∧ s.vm.method? mk = some methM ∧ parseMethodDescriptor y.desc = some methM.sig := by
  rcases hcode with z | z
  · obtain ⟨mk, hnamed⟩ := Cond.code_named (hts _ z)
    obtain ⟨methM, cM, hmethM, -, -, -, -, -, -, hsigM⟩ := Cond.code_spec hnamed (hts _ z)
    exact ⟨mk, methM, hnamed, hmethM, hsigM⟩
  · obtain ⟨mk, methM, cM, hnamed, hmethM, -, -, -, -, -, -, hsigM⟩ := Cond.codeWith_spec (hts _ z)
    exact ⟨mk, methM, hnamed, hmethM, hsigM⟩
theorem ok_callS (hC : xCx X cc own nL d) (hnh : X.c.exceptionTable.isEmpty = true) {y : MethodName} {hh : List (Nat × Nat × Nat × Nat)} {d' na i : Nat} (hd : decode cc pc = .ok (.invokestatic i, 3)) (hdd : d' < d) (hmx : maxL ≤ 11) (hp : xpn y na)
    (hcode : Cond.code y bytes maxL ret ∈ xws ∨ Cond.codeWith y bytes maxL ret hh ∈ xws) (hini : Cond.initialized y.cls ∈ xws) (hl : Cond.methodLink own i y ∈ xws) (hse : Cond.static y ∈ xws) : xOk X pc (o_callS X.l X.D X.P d' na y (pc + 3)) := by
  intro K hK ls st h rc rs ho A H locs k n h1 h2 h3 h4 h5
  obtain ⟨av, rest, e1, e2, e3⟩ := xsp_of ho
  rw [List.append_nil] at e3
  obtain ⟨mk, methM, r1, r2, r3⟩ := x_codeNamed hC.ts hcode
  refine x_call hC hnh (bytes := bytes) (ret := ret) hdd hmx ⟨hh, hcode⟩ hini hd hK e3 h1 h2 h3 h4 h5 (fun T hT Y => ?_)
  exact x_invS Y hC.x hC.ow (hC.ts _ hl) (hC.ts _ hse) (hC.ts _ hini) r1 r2 r3 ⟨hp.1, hp.2.1⟩ rfl (hp.len e2) e1 (by rw [hC.b]; exact hd)
theorem ok_callSN (hC : xCx X cc own nL d) (hnh : X.c.exceptionTable.isEmpty = true) {y : MethodName} {host : String} {hh : List (Nat × Nat × Nat × Nat)} {d' na i : Nat} (hd : decode cc pc = .ok (.invokestatic i, 3)) (hdd : d' < d) (hmx : maxL ≤ 11) (hp : xpn y na)
    (hcode : Cond.code y bytes maxL ret ∈ xws ∨ Cond.codeWith y bytes maxL ret hh ∈ xws) (hini : Cond.initialized y.cls ∈ xws) (hl : Cond.methodLinkNest own i y host ∈ xws) (hse : Cond.static y ∈ xws) : xOk X pc (o_callS X.l X.D X.P d' na y (pc + 3)) := by
  intro K hK ls st h rc rs ho A H locs k n h1 h2 h3 h4 h5
  obtain ⟨av, rest, e1, e2, e3⟩ := xsp_of ho
  rw [List.append_nil] at e3
  obtain ⟨mk, methM, r1, r2, r3⟩ := x_codeNamed hC.ts hcode
  refine x_call hC hnh (bytes := bytes) (ret := ret) hdd hmx ⟨hh, hcode⟩ hini hd hK e3 h1 h2 h3 h4 h5 (fun T hT Y => ?_)
  exact x_invSN Y hC.x hC.ow (hC.ts _ hl) (hC.ts _ hse) (hC.ts _ hini) r1 r2 r3 ⟨hp.1, hp.2.1⟩ rfl (hp.len e2) e1 (by rw [hC.b]; exact hd)
theorem ok_callI (hC : xCx X cc own nL d) (hnh : X.c.exceptionTable.isEmpty = true) {y : MethodName} {d' na i : Nat} (hd : decode cc pc = .ok (.invokespecial i, 3)) (hdd : d' < d) (hmx : maxL ≤ 11) (hp : xpn y na) (hy1 : y.name = "<init>")
    (hcode : Cond.code y bytes maxL none ∈ xws) (hini : Cond.initialized y.cls ∈ xws) (hl : Cond.methodLink own i y ∈ xws) (hin : Cond.instanceMethod y ∈ xws) : xOk X pc (o_callI X.l X.D X.P d' (na + 1) y (pc + 3)) := by
  intro K hK ls st h rc rs ho A H locs k n h1 h2 h3 h4 h5
  obtain ⟨av, rest, e1, e2, e3⟩ := xsp_of ho
  rw [List.append_nil] at e3
  split at e3
  · refine x_call hC hnh (bytes := bytes) (ret := none) hdd hmx ⟨[], Or.inl hcode⟩ hini hd hK e3 h1 h2 h3 h4 h5 (fun T hT Y => ?_)
    exact x_invI Y hC.x hC.ow hy1 (hC.ts _ hl) (hC.ts _ hin) (hC.ts _ hcode) ⟨hp.1, hp.2.1⟩ rfl (hp.len (by simpa using e2)) (by show st = _; rw [e1]; simp) (by rw [hC.b]; exact hd)
  · exact e3.elim
theorem ok_callIN (hC : xCx X cc own nL d) (hnh : X.c.exceptionTable.isEmpty = true) {y : MethodName} {host : String} {d' na i : Nat} (hd : decode cc pc = .ok (.invokespecial i, 3)) (hdd : d' < d) (hmx : maxL ≤ 11) (hp : xpn y na) (hy1 : y.name = "<init>")
    (hcode : Cond.code y bytes maxL none ∈ xws) (hini : Cond.initialized y.cls ∈ xws) (hl : Cond.methodLinkNest own i y host ∈ xws) (hin : Cond.instanceMethod y ∈ xws) : xOk X pc (o_callI X.l X.D X.P d' (na + 1) y (pc + 3)) := by
  intro K hK ls st h rc rs ho A H locs k n h1 h2 h3 h4 h5
  obtain ⟨av, rest, e1, e2, e3⟩ := xsp_of ho
  rw [List.append_nil] at e3
  split at e3
  · refine x_call hC hnh (bytes := bytes) (ret := none) hdd hmx ⟨[], Or.inl hcode⟩ hini hd hK e3 h1 h2 h3 h4 h5 (fun T hT Y => ?_)
    exact x_invIN Y hC.x hC.ow hy1 (hC.ts _ hl) (hC.ts _ hin) (hC.ts _ hcode) ⟨hp.1, hp.2.1⟩ rfl (hp.len (by simpa using e2)) (by show st = _; rw [e1]; simp) (by rw [hC.b]; exact hd)
  · exact e3.elim
/-- Object's constructor -/
def o_obj (n : Nat) : xOp := fun K ls st h rc rs => match st with
  | .ref _ :: r => xif (Nat.ble (r.map fun v => v.category).sum 8) (K n ls r h rc rs)
  | _ => False
theorem ok_obj (hC : xCx X cc own nL d) {i : Nat} (h0 : 1 ≤ d) (hd : decode cc pc = .ok (.invokespecial i, 3)) (hl : Cond.methodLink own i objectInit ∈ xws) (hin : Cond.instanceMethod objectInit ∈ xws) (hcode : Cond.code objectInit ⟨#[0xb1]⟩ 1 none ∈ xws) : xOk X pc (o_obj (pc + 3)) := by
  intro K hK ls st h rc rs ho A H locs k n h1 h2 h3 h4 h5
  unfold o_obj at ho
  split at ho
  · obtain ⟨e1, ho⟩ := xif_iff ho
    exact W.objInit hC.x hC.b hC.ow (hC.ts _ hl) (hC.ts _ hin) (hC.ts _ hcode) rfl h1.1 rfl hd (by have := hC.fr; omega) (by have := hC.lo; have := Nat.le_of_ble_eq_true e1; show 2 * 0 + _ + 12 ≤ _; omega) (hK _ _ _ _ _ _ ho A H locs k n h1 h2 h3 h4 h5)
  · exact ho.elim
end XCALL
/-- A CONTRACT OUT OF A WALK -/
theorem xMet.of {l : Launch} {D : xD} {d : Nat} {y : MethodName} {av : List Value} {h : xH} {mc ms : Nat} {P : xO → xH → Prop} {cc : ByteArray} {maxL : Nat} {ret : Option FieldType} (hy : plainName y.cls = true) (hcode : Cond.code y cc maxL ret ∈ xws) (hav : (lg_sl av).length ≤ maxL)
    (body : ∀ X : xX, X.l = l → X.D = D → X.P = P → X.R.cells = mc → X.R.slots = ms → xCx X cc y.cls maxL d → X.meth.sig.returnType = ret → X.c.exceptionTable.isEmpty = true → X.meth.name = y.name → xG X 0 (lv_args 0 av) [] h mc ms) : xMet l D d y av h mc ms P := by
  refine MetFree.of_bodyS (code := cc) (maxLocals := maxL) (ret := ret) hy ?_ ?_
  · intro args s m hpre hn
    obtain ⟨meth, c, h1, h2, h3, h4, h5, h6, -, -⟩ := Cond.code_spec hn (atoms_spec (ws := xws) hpre _ hcode)
    exact ⟨meth, c, h1, h2, h3, h4, h5, h6⟩
  · intro p e s m args below meth c s₁ B hml hP htr
    obtain ⟨rfl, hR, hK, hE, hz⟩ := hP
    have hh0 : s₁.heap = s.heap := by rw [B.state]; rfl
    have hts : ∀ w ∈ xws, w.before av.toArray s = true := atoms_spec (ws := xws) B.pre
    have hnh : c.exceptionTable.isEmpty = true := by
      obtain ⟨meth', c', h1, h2, h3, h4, h5, h6, h7, -⟩ := Cond.code_spec B.named (hts _ hcode)
      have e1 : meth' = meth := Option.some.inj (h1.symm.trans B.method)
      rw [e1] at h2
      have e2 : c' = c := Option.some.inj (h2.symm.trans (Stand.of_body B).code)
      rw [← e2]
      exact h7
    have hG := body (p, l, e, (headSpec xws (xrm d mc ms)).room, s, m, av.toArray, below, meth, c, D, P) rfl rfl rfl rfl rfl
      ⟨B.exec, B.bytes, hml, findClass_of_methodNamed B.named, hts, B.notSynchronized, hK, hE, hz, htr, Nat.le_refl _, Nat.le_refl _⟩ B.returns hnh (name_of_methodNamed B.named B.method).1
    have hl := lv_entry av (n := maxL) hav
    have hw := hG _ s.heap [] 0 0 (by rw [hml]; exact hl) hR ⟨Nat.le_refl _, fun _ _ => rfl, fun _ z => by cases z⟩ (by show 0 + mc ≤ mc; omega) (by show 0 + ms ≤ ms; omega)
    rw [← lg_entry_eq] at hw
    obtain ⟨t, a1, o, b1, b2, b3, b4⟩ := hw s₁ hh0 (Stand.of_body B)
    exact ⟨t, o, a1, b1, b2, b3, b4⟩
end
section
/-! THE ABSTRACT MACHINE, 7: throw new E("a written text") -/
/-- the walk's book begun anew where it stands -/
theorem x_rebase {p : Program} {l : Launch} {e : Env} {R R' : Room} {s : State} {m : MethodId} {args : Array Value} {below : List Frame} {meth : Method} {c : Code} {T : State} {locs : List Loc} {k n : Nat} (X : Stand p l e R s m args below meth c T locs k n)
    (h1 : R'.frames ≤ R.frames) (h2 : R'.locals ≤ R.locals) (h3 : k + R'.cells ≤ R.cells) (h4 : n + R'.slots ≤ R.slots) : Stand p l e R' (T.setFrames (.invoking m args :: below)) m args below meth c T [] 0 0 := by
  obtain ⟨g₀, hfr⟩ := X.frames_eq
  have hcur : T.cur < T.threads.size := State.cur_lt_of_frames hfr
  have hf' : (T.setFrames (.invoking m args :: below)).frames = .invoking m args :: below := State.frames_setFrames _ hcur
  have hlim : e.platform.stackLimits (T.setFrames (.invoking m args :: below)).me = e.platform.stackLimits T.me := State.stackLimits_setFrames ..
  have hby : (T.setFrames (.invoking m args :: below)).me.stackBytes = T.me.stackBytes := State.stackBytes_setFrames ..
  obtain ⟨t, ht, -⟩ := State.frames_cons hfr
  refine ⟨X.admits, X.cas, X.clock, hf', ?_, ?_, X.method', X.code, X.here, X.tail, State.WarmedH.refl _, hlim.symm, hby.symm, ?_⟩
  · have hu : (T.setFrames (.invoking m args :: below)).localsInUse = s.localsInUse := by
      rw [State.localsInUse_invoking hf' X.method' X.code, State.localsInUse_invoking X.frames X.method X.code]
    have r0 := X.room
    have r1 := X.cellsAbove (n := R'.cells) h3
    have r2 := X.slotsAbove (n := R'.slots) h4
    have r3 := X.book
    have hl0 := X.limits
    have hb0 := X.bytes
    simp only [State.hasRoom, Bool.and_eq_true, decide_eq_true_eq] at r0 ⊢
    rw [X.frames] at r0
    rw [hu, hf', hlim, hby, hl0, hb0]
    obtain ⟨⟨⟨⟨a1, a2, a3, a4, a5, a6⟩, a7⟩, a8⟩, a9⟩ := r0
    exact ⟨⟨⟨⟨by omega, by omega, by omega, by omega, by omega, a6⟩, r1⟩, r2⟩, r3⟩
  · have hh := X.hears
    have hm := X.method'
    have hcode : ∀ q, (T.setFrames (.invoking m args :: below)).code? q = s.code? q := fun q => by
      rw [State.code?_eq, State.code?_eq, show (T.setFrames (.invoking m args :: below)).vm = T.vm from rfl, X.warmed.alike.method?]
    unfold State.hears at hh ⊢
    split at hh
    · rw [hcode]; exact hh
    · rfl
    · rfl
    · rw [show (T.setFrames (.invoking m args :: below)).vm.method? m = some meth from hm]
      rw [X.method] at hh
      exact hh
  · refine ⟨?_, Nat.le_refl _, Nat.le_refl _, ?_, ?_, fun a c h => ⟨c, h, rfl, rfl, fun _ _ => rfl⟩⟩
    · show T = { (T.setFrames (.invoking m args :: below)).setFrames T.frames with heap := T.heap, slotsUsed := T.slotsUsed }
      rw [State.setFrames_setFrames, State.setFrames_self ht]
    · show T.slotsUsed = T.slotsUsed + ((T.heap.toList.drop T.heap.size).map (·.slots.size)).sum
      rw [List.drop_eq_nil_of_le (by simp)]
      rfl
    · show ((T.heap.toList.drop T.heap.size).map (·.slots.size)).sum ≤ 0
      rw [List.drop_eq_nil_of_le (by simp)]
      exact Nat.le_refl _
theorem x_sameCells {s s' : State} {k n : Nat} (h : s.sameButNew s' [] k n) {q : Nat} (hq : q < s.heap.size) : s'.heap[q]? = s.heap[q]? := by
  have e : s.heap[q]? = some s.heap[q] := Array.getElem?_eq_getElem hq
  obtain ⟨c', h1, h2, h3, h4⟩ := h.2.2.2.2.2 q _ e
  rw [h1, e]
  congr 1
  rw [h2]
  have : c'.slots = s.heap[q].slots := Array.ext_getElem? (fun i => h4 i (by simp))
  rw [this]
def o_throw (P : xO → xH → Prop) (ci : Nat) : xOp := fun _ _ st h rc rs => xif (Nat.ble (st.map fun v => v.category).sum 8) (1 ≤ rc ∧ 6 ≤ rs ∧ ∀ a : Nat, h a = none → P (.inr (ci, a)) (xset h a (ci, [])))
theorem ok_throw {X : xX} {cc : ByteArray} {own : String} {nL d pc : Nat} (hC : xCx X cc own nL d) (hnh : X.c.exceptionTable.isEmpty = true) {ci i0 i1 i2 j : Nat} {r0 : vw_C} {tx : String} (names : List String) (hd0 : decode cc pc = .ok (.new i0, 3)) (hd1 : decode cc (pc + 3) = .ok (.dup, 1)) (hd2 : decode cc (pc + 4) = .ok (.ldc i1, 2)) (hd3 : decode cc (pc + 6) = .ok (.invokespecial i2, 3)) (hd4 : decode cc (pc + 9) = .ok (.athrow, 1))
    (hci : ci < 100) (hc : xcl[ci]? = some r0) (hN : r0.2.2 = 0) (hcl : Cond.classLink own i0 r0.1 ∈ xws) (hini : Cond.initialized r0.1 ∈ xws) (hq : xsr[j]? = some (own, i1, tx)) (hfit : Bundle.fit r0.1 = true) (hnames : ∀ n ∈ names, Bundle.fit n = true) (hw : ∀ a ∈ Bundle.ownAtoms own i2 r0.1 names, a ∈ xws ∨ a ∈ xhw) (hlen : names.length + 4 ≤ d) (hlen2 : names.length ≤ 4) : xOk X pc (o_throw X.P ci) := by
  intro K hK ls st h rc rs ho A H locs k n h1 h2 h3 h4 h5
  obtain ⟨e0, e1, e2, e3⟩ := xif_iff ho
  intro T hT Y
  have Yb := x_rebase Y (R' := { frames := X.R.frames, locals := X.R.locals, cells := 1, slots := 6 }) (Nat.le_refl _) (Nat.le_refl _) (by show k + 1 ≤ _; omega) (by show n + 6 ≤ _; omega)
  have hws := xws_warm hC.ts
  have hWT : X.s.WarmedH T.vm := Y.warmed
  generalize hs' : T.setFrames (.invoking X.m X.args :: X.below) = s' at Yb
  have hsv : s'.vm = T.vm := by rw [← hs']; rfl
  have hsh : s'.heap = H := by rw [← hs', ← hT]; rfl
  have hWs : X.s.WarmedH s'.vm := by rw [hsv]; exact hWT
  have hts' : ∀ w ∈ xws, w.before X.args s' = true := fun w hw => hws w hw _ s' hWs
  have hE' : x_E X.D s' s'.heap := (hC.E.kept (fun q hq => by rw [hsh]; exact h3.2.1 q hq)).warm hWs
  have hrefs : ∀ a ∈ xhw, a.before X.args s' = true := x_E.refs hE'
  have hat : ∀ a ∈ Bundle.ownAtoms own i2 r0.1 names, a.before X.args s' = true := fun a ha => by
    rcases hw a ha with z | z
    · exact hts' a z
    · exact hrefs a z
  have hown' : s'.vm.findClass own = some X.m.cls := by rw [hsv, hWT.alike.findClass]; exact hC.ow
  have hK' := hC.K.moved (U := s') hWs.alike
  have hKn := hK'.1 ci _ hc
  have hinst : Cond.instantiable r0.1 6 ∈ Bundle.ownAtoms own i2 r0.1 names := by simp [Bundle.ownAtoms]
  have hwalk : W X.p X.l X.e { frames := X.R.frames, locals := X.R.locals, cells := 1, slots := 6 } s' X.m X.args X.below X.meth X.c s'.heap [] 0 0 (fun U => U.status = .running ∧ Ended U X.below (.threw H.size) ∧ s'.WarmedH U.vm ∧ s'.sameButNew ({ U with vm := s'.vm } : State) [] 1 6 ∧ ∃ ce : Cell, U.heap[H.size]? = some ce ∧ ce.cls = X.D.cid ci ∧ ce.vm = .none) (F0 X.m pc A st) := by
    refine W.newcK hC.x hC.b hown' (hts' _ hcl) (hat _ hinst) (hts' _ hini) rfl hd0 (Nat.le_refl _) (Nat.le_refl _) hKn.2.1 (by rw [hsh]) fun H1 kC hkC z1 z2 z3 => ?_
    refine lv_dup hC.x hC.b hd1 rfl ?_
    obtain ⟨a0, f1, f2⟩ := hE'.2.1 j _ hq
    refine va_ldcS hC.x hC.b hown' f2 hd2 ?_
    intro T2 hT2 Y2
    obtain ⟨U, u1, u2, u3, u4, u5, ce, u6, u7⟩ := Y2.ctorThrowS hC.x hC.tr hown' hfit hnames hat (fun x hx => by cases hx) (a := H.size) (cX := X.D.cid ci) (kX := kC) hKn.2.1 hkC (by rw [hT2]; exact z1) (by rw [hsh]; exact Nat.le_refl _) (msg := .ref a0) rfl (g := F0 X.m (pc + 6) A (.ref a0 :: .ref H.size :: .ref H.size :: st)) rfl h1.1 rfl rfl (rest := st) rfl
      (by rw [hC.b]; exact hd3) (by rw [hC.b]; exact hd4) (fun x hx => by
        have z : X.c.exceptionTable = #[] := Array.isEmpty_iff.mp hnh
        rw [z] at hx
        cases hx) (by have := hC.fr; show names.length + 3 < X.R.frames; omega) (by have := hC.lo; have := Nat.le_of_ble_eq_true e0; show 2 * 0 + (1 + (st.map fun v => v.category).sum) + (13 * (names.length + 1) + 42) ≤ X.R.locals; omega) hC.lk
    exact ⟨U, u1, u2, u3, u4, u5, ce, u6, Option.some.inj (u7.cls.symm.trans hKn.2.1), u7.vm⟩
  obtain ⟨t, a1, b1, b2, b3, b4, ce, b5, b6, b7⟩ := hwalk T (by rw [hT, hsh]) Yb
  have hold : ∀ q : Nat, q < H.size → t.heap[q]? = H[q]? := fun q hq => by
    have := x_sameCells b4 (q := q) (by rw [hsh]; exact hq)
    rw [hsh] at this
    exact this
  have hsz : X.D.sz ≤ H.size := Nat.le_trans hC.z h3.1
  refine ⟨t, a1, .threw H.size, b1, b2, ⟨.inr (ci, H.size), xset h H.size (ci, []), rfl, ⟨hci, xset_same _ _ _⟩, e3 _ h2.fresh, h2.push ?_ hold, fun q hq => (hold q (by omega)).trans (h3.2.1 q hq), ?_⟩, locs, ⟨?_, ?_⟩, h3.2.2⟩
  · unfold x_at
    rw [if_pos hci]
    exact ⟨hsz, r0, hc, by rw [hN]; rfl, ce, b5, b6, b7, fun k hk => by rw [hN] at hk; exact absurd hk (Nat.not_lt_zero _)⟩
  · have := b4.2.1
    rw [hsh] at this
    exact Nat.le_trans h3.1 this
  · exact State.WarmedH.trans hWT (by rw [← hs'] at b3; exact b3)
  · have b4' : T.sameButNew ({ t with vm := T.vm } : State) [] 1 6 := by
      rw [← hs'] at b4
      obtain ⟨c1, c2⟩ := b4
      refine ⟨?_, c2⟩
      have c3 := c1
      rw [State.setFrames_setFrames] at c3
      exact c3
    have := Y.same.trans (b4'.setVm X.s.vm)
    rw [List.append_nil] at this
    exact this.mono (by omega) (by omega)
end
section
def y_Sc_init : MethodName := ⟨"StyleCourt", "<init>", "()V"⟩
def y_Oj_init : MethodName := ⟨"java/lang/Object", "<init>", "()V"⟩
def y_Rd_init : MethodName := ⟨"StyleCourt$Reader", "<init>", "([BI)V"⟩
def y_Ar_copyOf : MethodName := ⟨"java/util/Arrays", "copyOf", "([BI)[B"⟩
def y_aB_clone : MethodName := ⟨"[B", "clone", "()Ljava/lang/Object;"⟩
def y_Oj_clone : MethodName := ⟨"java/lang/Object", "clone", "()Ljava/lang/Object;"⟩
def y_Ma_min : MethodName := ⟨"java/lang/Math", "min", "(II)I"⟩
def y_Sys_arraycopy : MethodName := ⟨"java/lang/System", "arraycopy", "(Ljava/lang/Object;ILjava/lang/Object;II)V"⟩
def y_So_init : MethodName := ⟨"StyleCourt$Source", "<init>", "()V"⟩
def y_AL_init : MethodName := ⟨"java/util/ArrayList", "<init>", "()V"⟩
def y_AB_init : MethodName := ⟨"java/util/AbstractList", "<init>", "()V"⟩
def y_AC_init : MethodName := ⟨"java/util/AbstractCollection", "<init>", "()V"⟩
def y_Sl_init : MethodName := ⟨"StyleCourt$Slice", "<init>", "([BII)V"⟩
def y_El_init : MethodName := ⟨"StyleCourt$Element", "<init>", "(LStyleCourt$Slice;LStyleCourt$Element;II)V"⟩
def y_Nd_init : MethodName := ⟨"StyleCourt$Named", "<init>", "(LStyleCourt$Slice;LStyleCourt$Slice;)V"⟩
def y_AL_add : MethodName := ⟨"java/util/ArrayList", "add", "(Ljava/lang/Object;)Z"⟩
def y_AL_add2 : MethodName := ⟨"java/util/ArrayList", "add", "(Ljava/lang/Object;[Ljava/lang/Object;I)V"⟩
def y_AL_grow : MethodName := ⟨"java/util/ArrayList", "grow", "()[Ljava/lang/Object;"⟩
def y_AL_grow2 : MethodName := ⟨"java/util/ArrayList", "grow", "(I)[Ljava/lang/Object;"⟩
def y_AS_newLength : MethodName := ⟨"jdk/internal/util/ArraysSupport", "newLength", "(III)I"⟩
def y_Ma_max : MethodName := ⟨"java/lang/Math", "max", "(II)I"⟩
def y_AS_hugeLength : MethodName := ⟨"jdk/internal/util/ArraysSupport", "hugeLength", "(II)I"⟩
def y_Ar_copyOf2 : MethodName := ⟨"java/util/Arrays", "copyOf", "([Ljava/lang/Object;I)[Ljava/lang/Object;"⟩
def y_Oj_getClass : MethodName := ⟨"java/lang/Object", "getClass", "()Ljava/lang/Class;"⟩
def y_Ar_copyOf3 : MethodName := ⟨"java/util/Arrays", "copyOf", "([Ljava/lang/Object;ILjava/lang/Class;)[Ljava/lang/Object;"⟩
def y_Sy_init : MethodName := ⟨"StyleCourt$Style", "<init>", "()V"⟩
def y_Sc_place : MethodName := ⟨"StyleCourt", "place", "()I"⟩
def y_Lw_feed : MethodName := ⟨"StyleCourtLaw", "feed", "(LStyleCourt;IIIII[J)I"⟩
def y_Sc_feed : MethodName := ⟨"StyleCourt", "feed", "(IIIII)I"⟩
def y_Rt_init : MethodName := ⟨"java/lang/RuntimeException", "<init>", "()V"⟩
def y_Rt_init2 : MethodName := ⟨"java/lang/RuntimeException", "<init>", "(Ljava/lang/String;)V"⟩
def y_Ex_init : MethodName := ⟨"java/lang/Exception", "<init>", "()V"⟩
def y_Ex_init2 : MethodName := ⟨"java/lang/Exception", "<init>", "(Ljava/lang/String;)V"⟩
def y_Th_init : MethodName := ⟨"java/lang/Throwable", "<init>", "()V"⟩
def y_Th_init2 : MethodName := ⟨"java/lang/Throwable", "<init>", "(Ljava/lang/String;)V"⟩
def y_Th_fillInStackTrace : MethodName := ⟨"java/lang/Throwable", "fillInStackTrace", "(I)Ljava/lang/Throwable;"⟩
def y_Th_fillInStackTrace2 : MethodName := ⟨"java/lang/Throwable", "fillInStackTrace", "()Ljava/lang/Throwable;"⟩
def y_XI_init : MethodName := ⟨"java/lang/IndexOutOfBoundsException", "<init>", "(Ljava/lang/String;)V"⟩
def y_Sc_putOnTape : MethodName := ⟨"StyleCourt", "putOnTape", "(I)V"⟩
def y_Lw_end : MethodName := ⟨"StyleCourtLaw", "end", "(LStyleCourt;I[J)I"⟩
def y_Sc_end : MethodName := ⟨"StyleCourt", "end", "(I)I"⟩
def y_XA_init : MethodName := ⟨"java/lang/IllegalArgumentException", "<init>", "(Ljava/lang/String;)V"⟩
def y_Lw_source : MethodName := ⟨"StyleCourtLaw", "source", "(LStyleCourt;[J)I"⟩
def y_Sc_source : MethodName := ⟨"StyleCourt", "source", "()I"⟩
def y_Sc_takeTape : MethodName := ⟨"StyleCourt", "takeTape", "()LStyleCourt$Reader;"⟩
def y_Rd_here : MethodName := ⟨"StyleCourt$Reader", "here", "()I"⟩
def y_So_readPiece : MethodName := ⟨"StyleCourt$Source", "readPiece", "(LStyleCourt$Reader;)V"⟩
def y_So_readMarkup : MethodName := ⟨"StyleCourt$Source", "readMarkup", "(LStyleCourt$Reader;I)V"⟩
def y_So_readEndOfElement : MethodName := ⟨"StyleCourt$Source", "readEndOfElement", "(LStyleCourt$Reader;)V"⟩
def y_Rd_failAt : MethodName := ⟨"StyleCourt$Reader", "failAt", "(I)V"⟩
def y_XU_init : MethodName := ⟨"java/lang/UnsupportedOperationException", "<init>", "(Ljava/lang/String;)V"⟩
def y_Rd_readName : MethodName := ⟨"StyleCourt$Reader", "readName", "()LStyleCourt$Slice;"⟩
def y_Sc_isSmall : MethodName := ⟨"StyleCourt", "isSmall", "(I)Z"⟩
def y_Sc_isDigit : MethodName := ⟨"StyleCourt", "isDigit", "(I)Z"⟩
def y_Sl_sameAs : MethodName := ⟨"StyleCourt$Slice", "sameAs", "(LStyleCourt$Slice;)Z"⟩
def y_Rd_expectSign : MethodName := ⟨"StyleCourt$Reader", "expectSign", "(C)V"⟩
def y_Rd_nextSign : MethodName := ⟨"StyleCourt$Reader", "nextSign", "()I"⟩
def y_Sc_isBlank : MethodName := ⟨"StyleCourt", "isBlank", "(I)Z"⟩
def y_So_finish : MethodName := ⟨"StyleCourt$Source", "finish", "(LStyleCourt$Element;I)V"⟩
def y_AL_size : MethodName := ⟨"java/util/ArrayList", "size", "()I"⟩
def y_So_readBeginOfElement : MethodName := ⟨"StyleCourt$Source", "readBeginOfElement", "(LStyleCourt$Reader;I)V"⟩
def y_So_readFields : MethodName := ⟨"StyleCourt$Source", "readFields", "(LStyleCourt$Reader;LStyleCourt$Element;)V"⟩
def y_Sc_findNamed : MethodName := ⟨"StyleCourt", "findNamed", "(Ljava/util/ArrayList;LStyleCourt$Slice;)LStyleCourt$Named;"⟩
def y_AL_get : MethodName := ⟨"java/util/ArrayList", "get", "(I)Ljava/lang/Object;"⟩
def y_Ob_checkIndex : MethodName := ⟨"java/util/Objects", "checkIndex", "(II)I"⟩
def y_Pr_checkIndex : MethodName := ⟨"jdk/internal/util/Preconditions", "checkIndex", "(IILjava/util/function/BiFunction;)I"⟩
def y_AL_elementData : MethodName := ⟨"java/util/ArrayList", "elementData", "(I)Ljava/lang/Object;"⟩
def y_Rd_readString : MethodName := ⟨"StyleCourt$Reader", "readString", "()LStyleCourt$Slice;"⟩
def y_Sc_isPrinted : MethodName := ⟨"StyleCourt", "isPrinted", "(I)Z"⟩
def y_Rd_expect : MethodName := ⟨"StyleCourt$Reader", "expect", "(C)V"⟩
def y_Rd_skipComment : MethodName := ⟨"StyleCourt$Reader", "skipComment", "()V"⟩
def y_Rd_commentEndsHere : MethodName := ⟨"StyleCourt$Reader", "commentEndsHere", "()Z"⟩
def y_So_readEntity : MethodName := ⟨"StyleCourt$Source", "readEntity", "(LStyleCourt$Reader;)V"⟩
def y_Sl_holds : MethodName := ⟨"StyleCourt$Slice", "holds", "(I)Z"⟩
def y_So_readReference : MethodName := ⟨"StyleCourt$Source", "readReference", "(LStyleCourt$Reader;)V"⟩
def y_So_addText : MethodName := ⟨"StyleCourt$Source", "addText", "(LStyleCourt$Slice;)V"⟩
def y_So_readText : MethodName := ⟨"StyleCourt$Source", "readText", "(LStyleCourt$Reader;)V"⟩
def y_So_isText : MethodName := ⟨"StyleCourt$Source", "isText", "(I)Z"⟩
def y_Lw_style : MethodName := ⟨"StyleCourtLaw", "style", "(LStyleCourt;[J)I"⟩
def y_Sc_style : MethodName := ⟨"StyleCourt", "style", "()I"⟩
def y_Ru_init : MethodName := ⟨"StyleCourt$Rule", "<init>", "()V"⟩
def y_Sy_readSelectors : MethodName := ⟨"StyleCourt$Style", "readSelectors", "(LStyleCourt$Reader;LStyleCourt$Rule;)V"⟩
def y_Se_init : MethodName := ⟨"StyleCourt$Selector", "<init>", "()V"⟩
def y_Se_readSteps : MethodName := ⟨"StyleCourt$Selector", "readSteps", "(LStyleCourt$Reader;)V"⟩
def y_Sp_init : MethodName := ⟨"StyleCourt$Step", "<init>", "(I)V"⟩
def y_Sp_readFrom : MethodName := ⟨"StyleCourt$Step", "readFrom", "(LStyleCourt$Reader;)V"⟩
def y_Co_init : MethodName := ⟨"StyleCourt$Condition", "<init>", "()V"⟩
def y_Co_readBracket : MethodName := ⟨"StyleCourt$Condition", "readBracket", "(LStyleCourt$Reader;)V"⟩
def y_Co_readColon : MethodName := ⟨"StyleCourt$Condition", "readColon", "(LStyleCourt$Reader;)V"⟩
def y_Sl_spells : MethodName := ⟨"StyleCourt$Slice", "spells", "(Ljava/lang/String;)Z"⟩
def y_Sg_length : MethodName := ⟨"java/lang/String", "length", "()I"⟩
def y_Sg_coder : MethodName := ⟨"java/lang/String", "coder", "()B"⟩
def y_Sg_charAt : MethodName := ⟨"java/lang/String", "charAt", "(I)C"⟩
def y_Sg_isLatin1 : MethodName := ⟨"java/lang/String", "isLatin1", "()Z"⟩
def y_L1_charAt : MethodName := ⟨"java/lang/StringLatin1", "charAt", "([BI)C"⟩
def y_Sg_checkIndex : MethodName := ⟨"java/lang/String", "checkIndex", "(II)V"⟩
def y_U16_charAt : MethodName := ⟨"java/lang/StringUTF16", "charAt", "([BI)C"⟩
def y_U16_checkIndex : MethodName := ⟨"java/lang/StringUTF16", "checkIndex", "(I[B)V"⟩
def y_U16_length : MethodName := ⟨"java/lang/StringUTF16", "length", "([B)I"⟩
def y_U16_getChar : MethodName := ⟨"java/lang/StringUTF16", "getChar", "([BI)C"⟩
def y_Rd_readNumber : MethodName := ⟨"StyleCourt$Reader", "readNumber", "()I"⟩
def y_Sp_ownWeight : MethodName := ⟨"StyleCourt$Step", "ownWeight", "()I"⟩
def y_Sy_readBody : MethodName := ⟨"StyleCourt$Style", "readBody", "(LStyleCourt$Reader;LStyleCourt$Rule;)V"⟩
def y_Sy_readTold : MethodName := ⟨"StyleCourt$Style", "readTold", "(LStyleCourt$Reader;)LStyleCourt$Told;"⟩
def y_Sy_numberOfName : MethodName := ⟨"StyleCourt$Style", "numberOfName", "(LStyleCourt$Slice;)I"⟩
def y_To_init : MethodName := ⟨"StyleCourt$Told", "<init>", "(II)V"⟩
def y_To_readValue : MethodName := ⟨"StyleCourt$Told", "readValue", "(LStyleCourt$Reader;)V"⟩
def y_To_readAmount : MethodName := ⟨"StyleCourt$Told", "readAmount", "(LStyleCourt$Reader;)V"⟩
def y_Lw_property : MethodName := ⟨"StyleCourtLaw", "property", "(LStyleCourt;I[J)I"⟩
def y_Sc_property : MethodName := ⟨"StyleCourt", "property", "(I)I"⟩
def y_Sc_takeName : MethodName := ⟨"StyleCourt", "takeName", "()LStyleCourt$Slice;"⟩
def y_Sc_elementAt : MethodName := ⟨"StyleCourt", "elementAt", "(I)LStyleCourt$Element;"⟩
def y_Sy_countingFor : MethodName := ⟨"StyleCourt$Style", "countingFor", "(LStyleCourt$Element;I[LStyleCourt$Element;)LStyleCourt$Told;"⟩
def y_Ru_leading : MethodName := ⟨"StyleCourt$Rule", "leading", "(I)LStyleCourt$Told;"⟩
def y_Ru_weightFor : MethodName := ⟨"StyleCourt$Rule", "weightFor", "(LStyleCourt$Element;[LStyleCourt$Element;)I"⟩
def y_Se_matches : MethodName := ⟨"StyleCourt$Selector", "matches", "(LStyleCourt$Element;[LStyleCourt$Element;)Z"⟩
def y_Sp_matches : MethodName := ⟨"StyleCourt$Step", "matches", "(LStyleCourt$Element;)Z"⟩
def y_Co_holdsFor : MethodName := ⟨"StyleCourt$Condition", "holdsFor", "(LStyleCourt$Element;)Z"⟩
def y_El_isEmpty : MethodName := ⟨"StyleCourt$Element", "isEmpty", "()Z"⟩
def y_Co_holdsForField : MethodName := ⟨"StyleCourt$Condition", "holdsForField", "(LStyleCourt$Named;)Z"⟩
def y_Se_moveBack : MethodName := ⟨"StyleCourt$Selector", "moveBack", "([LStyleCourt$Element;II)V"⟩
def y_Sy_isAhead : MethodName := ⟨"StyleCourt$Style", "isAhead", "(LStyleCourt$Told;ILStyleCourt$Told;I)Z"⟩
def y_To_leansOnOuter : MethodName := ⟨"StyleCourt$Told", "leansOnOuter", "()Z"⟩
def y_Sc_putValue : MethodName := ⟨"StyleCourt", "putValue", "(LStyleCourt$Told;I)I"⟩
def y_Sc_putSlice : MethodName := ⟨"StyleCourt", "putSlice", "(LStyleCourt$Slice;)I"⟩
def y_Sl_copyTo : MethodName := ⟨"StyleCourt$Slice", "copyTo", "([BI)I"⟩
def y_Ma_min2 : MethodName := ⟨"java/lang/Math", "min", "(JJ)J"⟩
def y_Sc_putNumber : MethodName := ⟨"StyleCourt", "putNumber", "(I)V"⟩
def y_Lw_by : MethodName := ⟨"StyleCourtLaw", "by", "(LStyleCourt;I[J)I"⟩
def y_Sc_by : MethodName := ⟨"StyleCourt", "by", "(I)I"⟩
def y_Lw_select : MethodName := ⟨"StyleCourtLaw", "select", "(LStyleCourt;[J)I"⟩
def y_Sc_select : MethodName := ⟨"StyleCourt", "select", "()I"⟩
def y_Lw_found : MethodName := ⟨"StyleCourtLaw", "found", "(LStyleCourt;I[J)I"⟩
def y_Sc_found : MethodName := ⟨"StyleCourt", "found", "(I)I"⟩
def y_Lw_fits : MethodName := ⟨"StyleCourtLaw", "fits", "(LStyleCourt;II[J)I"⟩
def y_Sc_fits : MethodName := ⟨"StyleCourt", "fits", "(II)I"⟩
def y_Lw_element : MethodName := ⟨"StyleCourtLaw", "element", "(LStyleCourt;II[J)I"⟩
def y_Sc_element : MethodName := ⟨"StyleCourt", "element", "(II)I"⟩
def y_Lw_tell : MethodName := ⟨"StyleCourtLaw", "tell", "(LStyleCourt;II[J)I"⟩
def y_Sc_tell : MethodName := ⟨"StyleCourt", "tell", "(II)I"⟩
def y_Sc_putTexts : MethodName := ⟨"StyleCourt", "putTexts", "(LStyleCourt$Element;)I"⟩
def y_Lw_word : MethodName := ⟨"StyleCourtLaw", "word", "(LStyleCourt;I[J)I"⟩
def y_Sc_word : MethodName := ⟨"StyleCourt", "word", "(I)J"⟩
def y_Lw_count : MethodName := ⟨"StyleCourtLaw", "count", "(LStyleCourt;I[J)I"⟩
def y_Sc_count : MethodName := ⟨"StyleCourt", "count", "(I)I"⟩
def y_Mo_init : MethodName := ⟨"StyleCourtModel", "<init>", "()V"⟩
def y_Mo_thrown : MethodName := ⟨"StyleCourtModel", "thrown", "()I"⟩
def y_Mo_feed : MethodName := ⟨"StyleCourtModel", "feed", "(IIIII)I"⟩
def y_Mo_refuse : MethodName := ⟨"StyleCourtModel", "refuse", "(I)I"⟩
def y_Mo_four : MethodName := ⟨"StyleCourtModel", "four", "(I)V"⟩
def y_Mo_end : MethodName := ⟨"StyleCourtModel", "end", "(I)I"⟩
def y_Mo_in : MethodName := ⟨"StyleCourtModel", "in", "(III)Z"⟩
def y_Mo_source : MethodName := ⟨"StyleCourtModel", "source", "()I"⟩
def y_Mo_take : MethodName := ⟨"StyleCourtModel", "take", "(I)V"⟩
def y_Mo_readSource : MethodName := ⟨"StyleCourtModel", "readSource", "()V"⟩
def y_Mo_byteAt : MethodName := ⟨"StyleCourtModel", "byteAt", "(I)I"⟩
def y_Mo_closed : MethodName := ⟨"StyleCourtModel", "closed", "(I)I"⟩
def y_Mo_wrong : MethodName := ⟨"StyleCourtModel", "wrong", "(I)V"⟩
def y_Mo_nameFrom : MethodName := ⟨"StyleCourtModel", "nameFrom", "(I)I"⟩
def y_Mo_isSmall : MethodName := ⟨"StyleCourtModel", "isSmall", "(I)Z"⟩
def y_Mo_isDigit : MethodName := ⟨"StyleCourtModel", "isDigit", "(I)Z"⟩
def y_Mo_same : MethodName := ⟨"StyleCourtModel", "same", "(IIII)Z"⟩
def y_Mo_blanks : MethodName := ⟨"StyleCourtModel", "blanks", "()V"⟩
def y_Mo_isBlank : MethodName := ⟨"StyleCourtModel", "isBlank", "(I)Z"⟩
def y_Mo_comment : MethodName := ⟨"StyleCourtModel", "comment", "()V"⟩
def y_Mo_defined : MethodName := ⟨"StyleCourtModel", "defined", "()V"⟩
def y_Mo_isFixed : MethodName := ⟨"StyleCourtModel", "isFixed", "(II)Z"⟩
def y_Mo_isWord : MethodName := ⟨"StyleCourtModel", "isWord", "(IIJ)Z"⟩
def y_Mo_entity : MethodName := ⟨"StyleCourtModel", "entity", "(II)I"⟩
def y_Mo_stringFrom : MethodName := ⟨"StyleCourtModel", "stringFrom", "(I)I"⟩
def y_Mo_behindString : MethodName := ⟨"StyleCourtModel", "behindString", "(I)I"⟩
def y_Mo_opened : MethodName := ⟨"StyleCourtModel", "opened", "(I)I"⟩
def y_Mo_field : MethodName := ⟨"StyleCourtModel", "field", "(I)V"⟩
def y_Mo_reference : MethodName := ⟨"StyleCourtModel", "reference", "(I)V"⟩
def y_Mo_piece : MethodName := ⟨"StyleCourtModel", "piece", "(III)V"⟩
def y_Mo_style : MethodName := ⟨"StyleCourtModel", "style", "()I"⟩
def y_Mo_readStyle : MethodName := ⟨"StyleCourtModel", "readStyle", "()V"⟩
def y_Mo_next : MethodName := ⟨"StyleCourtModel", "next", "()V"⟩
def y_Mo_selector : MethodName := ⟨"StyleCourtModel", "selector", "(I)V"⟩
def y_Mo_step : MethodName := ⟨"StyleCourtModel", "step", "(II)V"⟩
def y_Mo_isSign : MethodName := ⟨"StyleCourtModel", "isSign", "(I)Z"⟩
def y_Mo_bracket : MethodName := ⟨"StyleCourtModel", "bracket", "()V"⟩
def y_Mo_needKind : MethodName := ⟨"StyleCourtModel", "needKind", "(I)V"⟩
def y_Mo_need : MethodName := ⟨"StyleCourtModel", "need", "(I)V"⟩
def y_Mo_colon : MethodName := ⟨"StyleCourtModel", "colon", "()V"⟩
def y_Mo_body : MethodName := ⟨"StyleCourtModel", "body", "(I)V"⟩
def y_Mo_known : MethodName := ⟨"StyleCourtModel", "known", "(II)I"⟩
def y_Mo_oneValue : MethodName := ⟨"StyleCourtModel", "oneValue", "()V"⟩
def y_Mo_place : MethodName := ⟨"StyleCourtModel", "place", "()I"⟩
def y_Mo_by : MethodName := ⟨"StyleCourtModel", "by", "(I)I"⟩
def y_Mo_asked : MethodName := ⟨"StyleCourtModel", "asked", "()I"⟩
def y_Mo_isThere : MethodName := ⟨"StyleCourtModel", "isThere", "(I)Z"⟩
def y_Mo_counts : MethodName := ⟨"StyleCourtModel", "counts", "(II)I"⟩
def y_Mo_selectorFits : MethodName := ⟨"StyleCourtModel", "selectorFits", "(II)Z"⟩
def y_Mo_stepFits : MethodName := ⟨"StyleCourtModel", "stepFits", "(II)Z"⟩
def y_Mo_isSo : MethodName := ⟨"StyleCourtModel", "isSo", "(II)Z"⟩
def y_Mo_fieldOf : MethodName := ⟨"StyleCourtModel", "fieldOf", "(III)I"⟩
def y_Mo_among : MethodName := ⟨"StyleCourtModel", "among", "(I)I"⟩
def y_Mo_property : MethodName := ⟨"StyleCourtModel", "property", "(I)I"⟩
def y_Mo_sayNumber : MethodName := ⟨"StyleCourtModel", "sayNumber", "(J)V"⟩
def y_Mo_say : MethodName := ⟨"StyleCourtModel", "say", "(II)V"⟩
def y_Mo_select : MethodName := ⟨"StyleCourtModel", "select", "()I"⟩
def y_Mo_found : MethodName := ⟨"StyleCourtModel", "found", "(I)I"⟩
def y_Mo_fits : MethodName := ⟨"StyleCourtModel", "fits", "(II)I"⟩
def y_Mo_element : MethodName := ⟨"StyleCourtModel", "element", "(II)I"⟩
def y_Mo_tell : MethodName := ⟨"StyleCourtModel", "tell", "(II)I"⟩
def y_Mo_word : MethodName := ⟨"StyleCourtModel", "word", "(I)J"⟩
def y_Mo_count : MethodName := ⟨"StyleCourtModel", "count", "(I)I"⟩
def y_Lw_law : MethodName := ⟨"StyleCourtLaw", "law", "([I)Z"⟩
theorem xA {X : xX} {q : Nat × xOp} {t : List (Nat × xOp)} (h : xOk X q.1 q.2) (ht : xAll X t) : xAll X (q :: t) := ⟨h, ht⟩
theorem xcast_ok {ci : Nat} {C : String} {r0 : vw_C} (hci : ci < 100) (hc : xcl[ci]? = some r0) (hC : r0.1 = C) : ∀ k, Nat.beq ci k = true → k < 100 ∧ ∃ r0, xcl[k]? = some r0 ∧ r0.1 = C := fun k h => by
  have e : ci = k := Nat.eq_of_beq_eq_true h
  subst e
  exact ⟨hci, r0, hc, hC⟩
theorem xoc {a : Cond} {l : List Cond} {P : Cond → Prop} (h : P a) (hl : ∀ b ∈ l, P b) : ∀ b ∈ a :: l, P b := List.forall_mem_cons.mpr ⟨h, hl⟩
theorem wt_1 {w : Cond} (h : w ∈ tables_1_1) : w ∈ lw_tbl := List.mem_append_right _ (List.mem_append_left _ h)
theorem wt_2 {w : Cond} (h : w ∈ tables_1_2) : w ∈ lw_tbl := List.mem_append_right _ (List.mem_append_right _ (List.mem_append_left _ h))
theorem wt_3 {w : Cond} (h : w ∈ tables_1_3) : w ∈ lw_tbl := List.mem_append_right _ (List.mem_append_right _ (List.mem_append_right _ (List.mem_append_left _ h)))
theorem wt_4 {w : Cond} (h : w ∈ tables_1_4) : w ∈ lw_tbl := List.mem_append_right _ (List.mem_append_right _ (List.mem_append_right _ (List.mem_append_right _ (List.mem_append_left _ h))))
theorem wt_5 {w : Cond} (h : w ∈ tables_1_5) : w ∈ lw_tbl := List.mem_append_right _ (List.mem_append_right _ (List.mem_append_right _ (List.mem_append_right _ (List.mem_append_right _ (List.mem_append_left _ h)))))
theorem wt_6 {w : Cond} (h : w ∈ tables_1_6) : w ∈ lw_tbl := List.mem_append_right _ (List.mem_append_right _ (List.mem_append_right _ (List.mem_append_right _ (List.mem_append_right _ (List.mem_append_right _ (List.mem_append_left _ h))))))
theorem wt_7 {w : Cond} (h : w ∈ tables_1_7) : w ∈ lw_tbl := List.mem_append_right _ (List.mem_append_right _ (List.mem_append_right _ (List.mem_append_right _ (List.mem_append_right _ (List.mem_append_right _ (List.mem_append_right _ (h)))))))
theorem w_0 : Cond.selects "java/util/ArrayList" y_AL_add2 y_AL_add2 ∈ xws := xws_at 0 (by decide +kernel) rfl
theorem w_1 : Cond.selects "java/util/ArrayList" y_AL_grow y_AL_grow ∈ xws := xws_at 1 (by decide +kernel) rfl
theorem w_2 : Cond.selects "java/util/ArrayList" y_AL_grow2 y_AL_grow2 ∈ xws := xws_at 2 (by decide +kernel) rfl
theorem w_4 : Cond.selects "StyleCourt" y_Sc_putOnTape y_Sc_putOnTape ∈ xws := xws_at 4 (by decide +kernel) rfl
theorem w_5 : Cond.selects "StyleCourt" y_Sc_takeTape y_Sc_takeTape ∈ xws := xws_at 5 (by decide +kernel) rfl
theorem w_6 : Cond.selects "StyleCourt$Source" y_So_readMarkup y_So_readMarkup ∈ xws := xws_at 6 (by decide +kernel) rfl
theorem w_7 : Cond.selects "StyleCourt$Source" y_So_readEndOfElement y_So_readEndOfElement ∈ xws := xws_at 7 (by decide +kernel) rfl
theorem w_8 : Cond.selects "StyleCourt$Source" y_So_finish y_So_finish ∈ xws := xws_at 8 (by decide +kernel) rfl
theorem w_9 : Cond.selects "StyleCourt$Source" y_So_readBeginOfElement y_So_readBeginOfElement ∈ xws := xws_at 9 (by decide +kernel) rfl
theorem w_10 : Cond.selects "StyleCourt$Source" y_So_readFields y_So_readFields ∈ xws := xws_at 10 (by decide +kernel) rfl
theorem w_11 : Cond.selects "StyleCourt$Reader" y_Rd_commentEndsHere y_Rd_commentEndsHere ∈ xws := xws_at 11 (by decide +kernel) rfl
theorem w_12 : Cond.selects "StyleCourt$Source" y_So_readEntity y_So_readEntity ∈ xws := xws_at 12 (by decide +kernel) rfl
theorem w_13 : Cond.selects "StyleCourt$Source" y_So_readReference y_So_readReference ∈ xws := xws_at 13 (by decide +kernel) rfl
theorem w_14 : Cond.selects "StyleCourt$Source" y_So_addText y_So_addText ∈ xws := xws_at 14 (by decide +kernel) rfl
theorem w_15 : Cond.selects "StyleCourt$Source" y_So_readText y_So_readText ∈ xws := xws_at 15 (by decide +kernel) rfl
theorem w_16 : Cond.selects "StyleCourt$Style" y_Sy_readTold y_Sy_readTold ∈ xws := xws_at 16 (by decide +kernel) rfl
theorem w_17 : Cond.selects "StyleCourt$Told" y_To_readAmount y_To_readAmount ∈ xws := xws_at 17 (by decide +kernel) rfl
theorem w_18 : Cond.selects "StyleCourt" y_Sc_takeName y_Sc_takeName ∈ xws := xws_at 18 (by decide +kernel) rfl
theorem w_19 : Cond.selects "StyleCourt" y_Sc_elementAt y_Sc_elementAt ∈ xws := xws_at 19 (by decide +kernel) rfl
theorem w_20 : Cond.selects "StyleCourt$Condition" y_Co_holdsForField y_Co_holdsForField ∈ xws := xws_at 20 (by decide +kernel) rfl
theorem w_21 : Cond.selects "StyleCourt" y_Sc_putValue y_Sc_putValue ∈ xws := xws_at 21 (by decide +kernel) rfl
theorem w_22 : Cond.selects "StyleCourt" y_Sc_putSlice y_Sc_putSlice ∈ xws := xws_at 22 (by decide +kernel) rfl
theorem w_23 : Cond.selects "StyleCourt" y_Sc_putNumber y_Sc_putNumber ∈ xws := xws_at 23 (by decide +kernel) rfl
theorem w_24 : Cond.selects "StyleCourt" y_Sc_putTexts y_Sc_putTexts ∈ xws := xws_at 24 (by decide +kernel) rfl
theorem w_25 : Cond.selects "StyleCourtModel" y_Mo_refuse y_Mo_refuse ∈ xws := xws_at 25 (by decide +kernel) rfl
theorem w_26 : Cond.selects "StyleCourtModel" y_Mo_four y_Mo_four ∈ xws := xws_at 26 (by decide +kernel) rfl
theorem w_27 : Cond.selects "StyleCourtModel" y_Mo_take y_Mo_take ∈ xws := xws_at 27 (by decide +kernel) rfl
theorem w_28 : Cond.selects "StyleCourtModel" y_Mo_readSource y_Mo_readSource ∈ xws := xws_at 28 (by decide +kernel) rfl
theorem w_29 : Cond.selects "StyleCourtModel" y_Mo_byteAt y_Mo_byteAt ∈ xws := xws_at 29 (by decide +kernel) rfl
theorem w_30 : Cond.selects "StyleCourtModel" y_Mo_closed y_Mo_closed ∈ xws := xws_at 30 (by decide +kernel) rfl
theorem w_31 : Cond.selects "StyleCourtModel" y_Mo_wrong y_Mo_wrong ∈ xws := xws_at 31 (by decide +kernel) rfl
theorem w_32 : Cond.selects "StyleCourtModel" y_Mo_nameFrom y_Mo_nameFrom ∈ xws := xws_at 32 (by decide +kernel) rfl
theorem w_33 : Cond.selects "StyleCourtModel" y_Mo_same y_Mo_same ∈ xws := xws_at 33 (by decide +kernel) rfl
theorem w_34 : Cond.selects "StyleCourtModel" y_Mo_blanks y_Mo_blanks ∈ xws := xws_at 34 (by decide +kernel) rfl
theorem w_35 : Cond.selects "StyleCourtModel" y_Mo_comment y_Mo_comment ∈ xws := xws_at 35 (by decide +kernel) rfl
theorem w_36 : Cond.selects "StyleCourtModel" y_Mo_defined y_Mo_defined ∈ xws := xws_at 36 (by decide +kernel) rfl
theorem w_37 : Cond.selects "StyleCourtModel" y_Mo_isFixed y_Mo_isFixed ∈ xws := xws_at 37 (by decide +kernel) rfl
theorem w_38 : Cond.selects "StyleCourtModel" y_Mo_isWord y_Mo_isWord ∈ xws := xws_at 38 (by decide +kernel) rfl
theorem w_39 : Cond.selects "StyleCourtModel" y_Mo_entity y_Mo_entity ∈ xws := xws_at 39 (by decide +kernel) rfl
theorem w_40 : Cond.selects "StyleCourtModel" y_Mo_stringFrom y_Mo_stringFrom ∈ xws := xws_at 40 (by decide +kernel) rfl
theorem w_41 : Cond.selects "StyleCourtModel" y_Mo_behindString y_Mo_behindString ∈ xws := xws_at 41 (by decide +kernel) rfl
theorem w_42 : Cond.selects "StyleCourtModel" y_Mo_opened y_Mo_opened ∈ xws := xws_at 42 (by decide +kernel) rfl
theorem w_43 : Cond.selects "StyleCourtModel" y_Mo_field y_Mo_field ∈ xws := xws_at 43 (by decide +kernel) rfl
theorem w_44 : Cond.selects "StyleCourtModel" y_Mo_reference y_Mo_reference ∈ xws := xws_at 44 (by decide +kernel) rfl
theorem w_45 : Cond.selects "StyleCourtModel" y_Mo_piece y_Mo_piece ∈ xws := xws_at 45 (by decide +kernel) rfl
theorem w_46 : Cond.selects "StyleCourtModel" y_Mo_readStyle y_Mo_readStyle ∈ xws := xws_at 46 (by decide +kernel) rfl
theorem w_47 : Cond.selects "StyleCourtModel" y_Mo_next y_Mo_next ∈ xws := xws_at 47 (by decide +kernel) rfl
theorem w_48 : Cond.selects "StyleCourtModel" y_Mo_selector y_Mo_selector ∈ xws := xws_at 48 (by decide +kernel) rfl
theorem w_49 : Cond.selects "StyleCourtModel" y_Mo_step y_Mo_step ∈ xws := xws_at 49 (by decide +kernel) rfl
theorem w_50 : Cond.selects "StyleCourtModel" y_Mo_isSign y_Mo_isSign ∈ xws := xws_at 50 (by decide +kernel) rfl
theorem w_51 : Cond.selects "StyleCourtModel" y_Mo_bracket y_Mo_bracket ∈ xws := xws_at 51 (by decide +kernel) rfl
theorem w_52 : Cond.selects "StyleCourtModel" y_Mo_needKind y_Mo_needKind ∈ xws := xws_at 52 (by decide +kernel) rfl
theorem w_53 : Cond.selects "StyleCourtModel" y_Mo_need y_Mo_need ∈ xws := xws_at 53 (by decide +kernel) rfl
theorem w_54 : Cond.selects "StyleCourtModel" y_Mo_colon y_Mo_colon ∈ xws := xws_at 54 (by decide +kernel) rfl
theorem w_55 : Cond.selects "StyleCourtModel" y_Mo_body y_Mo_body ∈ xws := xws_at 55 (by decide +kernel) rfl
theorem w_56 : Cond.selects "StyleCourtModel" y_Mo_known y_Mo_known ∈ xws := xws_at 56 (by decide +kernel) rfl
theorem w_57 : Cond.selects "StyleCourtModel" y_Mo_oneValue y_Mo_oneValue ∈ xws := xws_at 57 (by decide +kernel) rfl
theorem w_58 : Cond.selects "StyleCourtModel" y_Mo_asked y_Mo_asked ∈ xws := xws_at 58 (by decide +kernel) rfl
theorem w_59 : Cond.selects "StyleCourtModel" y_Mo_isThere y_Mo_isThere ∈ xws := xws_at 59 (by decide +kernel) rfl
theorem w_60 : Cond.selects "StyleCourtModel" y_Mo_counts y_Mo_counts ∈ xws := xws_at 60 (by decide +kernel) rfl
theorem w_61 : Cond.selects "StyleCourtModel" y_Mo_selectorFits y_Mo_selectorFits ∈ xws := xws_at 61 (by decide +kernel) rfl
theorem w_62 : Cond.selects "StyleCourtModel" y_Mo_stepFits y_Mo_stepFits ∈ xws := xws_at 62 (by decide +kernel) rfl
theorem w_63 : Cond.selects "StyleCourtModel" y_Mo_isSo y_Mo_isSo ∈ xws := xws_at 63 (by decide +kernel) rfl
theorem w_64 : Cond.selects "StyleCourtModel" y_Mo_fieldOf y_Mo_fieldOf ∈ xws := xws_at 64 (by decide +kernel) rfl
theorem w_65 : Cond.selects "StyleCourtModel" y_Mo_among y_Mo_among ∈ xws := xws_at 65 (by decide +kernel) rfl
theorem w_66 : Cond.selects "StyleCourtModel" y_Mo_sayNumber y_Mo_sayNumber ∈ xws := xws_at 66 (by decide +kernel) rfl
theorem w_67 : Cond.selects "StyleCourtModel" y_Mo_say y_Mo_say ∈ xws := xws_at 67 (by decide +kernel) rfl
set_option maxRecDepth 100000 in
theorem w_68 : Cond.initialized "StyleCourtLaw" ∈ xws := xws_in (wt_1 (List.mem_of_getElem? (i := 0) rfl)) rfl
set_option maxRecDepth 100000 in
theorem w_69 : Cond.initialized "StyleCourt" ∈ xws := xws_in (wt_1 (List.mem_of_getElem? (i := 1) rfl)) rfl
set_option maxRecDepth 100000 in
theorem w_70 : Cond.initialized "StyleCourt$Reader" ∈ xws := xws_in (wt_1 (List.mem_of_getElem? (i := 2) rfl)) rfl
set_option maxRecDepth 100000 in
theorem w_71 : Cond.initialized "java/util/Arrays" ∈ xws := xws_in (wt_1 (List.mem_of_getElem? (i := 3) rfl)) rfl
set_option maxRecDepth 100000 in
theorem w_72 : Cond.initialized "java/lang/Math" ∈ xws := xws_in (wt_1 (List.mem_of_getElem? (i := 4) rfl)) rfl
set_option maxRecDepth 100000 in
theorem w_74 : Cond.initialized "StyleCourt$Source" ∈ xws := xws_in (wt_1 (List.mem_of_getElem? (i := 6) rfl)) rfl
set_option maxRecDepth 100000 in
theorem w_75 : Cond.initialized "java/util/AbstractCollection" ∈ xws := xws_in (wt_1 (List.mem_of_getElem? (i := 7) rfl)) rfl
set_option maxRecDepth 100000 in
theorem w_76 : Cond.initialized "java/util/AbstractList" ∈ xws := xws_in (wt_1 (List.mem_of_getElem? (i := 8) rfl)) rfl
set_option maxRecDepth 100000 in
theorem w_77 : Cond.initialized "java/util/ArrayList" ∈ xws := xws_in (wt_1 (List.mem_of_getElem? (i := 9) rfl)) rfl
set_option maxRecDepth 100000 in
theorem w_78 : Cond.initialized "StyleCourt$Element" ∈ xws := xws_in (wt_1 (List.mem_of_getElem? (i := 10) rfl)) rfl
set_option maxRecDepth 100000 in
theorem w_79 : Cond.initialized "StyleCourt$Slice" ∈ xws := xws_in (wt_1 (List.mem_of_getElem? (i := 11) rfl)) rfl
set_option maxRecDepth 100000 in
theorem w_80 : Cond.initialized "StyleCourt$Named" ∈ xws := xws_in (wt_1 (List.mem_of_getElem? (i := 12) rfl)) rfl
set_option maxRecDepth 100000 in
theorem w_81 : Cond.initialized "jdk/internal/util/ArraysSupport" ∈ xws := xws_in (wt_1 (List.mem_of_getElem? (i := 13) rfl)) rfl
set_option maxRecDepth 100000 in
theorem w_82 : Cond.initialized "StyleCourt$Style" ∈ xws := xws_in (wt_1 (List.mem_of_getElem? (i := 14) rfl)) rfl
set_option maxRecDepth 100000 in
theorem w_83 : Cond.initialized "StyleCourtModel" ∈ xws := xws_in (wt_1 (List.mem_of_getElem? (i := 15) rfl)) rfl
set_option maxRecDepth 100000 in
theorem w_84 : Cond.initialized "java/lang/Throwable" ∈ xws := xws_in (wt_1 (List.mem_of_getElem? (i := 16) rfl)) rfl
set_option maxRecDepth 100000 in
theorem w_87 : Cond.initialized "java/lang/IndexOutOfBoundsException" ∈ xws := xws_in (wt_1 (List.mem_of_getElem? (i := 19) rfl)) rfl
set_option maxRecDepth 100000 in
theorem w_88 : Cond.initialized "java/lang/IllegalArgumentException" ∈ xws := xws_in (wt_1 (List.mem_of_getElem? (i := 20) rfl)) rfl
set_option maxRecDepth 100000 in
theorem w_89 : Cond.initialized "java/lang/UnsupportedOperationException" ∈ xws := xws_in (wt_1 (List.mem_of_getElem? (i := 21) rfl)) rfl
set_option maxRecDepth 100000 in
theorem w_90 : Cond.initialized "java/util/Objects" ∈ xws := xws_in (wt_1 (List.mem_of_getElem? (i := 22) rfl)) rfl
set_option maxRecDepth 100000 in
theorem w_91 : Cond.initialized "jdk/internal/util/Preconditions" ∈ xws := xws_in (wt_1 (List.mem_of_getElem? (i := 23) rfl)) rfl
set_option maxRecDepth 100000 in
theorem w_92 : Cond.initialized "StyleCourt$Rule" ∈ xws := xws_in (wt_1 (List.mem_of_getElem? (i := 24) rfl)) rfl
set_option maxRecDepth 100000 in
theorem w_93 : Cond.initialized "StyleCourt$Selector" ∈ xws := xws_in (wt_1 (List.mem_of_getElem? (i := 25) rfl)) rfl
set_option maxRecDepth 100000 in
theorem w_94 : Cond.initialized "StyleCourt$Step" ∈ xws := xws_in (wt_1 (List.mem_of_getElem? (i := 26) rfl)) rfl
set_option maxRecDepth 100000 in
theorem w_95 : Cond.initialized "StyleCourt$Condition" ∈ xws := xws_in (wt_1 (List.mem_of_getElem? (i := 27) rfl)) rfl
set_option maxRecDepth 100000 in
theorem w_96 : Cond.initialized "java/lang/String" ∈ xws := xws_in (wt_1 (List.mem_of_getElem? (i := 28) rfl)) rfl
set_option maxRecDepth 100000 in
theorem w_97 : Cond.initialized "java/lang/StringLatin1" ∈ xws := xws_in (wt_1 (List.mem_of_getElem? (i := 29) rfl)) rfl
set_option maxRecDepth 100000 in
theorem w_98 : Cond.initialized "java/lang/StringUTF16" ∈ xws := xws_in (wt_1 (List.mem_of_getElem? (i := 30) rfl)) rfl
set_option maxRecDepth 100000 in
theorem w_99 : Cond.initialized "StyleCourt$Told" ∈ xws := xws_in (wt_1 (List.mem_of_getElem? (i := 31) rfl)) rfl
set_option maxRecDepth 100000 in
theorem w_100 : Cond.classLink "StyleCourtLaw" 8 "StyleCourt" ∈ xws := xws_in (wt_1 (List.mem_of_getElem? (i := 32) rfl)) rfl
set_option maxRecDepth 100000 in
theorem w_101 : Cond.instantiable "StyleCourt" 12 ∈ xws := xws_in (wt_1 (List.mem_of_getElem? (i := 33) rfl)) rfl
set_option maxRecDepth 100000 in
theorem w_102 : Cond.methodLink "StyleCourtLaw" 59 y_Sc_init ∈ xws := xws_in (wt_1 (List.mem_of_getElem? (i := 34) rfl)) rfl
set_option maxRecDepth 100000 in
theorem w_103 : Cond.instanceMethod y_Sc_init ∈ xws := xws_in (wt_1 (List.mem_of_getElem? (i := 35) rfl)) rfl
set_option maxRecDepth 100000 in
theorem w_104 : Cond.code y_Sc_init prog_1_method_1_code 1 none ∈ xws := xws_in (wt_1 (List.mem_of_getElem? (i := 36) rfl)) rfl
set_option maxRecDepth 100000 in
theorem w_105 : Cond.methodLink "StyleCourt" 1 y_Oj_init ∈ xws := xws_in (wt_1 (List.mem_of_getElem? (i := 37) rfl)) rfl
set_option maxRecDepth 100000 in
theorem w_106 : Cond.instanceMethod y_Oj_init ∈ xws := xws_in (wt_1 (List.mem_of_getElem? (i := 38) rfl)) rfl
set_option maxRecDepth 100000 in
theorem w_107 : Cond.code objectInit ⟨#[0xb1]⟩ 1 none ∈ xws := xws_in (wt_1 (List.mem_of_getElem? (i := 39) rfl)) rfl
set_option maxRecDepth 100000 in
theorem w_108 : Cond.classLink "StyleCourt" 33 "StyleCourt$Reader" ∈ xws := xws_in (wt_1 (List.mem_of_getElem? (i := 40) rfl)) rfl
set_option maxRecDepth 100000 in
theorem w_109 : Cond.instantiable "StyleCourt$Reader" 3 ∈ xws := xws_in (wt_1 (List.mem_of_getElem? (i := 41) rfl)) rfl
set_option maxRecDepth 100000 in
theorem w_110 : Cond.fieldLink "StyleCourt" 35 "StyleCourt" "KNOWN" "[B" ∈ xws := xws_in (wt_1 (List.mem_of_getElem? (i := 42) rfl)) rfl
set_option maxRecDepth 100000 in
theorem w_112 : Cond.methodLink "StyleCourt" 38 y_Rd_init ∈ xws := xws_in (wt_1 (List.mem_of_getElem? (i := 44) rfl)) rfl
set_option maxRecDepth 100000 in
theorem w_113 : Cond.instanceMethod y_Rd_init ∈ xws := xws_in (wt_1 (List.mem_of_getElem? (i := 45) rfl)) rfl
set_option maxRecDepth 100000 in
theorem w_114 : Cond.code y_Rd_init prog_5_method_1_code 3 none ∈ xws := xws_in (wt_1 (List.mem_of_getElem? (i := 46) rfl)) rfl
set_option maxRecDepth 100000 in
theorem w_115 : Cond.methodLink "StyleCourt$Reader" 3 y_Oj_init ∈ xws := xws_in (wt_1 (List.mem_of_getElem? (i := 47) rfl)) rfl
set_option maxRecDepth 100000 in
theorem w_116 : Cond.methodLink "StyleCourt$Reader" 18 y_Ar_copyOf ∈ xws := xws_in (wt_1 (List.mem_of_getElem? (i := 48) rfl)) rfl
set_option maxRecDepth 100000 in
theorem w_117 : Cond.static y_Ar_copyOf ∈ xws := xws_in (wt_1 (List.mem_of_getElem? (i := 49) rfl)) rfl
set_option maxRecDepth 100000 in
theorem w_118 : Cond.code y_Ar_copyOf prog_32_method_121_code 3 (some (.array .byte)) ∈ xws := xws_in (wt_1 (List.mem_of_getElem? (i := 50) rfl)) rfl
set_option maxRecDepth 100000 in
theorem w_126 : Cond.methodLink "java/util/Arrays" 304 y_Ma_min ∈ xws := xws_in (wt_1 (List.mem_of_getElem? (i := 58) rfl)) rfl
set_option maxRecDepth 100000 in
theorem w_127 : Cond.static y_Ma_min ∈ xws := xws_in (wt_1 (List.mem_of_getElem? (i := 59) rfl)) rfl
set_option maxRecDepth 100000 in
theorem w_128 : Cond.code y_Ma_min prog_21_method_69_code 2 (some .int) ∈ xws := xws_in (wt_1 (List.mem_of_getElem? (i := 60) rfl)) rfl
set_option maxRecDepth 100000 in
theorem w_132 : Cond.fieldLink "StyleCourt$Reader" 24 "StyleCourt$Reader" "bytes" "[B" ∈ xws := xws_in (wt_1 (List.mem_of_getElem? (i := 64) rfl)) rfl
set_option maxRecDepth 100000 in
theorem w_133 : Cond.fieldLink "StyleCourt$Source" 91 "StyleCourt$Reader" "bytes" "[B" ∈ xws := xws_in (wt_1 (List.mem_of_getElem? (i := 65) rfl)) rfl
set_option maxRecDepth 100000 in
theorem w_134 : Cond.fieldLink "StyleCourt" 88 "StyleCourt$Reader" "bytes" "[B" ∈ xws := xws_in (wt_1 (List.mem_of_getElem? (i := 66) rfl)) rfl
set_option maxRecDepth 100000 in
theorem w_135 : Cond.fieldLink "StyleCourt$Reader" 9 "StyleCourt$Reader" "at" "I" ∈ xws := xws_in (wt_1 (List.mem_of_getElem? (i := 67) rfl)) rfl
set_option maxRecDepth 100000 in
theorem w_136 : Cond.fieldLink "StyleCourt$Source" 54 "StyleCourt$Reader" "at" "I" ∈ xws := xws_in (wt_1 (List.mem_of_getElem? (i := 68) rfl)) rfl
set_option maxRecDepth 100000 in
theorem w_137 : Cond.fieldLink "StyleCourt$Step" 32 "StyleCourt$Reader" "at" "I" ∈ xws := xws_in (wt_1 (List.mem_of_getElem? (i := 69) rfl)) rfl
set_option maxRecDepth 100000 in
theorem w_138 : Cond.fieldLink "StyleCourt$Selector" 28 "StyleCourt$Reader" "at" "I" ∈ xws := xws_in (wt_1 (List.mem_of_getElem? (i := 70) rfl)) rfl
set_option maxRecDepth 100000 in
theorem w_139 : Cond.fieldLink "StyleCourt$Condition" 35 "StyleCourt$Reader" "at" "I" ∈ xws := xws_in (wt_1 (List.mem_of_getElem? (i := 71) rfl)) rfl
set_option maxRecDepth 100000 in
theorem w_140 : Cond.fieldLink "StyleCourt$Style" 37 "StyleCourt$Reader" "at" "I" ∈ xws := xws_in (wt_1 (List.mem_of_getElem? (i := 72) rfl)) rfl
set_option maxRecDepth 100000 in
theorem w_141 : Cond.fieldLink "StyleCourt$Told" 56 "StyleCourt$Reader" "at" "I" ∈ xws := xws_in (wt_1 (List.mem_of_getElem? (i := 73) rfl)) rfl
set_option maxRecDepth 100000 in
theorem w_142 : Cond.fieldLink "StyleCourt" 178 "StyleCourt$Reader" "at" "I" ∈ xws := xws_in (wt_1 (List.mem_of_getElem? (i := 74) rfl)) rfl
set_option maxRecDepth 100000 in
theorem w_143 : Cond.fieldLink "StyleCourt$Reader" 15 "StyleCourt$Reader" "brokenAt" "I" ∈ xws := xws_in (wt_1 (List.mem_of_getElem? (i := 75) rfl)) rfl
set_option maxRecDepth 100000 in
theorem w_144 : Cond.fieldLink "StyleCourt" 134 "StyleCourt$Reader" "brokenAt" "I" ∈ xws := xws_in (wt_1 (List.mem_of_getElem? (i := 76) rfl)) rfl
set_option maxRecDepth 100000 in
theorem w_152 : Cond.arrayClass .byte ∈ xws := xws_in (wt_1 (List.mem_of_getElem? (i := 84) rfl)) rfl
set_option maxRecDepth 100000 in
theorem w_153 : Cond.arrayClass .int ∈ xws := xws_in (wt_1 (List.mem_of_getElem? (i := 85) rfl)) rfl
set_option maxRecDepth 100000 in
theorem w_154 : Cond.classLink "StyleCourt" 45 "StyleCourt$Source" ∈ xws := xws_in (wt_1 (List.mem_of_getElem? (i := 86) rfl)) rfl
set_option maxRecDepth 100000 in
theorem w_155 : Cond.instantiable "StyleCourt$Source" 5 ∈ xws := xws_in (wt_1 (List.mem_of_getElem? (i := 87) rfl)) rfl
set_option maxRecDepth 100000 in
theorem w_156 : Cond.methodLink "StyleCourt" 47 y_So_init ∈ xws := xws_in (wt_1 (List.mem_of_getElem? (i := 88) rfl)) rfl
set_option maxRecDepth 100000 in
theorem w_157 : Cond.instanceMethod y_So_init ∈ xws := xws_in (wt_1 (List.mem_of_getElem? (i := 89) rfl)) rfl
set_option maxRecDepth 100000 in
theorem w_158 : Cond.code y_So_init prog_9_method_1_code 1 none ∈ xws := xws_in (wt_1 (List.mem_of_getElem? (i := 90) rfl)) rfl
set_option maxRecDepth 100000 in
theorem w_159 : Cond.methodLink "StyleCourt$Source" 3 y_Oj_init ∈ xws := xws_in (wt_1 (List.mem_of_getElem? (i := 91) rfl)) rfl
set_option maxRecDepth 100000 in
theorem w_160 : Cond.classLink "StyleCourt$Source" 9 "java/util/ArrayList" ∈ xws := xws_in (wt_1 (List.mem_of_getElem? (i := 92) rfl)) rfl
set_option maxRecDepth 100000 in
theorem w_161 : Cond.instantiable "java/util/ArrayList" 3 ∈ xws := xws_in (wt_1 (List.mem_of_getElem? (i := 93) rfl)) rfl
set_option maxRecDepth 100000 in
theorem w_162 : Cond.methodLink "StyleCourt$Source" 11 y_AL_init ∈ xws := xws_in (wt_1 (List.mem_of_getElem? (i := 94) rfl)) rfl
set_option maxRecDepth 100000 in
theorem w_163 : Cond.instanceMethod y_AL_init ∈ xws := xws_in (wt_1 (List.mem_of_getElem? (i := 95) rfl)) rfl
set_option maxRecDepth 100000 in
theorem w_164 : Cond.code y_AL_init prog_31_method_2_code 1 none ∈ xws := xws_in (wt_1 (List.mem_of_getElem? (i := 96) rfl)) rfl
set_option maxRecDepth 100000 in
theorem w_165 : Cond.methodLink "java/util/ArrayList" 1 y_AB_init ∈ xws := xws_in (wt_1 (List.mem_of_getElem? (i := 97) rfl)) rfl
set_option maxRecDepth 100000 in
theorem w_166 : Cond.instanceMethod y_AB_init ∈ xws := xws_in (wt_1 (List.mem_of_getElem? (i := 98) rfl)) rfl
set_option maxRecDepth 100000 in
theorem w_167 : Cond.code y_AB_init prog_30_method_1_code 1 none ∈ xws := xws_in (wt_1 (List.mem_of_getElem? (i := 99) rfl)) rfl
set_option maxRecDepth 100000 in
theorem w_168 : Cond.methodLink "java/util/AbstractList" 1 y_AC_init ∈ xws := xws_in (wt_1 (List.mem_of_getElem? (i := 100) rfl)) rfl
set_option maxRecDepth 100000 in
theorem w_169 : Cond.instanceMethod y_AC_init ∈ xws := xws_in (wt_1 (List.mem_of_getElem? (i := 101) rfl)) rfl
set_option maxRecDepth 100000 in
theorem w_170 : Cond.code y_AC_init prog_29_method_1_code 1 none ∈ xws := xws_in (wt_1 (List.mem_of_getElem? (i := 102) rfl)) rfl
set_option maxRecDepth 100000 in
theorem w_171 : Cond.methodLink "java/util/AbstractCollection" 1 y_Oj_init ∈ xws := xws_in (wt_1 (List.mem_of_getElem? (i := 103) rfl)) rfl
set_option maxRecDepth 100000 in
theorem w_172 : Cond.fieldLink "java/util/ArrayList" 39 "java/util/ArrayList" "DEFAULTCAPACITY_EMPTY_ELEMENTDATA" "[Ljava/lang/Object;" ∈ xws := xws_in (wt_1 (List.mem_of_getElem? (i := 104) rfl)) rfl
set_option maxRecDepth 100000 in
theorem w_174 : Cond.fieldLink "java/util/ArrayList" 9 "java/util/ArrayList" "elementData" "[Ljava/lang/Object;" ∈ xws := xws_in (wt_1 (List.mem_of_getElem? (i := 106) rfl)) rfl
set_option maxRecDepth 100000 in
theorem w_175 : Cond.fieldLink "java/util/ArrayList" 48 "java/util/ArrayList" "size" "I" ∈ xws := xws_in (wt_1 (List.mem_of_getElem? (i := 107) rfl)) rfl
set_option maxRecDepth 100000 in
theorem w_186 : Cond.classLink "StyleCourt$Source" 24 "StyleCourt$Element" ∈ xws := xws_in (wt_1 (List.mem_of_getElem? (i := 118) rfl)) rfl
set_option maxRecDepth 100000 in
theorem w_187 : Cond.instantiable "StyleCourt$Element" 15 ∈ xws := xws_in (wt_1 (List.mem_of_getElem? (i := 119) rfl)) rfl
set_option maxRecDepth 100000 in
theorem w_188 : Cond.classLink "StyleCourt$Source" 26 "StyleCourt$Slice" ∈ xws := xws_in (wt_1 (List.mem_of_getElem? (i := 120) rfl)) rfl
set_option maxRecDepth 100000 in
theorem w_189 : Cond.instantiable "StyleCourt$Slice" 3 ∈ xws := xws_in (wt_1 (List.mem_of_getElem? (i := 121) rfl)) rfl
set_option maxRecDepth 100000 in
theorem w_191 : Cond.methodLink "StyleCourt$Source" 32 y_Sl_init ∈ xws := xws_in (wt_1 (List.mem_of_getElem? (i := 123) rfl)) rfl
set_option maxRecDepth 100000 in
theorem w_192 : Cond.instanceMethod y_Sl_init ∈ xws := xws_in (wt_1 (List.mem_of_getElem? (i := 124) rfl)) rfl
set_option maxRecDepth 100000 in
theorem w_193 : Cond.code y_Sl_init prog_8_method_1_code 4 none ∈ xws := xws_in (wt_1 (List.mem_of_getElem? (i := 125) rfl)) rfl
set_option maxRecDepth 100000 in
theorem w_194 : Cond.methodLink "StyleCourt$Slice" 1 y_Oj_init ∈ xws := xws_in (wt_1 (List.mem_of_getElem? (i := 126) rfl)) rfl
set_option maxRecDepth 100000 in
theorem w_195 : Cond.fieldLink "StyleCourt$Slice" 7 "StyleCourt$Slice" "bytes" "[B" ∈ xws := xws_in (wt_1 (List.mem_of_getElem? (i := 127) rfl)) rfl
set_option maxRecDepth 100000 in
theorem w_196 : Cond.fieldLink "StyleCourt$Slice" 13 "StyleCourt$Slice" "from" "I" ∈ xws := xws_in (wt_1 (List.mem_of_getElem? (i := 128) rfl)) rfl
set_option maxRecDepth 100000 in
theorem w_197 : Cond.fieldLink "StyleCourt$Condition" 64 "StyleCourt$Slice" "from" "I" ∈ xws := xws_in (wt_1 (List.mem_of_getElem? (i := 129) rfl)) rfl
set_option maxRecDepth 100000 in
theorem w_198 : Cond.fieldLink "StyleCourt$Style" 77 "StyleCourt$Slice" "from" "I" ∈ xws := xws_in (wt_1 (List.mem_of_getElem? (i := 130) rfl)) rfl
set_option maxRecDepth 100000 in
theorem w_199 : Cond.fieldLink "StyleCourt$Source" 117 "StyleCourt$Slice" "from" "I" ∈ xws := xws_in (wt_1 (List.mem_of_getElem? (i := 131) rfl)) rfl
set_option maxRecDepth 100000 in
theorem w_200 : Cond.fieldLink "StyleCourt$Slice" 17 "StyleCourt$Slice" "length" "I" ∈ xws := xws_in (wt_1 (List.mem_of_getElem? (i := 132) rfl)) rfl
set_option maxRecDepth 100000 in
theorem w_201 : Cond.fieldLink "StyleCourt$Source" 124 "StyleCourt$Slice" "length" "I" ∈ xws := xws_in (wt_1 (List.mem_of_getElem? (i := 133) rfl)) rfl
set_option maxRecDepth 100000 in
theorem w_202 : Cond.fieldLink "StyleCourt" 290 "StyleCourt$Slice" "length" "I" ∈ xws := xws_in (wt_1 (List.mem_of_getElem? (i := 134) rfl)) rfl
set_option maxRecDepth 100000 in
theorem w_210 : Cond.methodLink "StyleCourt$Source" 35 y_El_init ∈ xws := xws_in (wt_1 (List.mem_of_getElem? (i := 142) rfl)) rfl
set_option maxRecDepth 100000 in
theorem w_211 : Cond.instanceMethod y_El_init ∈ xws := xws_in (wt_1 (List.mem_of_getElem? (i := 143) rfl)) rfl
set_option maxRecDepth 100000 in
theorem w_212 : Cond.code y_El_init prog_3_method_1_code 5 none ∈ xws := xws_in (wt_1 (List.mem_of_getElem? (i := 144) rfl)) rfl
set_option maxRecDepth 100000 in
theorem w_213 : Cond.methodLink "StyleCourt$Element" 1 y_Oj_init ∈ xws := xws_in (wt_1 (List.mem_of_getElem? (i := 145) rfl)) rfl
set_option maxRecDepth 100000 in
theorem w_214 : Cond.classLink "StyleCourt$Element" 7 "java/util/ArrayList" ∈ xws := xws_in (wt_1 (List.mem_of_getElem? (i := 146) rfl)) rfl
set_option maxRecDepth 100000 in
theorem w_215 : Cond.methodLink "StyleCourt$Element" 9 y_AL_init ∈ xws := xws_in (wt_1 (List.mem_of_getElem? (i := 147) rfl)) rfl
set_option maxRecDepth 100000 in
theorem w_216 : Cond.fieldLink "StyleCourt$Element" 40 "StyleCourt$Element" "name" "LStyleCourt$Slice;" ∈ xws := xws_in (wt_1 (List.mem_of_getElem? (i := 148) rfl)) rfl
set_option maxRecDepth 100000 in
theorem w_217 : Cond.fieldLink "StyleCourt$Step" 60 "StyleCourt$Element" "name" "LStyleCourt$Slice;" ∈ xws := xws_in (wt_1 (List.mem_of_getElem? (i := 149) rfl)) rfl
set_option maxRecDepth 100000 in
theorem w_218 : Cond.fieldLink "StyleCourt$Condition" 82 "StyleCourt$Element" "name" "LStyleCourt$Slice;" ∈ xws := xws_in (wt_1 (List.mem_of_getElem? (i := 150) rfl)) rfl
set_option maxRecDepth 100000 in
theorem w_219 : Cond.fieldLink "StyleCourt$Source" 178 "StyleCourt$Element" "name" "LStyleCourt$Slice;" ∈ xws := xws_in (wt_1 (List.mem_of_getElem? (i := 151) rfl)) rfl
set_option maxRecDepth 100000 in
theorem w_220 : Cond.fieldLink "StyleCourt" 229 "StyleCourt$Element" "name" "LStyleCourt$Slice;" ∈ xws := xws_in (wt_1 (List.mem_of_getElem? (i := 152) rfl)) rfl
set_option maxRecDepth 100000 in
theorem w_221 : Cond.fieldLink "StyleCourt$Element" 44 "StyleCourt$Element" "parent" "LStyleCourt$Element;" ∈ xws := xws_in (wt_1 (List.mem_of_getElem? (i := 153) rfl)) rfl
set_option maxRecDepth 100000 in
theorem w_222 : Cond.fieldLink "StyleCourt$Selector" 83 "StyleCourt$Element" "parent" "LStyleCourt$Element;" ∈ xws := xws_in (wt_1 (List.mem_of_getElem? (i := 154) rfl)) rfl
set_option maxRecDepth 100000 in
theorem w_223 : Cond.fieldLink "StyleCourt$Style" 98 "StyleCourt$Element" "parent" "LStyleCourt$Element;" ∈ xws := xws_in (wt_1 (List.mem_of_getElem? (i := 155) rfl)) rfl
set_option maxRecDepth 100000 in
theorem w_224 : Cond.fieldLink "StyleCourt" 162 "StyleCourt$Element" "parent" "LStyleCourt$Element;" ∈ xws := xws_in (wt_1 (List.mem_of_getElem? (i := 156) rfl)) rfl
set_option maxRecDepth 100000 in
theorem w_225 : Cond.fieldLink "StyleCourt$Source" 185 "StyleCourt$Element" "parent" "LStyleCourt$Element;" ∈ xws := xws_in (wt_1 (List.mem_of_getElem? (i := 157) rfl)) rfl
set_option maxRecDepth 100000 in
theorem w_226 : Cond.fieldLink "StyleCourt$Element" 47 "StyleCourt$Element" "before" "LStyleCourt$Element;" ∈ xws := xws_in (wt_1 (List.mem_of_getElem? (i := 158) rfl)) rfl
set_option maxRecDepth 100000 in
theorem w_227 : Cond.fieldLink "StyleCourt$Selector" 79 "StyleCourt$Element" "before" "LStyleCourt$Element;" ∈ xws := xws_in (wt_1 (List.mem_of_getElem? (i := 159) rfl)) rfl
set_option maxRecDepth 100000 in
theorem w_228 : Cond.fieldLink "StyleCourt$Source" 162 "StyleCourt$Element" "before" "LStyleCourt$Element;" ∈ xws := xws_in (wt_1 (List.mem_of_getElem? (i := 160) rfl)) rfl
set_option maxRecDepth 100000 in
theorem w_229 : Cond.fieldLink "StyleCourt" 200 "StyleCourt$Element" "before" "LStyleCourt$Element;" ∈ xws := xws_in (wt_1 (List.mem_of_getElem? (i := 161) rfl)) rfl
set_option maxRecDepth 100000 in
theorem w_230 : Cond.fieldLink "StyleCourt$Element" 50 "StyleCourt$Element" "index" "I" ∈ xws := xws_in (wt_1 (List.mem_of_getElem? (i := 162) rfl)) rfl
set_option maxRecDepth 100000 in
theorem w_231 : Cond.fieldLink "StyleCourt" 199 "StyleCourt$Element" "index" "I" ∈ xws := xws_in (wt_1 (List.mem_of_getElem? (i := 163) rfl)) rfl
set_option maxRecDepth 100000 in
theorem w_232 : Cond.fieldLink "StyleCourt$Element" 53 "StyleCourt$Element" "number" "I" ∈ xws := xws_in (wt_1 (List.mem_of_getElem? (i := 164) rfl)) rfl
set_option maxRecDepth 100000 in
theorem w_233 : Cond.fieldLink "StyleCourt$Condition" 71 "StyleCourt$Element" "number" "I" ∈ xws := xws_in (wt_1 (List.mem_of_getElem? (i := 165) rfl)) rfl
set_option maxRecDepth 100000 in
theorem w_234 : Cond.fieldLink "StyleCourt" 196 "StyleCourt$Element" "number" "I" ∈ xws := xws_in (wt_1 (List.mem_of_getElem? (i := 166) rfl)) rfl
set_option maxRecDepth 100000 in
theorem w_235 : Cond.fieldLink "StyleCourt$Element" 56 "StyleCourt$Element" "depth" "I" ∈ xws := xws_in (wt_1 (List.mem_of_getElem? (i := 167) rfl)) rfl
set_option maxRecDepth 100000 in
theorem w_236 : Cond.fieldLink "StyleCourt$Selector" 61 "StyleCourt$Element" "depth" "I" ∈ xws := xws_in (wt_1 (List.mem_of_getElem? (i := 168) rfl)) rfl
set_option maxRecDepth 100000 in
theorem w_237 : Cond.fieldLink "StyleCourt$Source" 146 "StyleCourt$Element" "depth" "I" ∈ xws := xws_in (wt_1 (List.mem_of_getElem? (i := 169) rfl)) rfl
set_option maxRecDepth 100000 in
theorem w_238 : Cond.fieldLink "StyleCourt" 206 "StyleCourt$Element" "depth" "I" ∈ xws := xws_in (wt_1 (List.mem_of_getElem? (i := 170) rfl)) rfl
set_option maxRecDepth 100000 in
theorem w_239 : Cond.fieldLink "StyleCourt$Element" 59 "StyleCourt$Element" "begin" "I" ∈ xws := xws_in (wt_1 (List.mem_of_getElem? (i := 171) rfl)) rfl
set_option maxRecDepth 100000 in
theorem w_240 : Cond.fieldLink "StyleCourt" 215 "StyleCourt$Element" "begin" "I" ∈ xws := xws_in (wt_1 (List.mem_of_getElem? (i := 172) rfl)) rfl
set_option maxRecDepth 100000 in
theorem w_241 : Cond.fieldLink "StyleCourt$Element" 10 "StyleCourt$Element" "fields" "Ljava/util/ArrayList;" ∈ xws := xws_in (wt_1 (List.mem_of_getElem? (i := 173) rfl)) rfl
set_option maxRecDepth 100000 in
theorem w_242 : Cond.fieldLink "StyleCourt$Condition" 87 "StyleCourt$Element" "fields" "Ljava/util/ArrayList;" ∈ xws := xws_in (wt_1 (List.mem_of_getElem? (i := 174) rfl)) rfl
set_option maxRecDepth 100000 in
theorem w_243 : Cond.fieldLink "StyleCourt$Source" 175 "StyleCourt$Element" "fields" "Ljava/util/ArrayList;" ∈ xws := xws_in (wt_1 (List.mem_of_getElem? (i := 175) rfl)) rfl
set_option maxRecDepth 100000 in
theorem w_244 : Cond.fieldLink "StyleCourt" 209 "StyleCourt$Element" "fields" "Ljava/util/ArrayList;" ∈ xws := xws_in (wt_1 (List.mem_of_getElem? (i := 176) rfl)) rfl
set_option maxRecDepth 100000 in
theorem w_245 : Cond.fieldLink "StyleCourt$Element" 16 "StyleCourt$Element" "lastChild" "LStyleCourt$Element;" ∈ xws := xws_in (wt_1 (List.mem_of_getElem? (i := 177) rfl)) rfl
set_option maxRecDepth 100000 in
theorem w_246 : Cond.fieldLink "StyleCourt$Source" 156 "StyleCourt$Element" "lastChild" "LStyleCourt$Element;" ∈ xws := xws_in (wt_1 (List.mem_of_getElem? (i := 178) rfl)) rfl
set_option maxRecDepth 100000 in
theorem w_247 : Cond.fieldLink "StyleCourt$Element" 20 "StyleCourt$Element" "children" "I" ∈ xws := xws_in (wt_1 (List.mem_of_getElem? (i := 179) rfl)) rfl
set_option maxRecDepth 100000 in
theorem w_248 : Cond.fieldLink "StyleCourt$Source" 159 "StyleCourt$Element" "children" "I" ∈ xws := xws_in (wt_1 (List.mem_of_getElem? (i := 180) rfl)) rfl
set_option maxRecDepth 100000 in
theorem w_249 : Cond.fieldLink "StyleCourt" 203 "StyleCourt$Element" "children" "I" ∈ xws := xws_in (wt_1 (List.mem_of_getElem? (i := 181) rfl)) rfl
set_option maxRecDepth 100000 in
theorem w_250 : Cond.fieldLink "StyleCourt$Element" 24 "StyleCourt$Element" "followed" "Z" ∈ xws := xws_in (wt_1 (List.mem_of_getElem? (i := 182) rfl)) rfl
set_option maxRecDepth 100000 in
theorem w_251 : Cond.fieldLink "StyleCourt$Condition" 74 "StyleCourt$Element" "followed" "Z" ∈ xws := xws_in (wt_1 (List.mem_of_getElem? (i := 183) rfl)) rfl
set_option maxRecDepth 100000 in
theorem w_252 : Cond.fieldLink "StyleCourt$Source" 165 "StyleCourt$Element" "followed" "Z" ∈ xws := xws_in (wt_1 (List.mem_of_getElem? (i := 184) rfl)) rfl
set_option maxRecDepth 100000 in
theorem w_253 : Cond.fieldLink "StyleCourt$Element" 28 "StyleCourt$Element" "hasText" "Z" ∈ xws := xws_in (wt_1 (List.mem_of_getElem? (i := 185) rfl)) rfl
set_option maxRecDepth 100000 in
theorem w_254 : Cond.fieldLink "StyleCourt$Source" 127 "StyleCourt$Element" "hasText" "Z" ∈ xws := xws_in (wt_1 (List.mem_of_getElem? (i := 186) rfl)) rfl
set_option maxRecDepth 100000 in
theorem w_255 : Cond.fieldLink "StyleCourt$Element" 31 "StyleCourt$Element" "end" "I" ∈ xws := xws_in (wt_1 (List.mem_of_getElem? (i := 187) rfl)) rfl
set_option maxRecDepth 100000 in
theorem w_256 : Cond.fieldLink "StyleCourt$Source" 188 "StyleCourt$Element" "end" "I" ∈ xws := xws_in (wt_1 (List.mem_of_getElem? (i := 188) rfl)) rfl
set_option maxRecDepth 100000 in
theorem w_257 : Cond.fieldLink "StyleCourt" 218 "StyleCourt$Element" "end" "I" ∈ xws := xws_in (wt_1 (List.mem_of_getElem? (i := 189) rfl)) rfl
set_option maxRecDepth 100000 in
theorem w_258 : Cond.fieldLink "StyleCourt$Element" 34 "StyleCourt$Element" "firstText" "I" ∈ xws := xws_in (wt_1 (List.mem_of_getElem? (i := 190) rfl)) rfl
set_option maxRecDepth 100000 in
theorem w_259 : Cond.fieldLink "StyleCourt$Source" 153 "StyleCourt$Element" "firstText" "I" ∈ xws := xws_in (wt_1 (List.mem_of_getElem? (i := 191) rfl)) rfl
set_option maxRecDepth 100000 in
theorem w_260 : Cond.fieldLink "StyleCourt" 287 "StyleCourt$Element" "firstText" "I" ∈ xws := xws_in (wt_1 (List.mem_of_getElem? (i := 192) rfl)) rfl
set_option maxRecDepth 100000 in
theorem w_261 : Cond.fieldLink "StyleCourt$Element" 37 "StyleCourt$Element" "endText" "I" ∈ xws := xws_in (wt_1 (List.mem_of_getElem? (i := 193) rfl)) rfl
set_option maxRecDepth 100000 in
theorem w_262 : Cond.fieldLink "StyleCourt$Source" 191 "StyleCourt$Element" "endText" "I" ∈ xws := xws_in (wt_1 (List.mem_of_getElem? (i := 194) rfl)) rfl
set_option maxRecDepth 100000 in
theorem w_263 : Cond.fieldLink "StyleCourt" 281 "StyleCourt$Element" "endText" "I" ∈ xws := xws_in (wt_1 (List.mem_of_getElem? (i := 195) rfl)) rfl
set_option maxRecDepth 100000 in
theorem w_295 : Cond.classLink "StyleCourt$Source" 45 "StyleCourt$Named" ∈ xws := xws_in (wt_1 (List.mem_of_getElem? (i := 227) rfl)) rfl
set_option maxRecDepth 100000 in
theorem w_296 : Cond.instantiable "StyleCourt$Named" 2 ∈ xws := xws_in (wt_1 (List.mem_of_getElem? (i := 228) rfl)) rfl
set_option maxRecDepth 100000 in
theorem w_297 : Cond.methodLink "StyleCourt$Source" 47 y_Nd_init ∈ xws := xws_in (wt_1 (List.mem_of_getElem? (i := 229) rfl)) rfl
set_option maxRecDepth 100000 in
theorem w_298 : Cond.instanceMethod y_Nd_init ∈ xws := xws_in (wt_1 (List.mem_of_getElem? (i := 230) rfl)) rfl
set_option maxRecDepth 100000 in
theorem w_299 : Cond.code y_Nd_init prog_4_method_1_code 3 none ∈ xws := xws_in (wt_1 (List.mem_of_getElem? (i := 231) rfl)) rfl
set_option maxRecDepth 100000 in
theorem w_300 : Cond.methodLink "StyleCourt$Named" 1 y_Oj_init ∈ xws := xws_in (wt_1 (List.mem_of_getElem? (i := 232) rfl)) rfl
set_option maxRecDepth 100000 in
theorem w_301 : Cond.fieldLink "StyleCourt$Named" 7 "StyleCourt$Named" "name" "LStyleCourt$Slice;" ∈ xws := xws_in (wt_1 (List.mem_of_getElem? (i := 233) rfl)) rfl
set_option maxRecDepth 100000 in
theorem w_302 : Cond.fieldLink "StyleCourt" 238 "StyleCourt$Named" "name" "LStyleCourt$Slice;" ∈ xws := xws_in (wt_1 (List.mem_of_getElem? (i := 234) rfl)) rfl
set_option maxRecDepth 100000 in
theorem w_303 : Cond.fieldLink "StyleCourt$Named" 13 "StyleCourt$Named" "text" "LStyleCourt$Slice;" ∈ xws := xws_in (wt_1 (List.mem_of_getElem? (i := 235) rfl)) rfl
set_option maxRecDepth 100000 in
theorem w_304 : Cond.fieldLink "StyleCourt$Condition" 99 "StyleCourt$Named" "text" "LStyleCourt$Slice;" ∈ xws := xws_in (wt_1 (List.mem_of_getElem? (i := 236) rfl)) rfl
set_option maxRecDepth 100000 in
theorem w_305 : Cond.fieldLink "StyleCourt$Source" 120 "StyleCourt$Named" "text" "LStyleCourt$Slice;" ∈ xws := xws_in (wt_1 (List.mem_of_getElem? (i := 237) rfl)) rfl
set_option maxRecDepth 100000 in
theorem w_306 : Cond.fieldLink "StyleCourt" 239 "StyleCourt$Named" "text" "LStyleCourt$Slice;" ∈ xws := xws_in (wt_1 (List.mem_of_getElem? (i := 238) rfl)) rfl
set_option maxRecDepth 100000 in
theorem w_312 : Cond.methodLink "StyleCourt$Source" 50 y_AL_add ∈ xws := xws_in (wt_2 (List.mem_of_getElem? (i := 4) rfl)) rfl
set_option maxRecDepth 100000 in
theorem w_313 : Cond.instanceMethod y_AL_add ∈ xws := xws_in (wt_2 (List.mem_of_getElem? (i := 5) rfl)) rfl
set_option maxRecDepth 100000 in
theorem w_314 : Cond.selects "java/util/ArrayList" y_AL_add y_AL_add ∈ xws := xws_in (wt_2 (List.mem_of_getElem? (i := 6) rfl)) rfl
set_option maxRecDepth 100000 in
theorem w_315 : Cond.code y_AL_add prog_31_method_25_code 2 (some .boolean) ∈ xws := xws_in (wt_2 (List.mem_of_getElem? (i := 7) rfl)) rfl
set_option maxRecDepth 100000 in
theorem w_316 : Cond.methodLink "java/util/ArrayList" 131 y_AL_add2 ∈ xws := xws_in (wt_2 (List.mem_of_getElem? (i := 8) rfl)) rfl
set_option maxRecDepth 100000 in
theorem w_318 : Cond.instanceMethod y_AL_add2 ∈ xws := xws_in (wt_2 (List.mem_of_getElem? (i := 10) rfl)) rfl
set_option maxRecDepth 100000 in
theorem w_319 : Cond.code y_AL_add2 prog_31_method_24_code 4 none ∈ xws := xws_in (wt_2 (List.mem_of_getElem? (i := 11) rfl)) rfl
set_option maxRecDepth 100000 in
theorem w_320 : Cond.methodLink "java/util/ArrayList" 129 y_AL_grow ∈ xws := xws_in (wt_2 (List.mem_of_getElem? (i := 12) rfl)) rfl
set_option maxRecDepth 100000 in
theorem w_322 : Cond.instanceMethod y_AL_grow ∈ xws := xws_in (wt_2 (List.mem_of_getElem? (i := 14) rfl)) rfl
set_option maxRecDepth 100000 in
theorem w_323 : Cond.code y_AL_grow prog_31_method_7_code 1 (some (.array (.object "java/lang/Object"))) ∈ xws := xws_in (wt_2 (List.mem_of_getElem? (i := 15) rfl)) rfl
set_option maxRecDepth 100000 in
theorem w_324 : Cond.methodLink "java/util/ArrayList" 69 y_AL_grow2 ∈ xws := xws_in (wt_2 (List.mem_of_getElem? (i := 16) rfl)) rfl
set_option maxRecDepth 100000 in
theorem w_326 : Cond.instanceMethod y_AL_grow2 ∈ xws := xws_in (wt_2 (List.mem_of_getElem? (i := 18) rfl)) rfl
set_option maxRecDepth 100000 in
theorem w_327 : Cond.code y_AL_grow2 prog_31_method_6_code 4 (some (.array (.object "java/lang/Object"))) ∈ xws := xws_in (wt_2 (List.mem_of_getElem? (i := 19) rfl)) rfl
set_option maxRecDepth 100000 in
theorem w_328 : Cond.methodLink "java/util/ArrayList" 73 y_AS_newLength ∈ xws := xws_in (wt_2 (List.mem_of_getElem? (i := 20) rfl)) rfl
set_option maxRecDepth 100000 in
theorem w_329 : Cond.static y_AS_newLength ∈ xws := xws_in (wt_2 (List.mem_of_getElem? (i := 21) rfl)) rfl
set_option maxRecDepth 100000 in
theorem w_330 : Cond.code y_AS_newLength prog_38_method_27_code 4 (some .int) ∈ xws := xws_in (wt_2 (List.mem_of_getElem? (i := 22) rfl)) rfl
set_option maxRecDepth 100000 in
theorem w_331 : Cond.methodLink "jdk/internal/util/ArraysSupport" 194 y_Ma_max ∈ xws := xws_in (wt_2 (List.mem_of_getElem? (i := 23) rfl)) rfl
set_option maxRecDepth 100000 in
theorem w_332 : Cond.static y_Ma_max ∈ xws := xws_in (wt_2 (List.mem_of_getElem? (i := 24) rfl)) rfl
set_option maxRecDepth 100000 in
theorem w_333 : Cond.code y_Ma_max prog_21_method_65_code 2 (some .int) ∈ xws := xws_in (wt_2 (List.mem_of_getElem? (i := 25) rfl)) rfl
set_option maxRecDepth 100000 in
theorem w_334 : Cond.constant "jdk/internal/util/ArraysSupport" 200 2147483639 ∈ xws := xws_in (wt_2 (List.mem_of_getElem? (i := 26) rfl)) rfl
set_option maxRecDepth 100000 in
theorem w_335 : Cond.methodLink "jdk/internal/util/ArraysSupport" 201 y_AS_hugeLength ∈ xws := xws_in (wt_2 (List.mem_of_getElem? (i := 27) rfl)) rfl
set_option maxRecDepth 100000 in
theorem w_336 : Cond.static y_AS_hugeLength ∈ xws := xws_in (wt_2 (List.mem_of_getElem? (i := 28) rfl)) rfl
set_option maxRecDepth 100000 in
theorem w_337 : Cond.code y_AS_hugeLength prog_38_method_28_code 3 (some .int) ∈ xws := xws_in (wt_2 (List.mem_of_getElem? (i := 29) rfl)) rfl
set_option maxRecDepth 100000 in
theorem w_338 : Cond.methodLink "java/util/ArrayList" 66 y_Ar_copyOf2 ∈ xws := xws_in (wt_2 (List.mem_of_getElem? (i := 30) rfl)) rfl
set_option maxRecDepth 100000 in
theorem w_339 : Cond.static y_Ar_copyOf2 ∈ xws := xws_in (wt_2 (List.mem_of_getElem? (i := 31) rfl)) rfl
set_option maxRecDepth 100000 in
theorem w_340 : Cond.code y_Ar_copyOf2 prog_32_method_119_code 2 (some (.array (.object "java/lang/Object"))) ∈ xws := xws_in (wt_2 (List.mem_of_getElem? (i := 32) rfl)) rfl
set_option maxRecDepth 100000 in
theorem w_362 : Cond.methodLink "java/util/Arrays" 300 y_Ar_copyOf3 ∈ xws := xws_in (wt_2 (List.mem_of_getElem? (i := 54) rfl)) rfl
set_option maxRecDepth 100000 in
theorem w_363 : Cond.static y_Ar_copyOf3 ∈ xws := xws_in (wt_2 (List.mem_of_getElem? (i := 55) rfl)) rfl
set_option maxRecDepth 100000 in
theorem w_364 : Cond.code y_Ar_copyOf3 prog_32_method_120_code 4 (some (.array (.object "java/lang/Object"))) ∈ xws := xws_in (wt_2 (List.mem_of_getElem? (i := 56) rfl)) rfl
set_option maxRecDepth 100000 in
theorem w_366 : Cond.arrayOver (.object "java/lang/Object") ∈ xws := xws_in (wt_2 (List.mem_of_getElem? (i := 58) rfl)) rfl
set_option maxRecDepth 100000 in
theorem w_367 : Cond.classLink "java/util/Arrays" 2 "java/lang/Object" ∈ xws := xws_in (wt_2 (List.mem_of_getElem? (i := 59) rfl)) rfl
set_option maxRecDepth 100000 in
theorem w_368 : Cond.methodLink "java/util/ArrayList" 79 y_Ma_max ∈ xws := xws_in (wt_2 (List.mem_of_getElem? (i := 60) rfl)) rfl
set_option maxRecDepth 100000 in
theorem w_369 : Cond.classLink "java/util/ArrayList" 7 "java/lang/Object" ∈ xws := xws_in (wt_2 (List.mem_of_getElem? (i := 61) rfl)) rfl
set_option maxRecDepth 100000 in
theorem w_370 : Cond.fieldLink "StyleCourt$Source" 12 "StyleCourt$Source" "elements" "Ljava/util/ArrayList;" ∈ xws := xws_in (wt_2 (List.mem_of_getElem? (i := 62) rfl)) rfl
set_option maxRecDepth 100000 in
theorem w_371 : Cond.fieldLink "StyleCourt" 109 "StyleCourt$Source" "elements" "Ljava/util/ArrayList;" ∈ xws := xws_in (wt_2 (List.mem_of_getElem? (i := 63) rfl)) rfl
set_option maxRecDepth 100000 in
theorem w_372 : Cond.fieldLink "StyleCourt$Source" 18 "StyleCourt$Source" "texts" "Ljava/util/ArrayList;" ∈ xws := xws_in (wt_2 (List.mem_of_getElem? (i := 64) rfl)) rfl
set_option maxRecDepth 100000 in
theorem w_373 : Cond.fieldLink "StyleCourt" 278 "StyleCourt$Source" "texts" "Ljava/util/ArrayList;" ∈ xws := xws_in (wt_2 (List.mem_of_getElem? (i := 65) rfl)) rfl
set_option maxRecDepth 100000 in
theorem w_374 : Cond.fieldLink "StyleCourt$Source" 21 "StyleCourt$Source" "entities" "Ljava/util/ArrayList;" ∈ xws := xws_in (wt_2 (List.mem_of_getElem? (i := 66) rfl)) rfl
set_option maxRecDepth 100000 in
theorem w_375 : Cond.fieldLink "StyleCourt$Source" 38 "StyleCourt$Source" "root" "LStyleCourt$Element;" ∈ xws := xws_in (wt_2 (List.mem_of_getElem? (i := 67) rfl)) rfl
set_option maxRecDepth 100000 in
theorem w_376 : Cond.fieldLink "StyleCourt" 103 "StyleCourt$Source" "root" "LStyleCourt$Element;" ∈ xws := xws_in (wt_2 (List.mem_of_getElem? (i := 68) rfl)) rfl
set_option maxRecDepth 100000 in
theorem w_377 : Cond.fieldLink "StyleCourt$Source" 42 "StyleCourt$Source" "open" "LStyleCourt$Element;" ∈ xws := xws_in (wt_2 (List.mem_of_getElem? (i := 69) rfl)) rfl
set_option maxRecDepth 100000 in
theorem w_378 : Cond.fieldLink "StyleCourt" 99 "StyleCourt$Source" "open" "LStyleCourt$Element;" ∈ xws := xws_in (wt_2 (List.mem_of_getElem? (i := 70) rfl)) rfl
set_option maxRecDepth 100000 in
theorem w_390 : Cond.classLink "StyleCourt" 52 "StyleCourt$Style" ∈ xws := xws_in (wt_2 (List.mem_of_getElem? (i := 82) rfl)) rfl
set_option maxRecDepth 100000 in
theorem w_391 : Cond.instantiable "StyleCourt$Style" 4 ∈ xws := xws_in (wt_2 (List.mem_of_getElem? (i := 83) rfl)) rfl
set_option maxRecDepth 100000 in
theorem w_392 : Cond.methodLinkNest "StyleCourt" 54 y_Sy_init "StyleCourt" ∈ xws := xws_in (wt_2 (List.mem_of_getElem? (i := 84) rfl)) rfl
set_option maxRecDepth 100000 in
theorem w_393 : Cond.instanceMethod y_Sy_init ∈ xws := xws_in (wt_2 (List.mem_of_getElem? (i := 85) rfl)) rfl
set_option maxRecDepth 100000 in
theorem w_394 : Cond.code y_Sy_init prog_11_method_1_code 1 none ∈ xws := xws_in (wt_2 (List.mem_of_getElem? (i := 86) rfl)) rfl
set_option maxRecDepth 100000 in
theorem w_395 : Cond.methodLink "StyleCourt$Style" 3 y_Oj_init ∈ xws := xws_in (wt_2 (List.mem_of_getElem? (i := 87) rfl)) rfl
set_option maxRecDepth 100000 in
theorem w_396 : Cond.classLink "StyleCourt$Style" 9 "java/util/ArrayList" ∈ xws := xws_in (wt_2 (List.mem_of_getElem? (i := 88) rfl)) rfl
set_option maxRecDepth 100000 in
theorem w_397 : Cond.methodLink "StyleCourt$Style" 11 y_AL_init ∈ xws := xws_in (wt_2 (List.mem_of_getElem? (i := 89) rfl)) rfl
set_option maxRecDepth 100000 in
theorem w_398 : Cond.fieldLink "StyleCourt$Style" 12 "StyleCourt$Style" "rules" "Ljava/util/ArrayList;" ∈ xws := xws_in (wt_2 (List.mem_of_getElem? (i := 90) rfl)) rfl
set_option maxRecDepth 100000 in
theorem w_399 : Cond.fieldLink "StyleCourt$Style" 18 "StyleCourt$Style" "selectors" "Ljava/util/ArrayList;" ∈ xws := xws_in (wt_2 (List.mem_of_getElem? (i := 91) rfl)) rfl
set_option maxRecDepth 100000 in
theorem w_400 : Cond.fieldLink "StyleCourt" 131 "StyleCourt$Style" "selectors" "Ljava/util/ArrayList;" ∈ xws := xws_in (wt_2 (List.mem_of_getElem? (i := 92) rfl)) rfl
set_option maxRecDepth 100000 in
theorem w_401 : Cond.fieldLink "StyleCourt$Style" 21 "StyleCourt$Style" "names" "Ljava/util/ArrayList;" ∈ xws := xws_in (wt_2 (List.mem_of_getElem? (i := 93) rfl)) rfl
set_option maxRecDepth 100000 in
theorem w_402 : Cond.fieldLink "StyleCourt$Style" 24 "StyleCourt$Style" "toldCount" "I" ∈ xws := xws_in (wt_2 (List.mem_of_getElem? (i := 94) rfl)) rfl
set_option maxRecDepth 100000 in
theorem w_403 : Cond.fieldLink "StyleCourt" 244 "StyleCourt$Style" "toldCount" "I" ∈ xws := xws_in (wt_2 (List.mem_of_getElem? (i := 95) rfl)) rfl
set_option maxRecDepth 100000 in
theorem w_413 : Cond.classLink "StyleCourt" 59 "StyleCourt$Element" ∈ xws := xws_in (wt_2 (List.mem_of_getElem? (i := 105) rfl)) rfl
set_option maxRecDepth 100000 in
theorem w_414 : Cond.arrayOver (.object "StyleCourt$Element") ∈ xws := xws_in (wt_2 (List.mem_of_getElem? (i := 106) rfl)) rfl
set_option maxRecDepth 100000 in
theorem w_415 : Cond.fieldLink "StyleCourt" 9 "StyleCourt" "tape" "[B" ∈ xws := xws_in (wt_2 (List.mem_of_getElem? (i := 107) rfl)) rfl
set_option maxRecDepth 100000 in
theorem w_416 : Cond.fieldLink "StyleCourt" 13 "StyleCourt" "tapeLength" "I" ∈ xws := xws_in (wt_2 (List.mem_of_getElem? (i := 108) rfl)) rfl
set_option maxRecDepth 100000 in
theorem w_417 : Cond.fieldLink "StyleCourt" 17 "StyleCourt" "out" "[B" ∈ xws := xws_in (wt_2 (List.mem_of_getElem? (i := 109) rfl)) rfl
set_option maxRecDepth 100000 in
theorem w_418 : Cond.fieldLink "StyleCourt" 20 "StyleCourt" "outLength" "I" ∈ xws := xws_in (wt_2 (List.mem_of_getElem? (i := 110) rfl)) rfl
set_option maxRecDepth 100000 in
theorem w_419 : Cond.fieldLink "StyleCourt" 23 "StyleCourt" "foundOnes" "[I" ∈ xws := xws_in (wt_2 (List.mem_of_getElem? (i := 111) rfl)) rfl
set_option maxRecDepth 100000 in
theorem w_420 : Cond.fieldLink "StyleCourt" 27 "StyleCourt" "foundCount" "I" ∈ xws := xws_in (wt_2 (List.mem_of_getElem? (i := 112) rfl)) rfl
set_option maxRecDepth 100000 in
theorem w_421 : Cond.fieldLink "StyleCourt" 30 "StyleCourt" "askedWeight" "I" ∈ xws := xws_in (wt_2 (List.mem_of_getElem? (i := 113) rfl)) rfl
set_option maxRecDepth 100000 in
theorem w_422 : Cond.fieldLink "StyleCourt" 41 "StyleCourt" "latestReader" "LStyleCourt$Reader;" ∈ xws := xws_in (wt_2 (List.mem_of_getElem? (i := 114) rfl)) rfl
set_option maxRecDepth 100000 in
theorem w_423 : Cond.fieldLink "StyleCourt" 48 "StyleCourt" "latestSource" "LStyleCourt$Source;" ∈ xws := xws_in (wt_2 (List.mem_of_getElem? (i := 115) rfl)) rfl
set_option maxRecDepth 100000 in
theorem w_424 : Cond.fieldLink "StyleCourt" 55 "StyleCourt" "latestStyle" "LStyleCourt$Style;" ∈ xws := xws_in (wt_2 (List.mem_of_getElem? (i := 116) rfl)) rfl
set_option maxRecDepth 100000 in
theorem w_425 : Cond.fieldLink "StyleCourt" 61 "StyleCourt" "reach" "[LStyleCourt$Element;" ∈ xws := xws_in (wt_2 (List.mem_of_getElem? (i := 117) rfl)) rfl
set_option maxRecDepth 100000 in
theorem w_426 : Cond.fieldLink "StyleCourt" 65 "StyleCourt" "shares" "[I" ∈ xws := xws_in (wt_2 (List.mem_of_getElem? (i := 118) rfl)) rfl
set_option maxRecDepth 100000 in
theorem w_452 : Cond.methodLink "StyleCourtLaw" 83 y_Sc_place ∈ xws := xws_in (wt_2 (List.mem_of_getElem? (i := 144) rfl)) rfl
set_option maxRecDepth 100000 in
theorem w_453 : Cond.instanceMethod y_Sc_place ∈ xws := xws_in (wt_2 (List.mem_of_getElem? (i := 145) rfl)) rfl
set_option maxRecDepth 100000 in
theorem w_454 : Cond.selects "StyleCourt" y_Sc_place y_Sc_place ∈ xws := xws_in (wt_2 (List.mem_of_getElem? (i := 146) rfl)) rfl
set_option maxRecDepth 100000 in
theorem w_455 : Cond.code y_Sc_place prog_1_method_6_code 1 (some .int) ∈ xws := xws_in (wt_2 (List.mem_of_getElem? (i := 147) rfl)) rfl
set_option maxRecDepth 100000 in
theorem w_456 : Cond.methodLink "StyleCourtLaw" 63 y_Lw_feed ∈ xws := xws_in (wt_2 (List.mem_of_getElem? (i := 148) rfl)) rfl
set_option maxRecDepth 100000 in
theorem w_457 : Cond.static y_Lw_feed ∈ xws := xws_in (wt_2 (List.mem_of_getElem? (i := 149) rfl)) rfl
set_option maxRecDepth 100000 in
theorem w_458 : Cond.codeWith y_Lw_feed method_3_code 8 (some .int) [((0 : Nat), (16 : Nat), (19 : Nat), (13 : Nat))] ∈ xws := xws_in (wt_2 (List.mem_of_getElem? (i := 150) rfl)) rfl
set_option maxRecDepth 100000 in
theorem w_460 : Cond.methodLink "StyleCourtLaw" 7 y_Sc_feed ∈ xws := xws_in (wt_2 (List.mem_of_getElem? (i := 152) rfl)) rfl
set_option maxRecDepth 100000 in
theorem w_461 : Cond.instanceMethod y_Sc_feed ∈ xws := xws_in (wt_2 (List.mem_of_getElem? (i := 153) rfl)) rfl
set_option maxRecDepth 100000 in
theorem w_462 : Cond.selects "StyleCourt" y_Sc_feed y_Sc_feed ∈ xws := xws_in (wt_2 (List.mem_of_getElem? (i := 154) rfl)) rfl
set_option maxRecDepth 100000 in
theorem w_463 : Cond.code y_Sc_feed prog_1_method_2_code 6 (some .int) ∈ xws := xws_in (wt_2 (List.mem_of_getElem? (i := 155) rfl)) rfl
set_option maxRecDepth 100000 in
theorem w_464 : Cond.classLink "StyleCourt" 68 "java/lang/IndexOutOfBoundsException" ∈ xws := xws_in (wt_2 (List.mem_of_getElem? (i := 156) rfl)) rfl
set_option maxRecDepth 100000 in
theorem w_465 : Cond.instantiable "java/lang/IndexOutOfBoundsException" 6 ∈ xws := xws_in (wt_2 (List.mem_of_getElem? (i := 157) rfl)) rfl
set_option maxRecDepth 100000 in
theorem w_466 : Cond.castable "java/lang/IndexOutOfBoundsException" "java/lang/IndexOutOfBoundsException" ∈ xws := xws_in (wt_2 (List.mem_of_getElem? (i := 158) rfl)) rfl
set_option maxRecDepth 100000 in
theorem w_468 : Cond.declares y_Rt_init2 ∈ xws := xws_in (wt_2 (List.mem_of_getElem? (i := 160) rfl)) rfl
set_option maxRecDepth 100000 in
theorem w_470 : Cond.declares y_Ex_init2 ∈ xws := xws_in (wt_2 (List.mem_of_getElem? (i := 162) rfl)) rfl
set_option maxRecDepth 100000 in
theorem w_472 : Cond.declares y_Th_init2 ∈ xws := xws_in (wt_2 (List.mem_of_getElem? (i := 164) rfl)) rfl
set_option maxRecDepth 100000 in
theorem w_473 : Cond.selects "java/lang/IndexOutOfBoundsException" y_Th_fillInStackTrace y_Th_fillInStackTrace ∈ xws := xws_in (wt_2 (List.mem_of_getElem? (i := 165) rfl)) rfl
set_option maxRecDepth 100000 in
theorem w_474 : Cond.selects "java/lang/IndexOutOfBoundsException" y_Th_fillInStackTrace2 y_Th_fillInStackTrace2 ∈ xws := xws_in (wt_2 (List.mem_of_getElem? (i := 166) rfl)) rfl
set_option maxRecDepth 100000 in
theorem w_475 : Cond.lays "java/lang/IndexOutOfBoundsException" "java/lang/Throwable" "cause" "Ljava/lang/Throwable;" ∈ xws := xws_in (wt_2 (List.mem_of_getElem? (i := 167) rfl)) rfl
set_option maxRecDepth 100000 in
theorem w_476 : Cond.lays "java/lang/Throwable" "java/lang/Throwable" "cause" "Ljava/lang/Throwable;" ∈ xws := xws_in (wt_2 (List.mem_of_getElem? (i := 168) rfl)) rfl
set_option maxRecDepth 100000 in
theorem w_477 : Cond.lays "java/lang/IndexOutOfBoundsException" "java/lang/Throwable" "stackTrace" "[Ljava/lang/StackTraceElement;" ∈ xws := xws_in (wt_2 (List.mem_of_getElem? (i := 169) rfl)) rfl
set_option maxRecDepth 100000 in
theorem w_478 : Cond.lays "java/lang/Throwable" "java/lang/Throwable" "stackTrace" "[Ljava/lang/StackTraceElement;" ∈ xws := xws_in (wt_2 (List.mem_of_getElem? (i := 170) rfl)) rfl
set_option maxRecDepth 100000 in
theorem w_479 : Cond.lays "java/lang/IndexOutOfBoundsException" "java/lang/Throwable" "suppressedExceptions" "Ljava/util/List;" ∈ xws := xws_in (wt_2 (List.mem_of_getElem? (i := 171) rfl)) rfl
set_option maxRecDepth 100000 in
theorem w_480 : Cond.lays "java/lang/Throwable" "java/lang/Throwable" "suppressedExceptions" "Ljava/util/List;" ∈ xws := xws_in (wt_2 (List.mem_of_getElem? (i := 172) rfl)) rfl
set_option maxRecDepth 100000 in
theorem w_481 : Cond.lays "java/lang/IndexOutOfBoundsException" "java/lang/Throwable" "detailMessage" "Ljava/lang/String;" ∈ xws := xws_in (wt_2 (List.mem_of_getElem? (i := 173) rfl)) rfl
set_option maxRecDepth 100000 in
theorem w_482 : Cond.lays "java/lang/Throwable" "java/lang/Throwable" "detailMessage" "Ljava/lang/String;" ∈ xws := xws_in (wt_2 (List.mem_of_getElem? (i := 174) rfl)) rfl
set_option maxRecDepth 100000 in
theorem w_483 : Cond.lays "java/lang/IndexOutOfBoundsException" "java/lang/Throwable" "backtrace" "Ljava/lang/Object;" ∈ xws := xws_in (wt_2 (List.mem_of_getElem? (i := 175) rfl)) rfl
set_option maxRecDepth 100000 in
theorem w_484 : Cond.lays "java/lang/Throwable" "java/lang/Throwable" "backtrace" "Ljava/lang/Object;" ∈ xws := xws_in (wt_2 (List.mem_of_getElem? (i := 176) rfl)) rfl
set_option maxRecDepth 100000 in
theorem w_485 : Cond.fieldLink "java/lang/Throwable" 198 "java/lang/Throwable" "backtrace" "Ljava/lang/Object;" ∈ xws := xws_in (wt_2 (List.mem_of_getElem? (i := 177) rfl)) rfl
set_option maxRecDepth 100000 in
theorem w_486 : Cond.superclass "java/lang/Throwable" "java/lang/Object" ∈ xws := xws_in (wt_2 (List.mem_of_getElem? (i := 178) rfl)) rfl
set_option maxRecDepth 100000 in
theorem w_487 : Cond.instanceMethod y_Th_init ∈ xws := xws_in (wt_2 (List.mem_of_getElem? (i := 179) rfl)) rfl
set_option maxRecDepth 100000 in
theorem w_488 : Cond.code y_Th_init prog_27_method_1_code 1 none ∈ xws := xws_in (wt_2 (List.mem_of_getElem? (i := 180) rfl)) rfl
set_option maxRecDepth 100000 in
theorem w_489 : Cond.methodLink "java/lang/Throwable" 1 y_Oj_init ∈ xws := xws_in (wt_2 (List.mem_of_getElem? (i := 181) rfl)) rfl
set_option maxRecDepth 100000 in
theorem w_490 : Cond.fieldLink "java/lang/Throwable" 13 "java/lang/Throwable" "UNASSIGNED_STACK" "[Ljava/lang/StackTraceElement;" ∈ xws := xws_in (wt_2 (List.mem_of_getElem? (i := 182) rfl)) rfl
set_option maxRecDepth 100000 in
theorem w_492 : Cond.fieldLink "java/lang/Throwable" 20 "java/lang/Throwable" "SUPPRESSED_SENTINEL" "Ljava/util/List;" ∈ xws := xws_in (wt_2 (List.mem_of_getElem? (i := 184) rfl)) rfl
set_option maxRecDepth 100000 in
theorem w_494 : Cond.methodLink "java/lang/Throwable" 27 y_Th_fillInStackTrace2 ∈ xws := xws_in (wt_2 (List.mem_of_getElem? (i := 186) rfl)) rfl
set_option maxRecDepth 100000 in
theorem w_495 : Cond.instanceMethod y_Th_fillInStackTrace2 ∈ xws := xws_in (wt_2 (List.mem_of_getElem? (i := 187) rfl)) rfl
set_option maxRecDepth 100000 in
theorem w_497 : Cond.selects "java/lang/IllegalArgumentException" y_Th_fillInStackTrace2 y_Th_fillInStackTrace2 ∈ xws := xws_in (wt_2 (List.mem_of_getElem? (i := 189) rfl)) rfl
set_option maxRecDepth 100000 in
theorem w_498 : Cond.selects "java/lang/UnsupportedOperationException" y_Th_fillInStackTrace2 y_Th_fillInStackTrace2 ∈ xws := xws_in (wt_2 (List.mem_of_getElem? (i := 190) rfl)) rfl
set_option maxRecDepth 100000 in
theorem w_499 : Cond.codeSync y_Th_fillInStackTrace2 prog_27_method_18_code 1 (some (.object "java/lang/Throwable")) ∈ xws := xws_in (wt_2 (List.mem_of_getElem? (i := 191) rfl)) rfl
set_option maxRecDepth 100000 in
theorem w_500 : Cond.methodLink "java/lang/Throwable" 202 y_Th_fillInStackTrace ∈ xws := xws_in (wt_2 (List.mem_of_getElem? (i := 192) rfl)) rfl
set_option maxRecDepth 100000 in
theorem w_502 : Cond.instanceMethod y_Th_fillInStackTrace ∈ xws := xws_in (wt_2 (List.mem_of_getElem? (i := 194) rfl)) rfl
set_option maxRecDepth 100000 in
theorem w_504 : Cond.native y_Th_fillInStackTrace ∈ xws := xws_in (wt_2 (List.mem_of_getElem? (i := 196) rfl)) rfl
set_option maxRecDepth 100000 in
theorem w_506 : Cond.methodLink "StyleCourt" 72 y_XI_init ∈ xws := xws_in (wt_2 (List.mem_of_getElem? (i := 198) rfl)) rfl
set_option maxRecDepth 100000 in
theorem w_507 : Cond.instanceMethod y_XI_init ∈ xws := xws_in (wt_2 (List.mem_of_getElem? (i := 199) rfl)) rfl
set_option maxRecDepth 100000 in
theorem w_508 : Cond.code y_XI_init prog_19_method_2_code 2 none ∈ xws := xws_in (wt_2 (List.mem_of_getElem? (i := 200) rfl)) rfl
set_option maxRecDepth 100000 in
theorem w_509 : Cond.methodLink "java/lang/IndexOutOfBoundsException" 7 y_Rt_init2 ∈ xws := xws_in (wt_2 (List.mem_of_getElem? (i := 201) rfl)) rfl
set_option maxRecDepth 100000 in
theorem w_510 : Cond.instanceMethod y_Rt_init2 ∈ xws := xws_in (wt_2 (List.mem_of_getElem? (i := 202) rfl)) rfl
set_option maxRecDepth 100000 in
theorem w_511 : Cond.code y_Rt_init2 prog_22_method_2_code 2 none ∈ xws := xws_in (wt_2 (List.mem_of_getElem? (i := 203) rfl)) rfl
set_option maxRecDepth 100000 in
theorem w_512 : Cond.methodLink "java/lang/RuntimeException" 7 y_Ex_init2 ∈ xws := xws_in (wt_2 (List.mem_of_getElem? (i := 204) rfl)) rfl
set_option maxRecDepth 100000 in
theorem w_513 : Cond.instanceMethod y_Ex_init2 ∈ xws := xws_in (wt_2 (List.mem_of_getElem? (i := 205) rfl)) rfl
set_option maxRecDepth 100000 in
theorem w_514 : Cond.code y_Ex_init2 prog_17_method_2_code 2 none ∈ xws := xws_in (wt_2 (List.mem_of_getElem? (i := 206) rfl)) rfl
set_option maxRecDepth 100000 in
theorem w_515 : Cond.methodLink "java/lang/Exception" 7 y_Th_init2 ∈ xws := xws_in (wt_2 (List.mem_of_getElem? (i := 207) rfl)) rfl
set_option maxRecDepth 100000 in
theorem w_516 : Cond.instanceMethod y_Th_init2 ∈ xws := xws_in (wt_2 (List.mem_of_getElem? (i := 208) rfl)) rfl
set_option maxRecDepth 100000 in
theorem w_517 : Cond.code y_Th_init2 prog_27_method_2_code 2 none ∈ xws := xws_in (wt_2 (List.mem_of_getElem? (i := 209) rfl)) rfl
set_option maxRecDepth 100000 in
theorem w_519 : Cond.fieldLink "java/lang/Throwable" 31 "java/lang/Throwable" "detailMessage" "Ljava/lang/String;" ∈ xws := xws_in (wt_2 (List.mem_of_getElem? (i := 211) rfl)) rfl
set_option maxRecDepth 100000 in
theorem w_520 : Cond.fieldLink "java/lang/Throwable" 7 "java/lang/Throwable" "cause" "Ljava/lang/Throwable;" ∈ xws := xws_in (wt_2 (List.mem_of_getElem? (i := 212) rfl)) rfl
set_option maxRecDepth 100000 in
theorem w_521 : Cond.fieldLink "java/lang/Throwable" 17 "java/lang/Throwable" "stackTrace" "[Ljava/lang/StackTraceElement;" ∈ xws := xws_in (wt_2 (List.mem_of_getElem? (i := 213) rfl)) rfl
set_option maxRecDepth 100000 in
theorem w_522 : Cond.fieldLink "java/lang/Throwable" 24 "java/lang/Throwable" "suppressedExceptions" "Ljava/util/List;" ∈ xws := xws_in (wt_2 (List.mem_of_getElem? (i := 214) rfl)) rfl
set_option maxRecDepth 100000 in
theorem w_531 : Cond.methodLink "StyleCourt" 75 y_Sc_putOnTape ∈ xws := xws_in (wt_2 (List.mem_of_getElem? (i := 223) rfl)) rfl
set_option maxRecDepth 100000 in
theorem w_533 : Cond.instanceMethod y_Sc_putOnTape ∈ xws := xws_in (wt_2 (List.mem_of_getElem? (i := 225) rfl)) rfl
set_option maxRecDepth 100000 in
theorem w_534 : Cond.code y_Sc_putOnTape prog_1_method_16_code 3 none ∈ xws := xws_in (wt_2 (List.mem_of_getElem? (i := 226) rfl)) rfl
set_option maxRecDepth 100000 in
theorem w_535 : Cond.methodLink "StyleCourtLaw" 72 y_Lw_end ∈ xws := xws_in (wt_2 (List.mem_of_getElem? (i := 227) rfl)) rfl
set_option maxRecDepth 100000 in
theorem w_536 : Cond.static y_Lw_end ∈ xws := xws_in (wt_2 (List.mem_of_getElem? (i := 228) rfl)) rfl
set_option maxRecDepth 100000 in
theorem w_537 : Cond.codeWith y_Lw_end method_4_code 4 (some .int) [((0 : Nat), (9 : Nat), (12 : Nat), (19 : Nat))] ∈ xws := xws_in (wt_2 (List.mem_of_getElem? (i := 229) rfl)) rfl
set_option maxRecDepth 100000 in
theorem w_539 : Cond.methodLink "StyleCourtLaw" 15 y_Sc_end ∈ xws := xws_in (wt_2 (List.mem_of_getElem? (i := 231) rfl)) rfl
set_option maxRecDepth 100000 in
theorem w_540 : Cond.instanceMethod y_Sc_end ∈ xws := xws_in (wt_2 (List.mem_of_getElem? (i := 232) rfl)) rfl
set_option maxRecDepth 100000 in
theorem w_541 : Cond.selects "StyleCourt" y_Sc_end y_Sc_end ∈ xws := xws_in (wt_2 (List.mem_of_getElem? (i := 233) rfl)) rfl
set_option maxRecDepth 100000 in
theorem w_542 : Cond.code y_Sc_end prog_1_method_3_code 2 (some .int) ∈ xws := xws_in (wt_2 (List.mem_of_getElem? (i := 234) rfl)) rfl
set_option maxRecDepth 100000 in
theorem w_543 : Cond.classLink "StyleCourt" 79 "java/lang/IllegalArgumentException" ∈ xws := xws_in (wt_2 (List.mem_of_getElem? (i := 235) rfl)) rfl
set_option maxRecDepth 100000 in
theorem w_544 : Cond.instantiable "java/lang/IllegalArgumentException" 6 ∈ xws := xws_in (wt_2 (List.mem_of_getElem? (i := 236) rfl)) rfl
set_option maxRecDepth 100000 in
theorem w_545 : Cond.castable "java/lang/IllegalArgumentException" "java/lang/IllegalArgumentException" ∈ xws := xws_in (wt_2 (List.mem_of_getElem? (i := 237) rfl)) rfl
set_option maxRecDepth 100000 in
theorem w_546 : Cond.selects "java/lang/IllegalArgumentException" y_Th_fillInStackTrace y_Th_fillInStackTrace ∈ xws := xws_in (wt_2 (List.mem_of_getElem? (i := 238) rfl)) rfl
set_option maxRecDepth 100000 in
theorem w_547 : Cond.lays "java/lang/IllegalArgumentException" "java/lang/Throwable" "cause" "Ljava/lang/Throwable;" ∈ xws := xws_in (wt_2 (List.mem_of_getElem? (i := 239) rfl)) rfl
set_option maxRecDepth 100000 in
theorem w_548 : Cond.lays "java/lang/IllegalArgumentException" "java/lang/Throwable" "stackTrace" "[Ljava/lang/StackTraceElement;" ∈ xws := xws_in (wt_3 (List.mem_of_getElem? (i := 0) rfl)) rfl
set_option maxRecDepth 100000 in
theorem w_549 : Cond.lays "java/lang/IllegalArgumentException" "java/lang/Throwable" "suppressedExceptions" "Ljava/util/List;" ∈ xws := xws_in (wt_3 (List.mem_of_getElem? (i := 1) rfl)) rfl
set_option maxRecDepth 100000 in
theorem w_550 : Cond.lays "java/lang/IllegalArgumentException" "java/lang/Throwable" "detailMessage" "Ljava/lang/String;" ∈ xws := xws_in (wt_3 (List.mem_of_getElem? (i := 2) rfl)) rfl
set_option maxRecDepth 100000 in
theorem w_551 : Cond.lays "java/lang/IllegalArgumentException" "java/lang/Throwable" "backtrace" "Ljava/lang/Object;" ∈ xws := xws_in (wt_3 (List.mem_of_getElem? (i := 3) rfl)) rfl
set_option maxRecDepth 100000 in
theorem w_553 : Cond.methodLink "StyleCourt" 83 y_XA_init ∈ xws := xws_in (wt_3 (List.mem_of_getElem? (i := 5) rfl)) rfl
set_option maxRecDepth 100000 in
theorem w_554 : Cond.instanceMethod y_XA_init ∈ xws := xws_in (wt_3 (List.mem_of_getElem? (i := 6) rfl)) rfl
set_option maxRecDepth 100000 in
theorem w_555 : Cond.code y_XA_init prog_18_method_2_code 2 none ∈ xws := xws_in (wt_3 (List.mem_of_getElem? (i := 7) rfl)) rfl
set_option maxRecDepth 100000 in
theorem w_556 : Cond.methodLink "java/lang/IllegalArgumentException" 7 y_Rt_init2 ∈ xws := xws_in (wt_3 (List.mem_of_getElem? (i := 8) rfl)) rfl
set_option maxRecDepth 100000 in
theorem w_559 : Cond.methodLink "StyleCourtLaw" 76 y_Lw_source ∈ xws := xws_in (wt_3 (List.mem_of_getElem? (i := 11) rfl)) rfl
set_option maxRecDepth 100000 in
theorem w_560 : Cond.static y_Lw_source ∈ xws := xws_in (wt_3 (List.mem_of_getElem? (i := 12) rfl)) rfl
set_option maxRecDepth 100000 in
theorem w_561 : Cond.codeWith y_Lw_source method_5_code 3 (some .int) [((0 : Nat), (8 : Nat), (11 : Nat), (25 : Nat))] ∈ xws := xws_in (wt_3 (List.mem_of_getElem? (i := 13) rfl)) rfl
set_option maxRecDepth 100000 in
theorem w_563 : Cond.methodLink "StyleCourtLaw" 21 y_Sc_source ∈ xws := xws_in (wt_3 (List.mem_of_getElem? (i := 15) rfl)) rfl
set_option maxRecDepth 100000 in
theorem w_564 : Cond.instanceMethod y_Sc_source ∈ xws := xws_in (wt_3 (List.mem_of_getElem? (i := 16) rfl)) rfl
set_option maxRecDepth 100000 in
theorem w_565 : Cond.selects "StyleCourt" y_Sc_source y_Sc_source ∈ xws := xws_in (wt_3 (List.mem_of_getElem? (i := 17) rfl)) rfl
set_option maxRecDepth 100000 in
theorem w_566 : Cond.code y_Sc_source prog_1_method_4_code 4 (some .int) ∈ xws := xws_in (wt_3 (List.mem_of_getElem? (i := 18) rfl)) rfl
set_option maxRecDepth 100000 in
theorem w_567 : Cond.methodLink "StyleCourt" 84 y_Sc_takeTape ∈ xws := xws_in (wt_3 (List.mem_of_getElem? (i := 19) rfl)) rfl
set_option maxRecDepth 100000 in
theorem w_569 : Cond.instanceMethod y_Sc_takeTape ∈ xws := xws_in (wt_3 (List.mem_of_getElem? (i := 21) rfl)) rfl
set_option maxRecDepth 100000 in
theorem w_570 : Cond.code y_Sc_takeTape prog_1_method_17_code 1 (some (.object "StyleCourt$Reader")) ∈ xws := xws_in (wt_3 (List.mem_of_getElem? (i := 22) rfl)) rfl
set_option maxRecDepth 100000 in
theorem w_571 : Cond.methodLink "StyleCourt" 91 y_Rd_here ∈ xws := xws_in (wt_3 (List.mem_of_getElem? (i := 23) rfl)) rfl
set_option maxRecDepth 100000 in
theorem w_572 : Cond.instanceMethod y_Rd_here ∈ xws := xws_in (wt_3 (List.mem_of_getElem? (i := 24) rfl)) rfl
set_option maxRecDepth 100000 in
theorem w_573 : Cond.selects "StyleCourt$Reader" y_Rd_here y_Rd_here ∈ xws := xws_in (wt_3 (List.mem_of_getElem? (i := 25) rfl)) rfl
set_option maxRecDepth 100000 in
theorem w_574 : Cond.code y_Rd_here prog_5_method_3_code 1 (some .int) ∈ xws := xws_in (wt_3 (List.mem_of_getElem? (i := 26) rfl)) rfl
set_option maxRecDepth 100000 in
theorem w_575 : Cond.methodLink "StyleCourt" 95 y_So_readPiece ∈ xws := xws_in (wt_3 (List.mem_of_getElem? (i := 27) rfl)) rfl
set_option maxRecDepth 100000 in
theorem w_576 : Cond.instanceMethod y_So_readPiece ∈ xws := xws_in (wt_3 (List.mem_of_getElem? (i := 28) rfl)) rfl
set_option maxRecDepth 100000 in
theorem w_577 : Cond.selects "StyleCourt$Source" y_So_readPiece y_So_readPiece ∈ xws := xws_in (wt_3 (List.mem_of_getElem? (i := 29) rfl)) rfl
set_option maxRecDepth 100000 in
theorem w_578 : Cond.code y_So_readPiece prog_9_method_2_code 4 none ∈ xws := xws_in (wt_3 (List.mem_of_getElem? (i := 30) rfl)) rfl
set_option maxRecDepth 100000 in
theorem w_579 : Cond.methodLink "StyleCourt$Source" 60 y_Rd_here ∈ xws := xws_in (wt_3 (List.mem_of_getElem? (i := 31) rfl)) rfl
set_option maxRecDepth 100000 in
theorem w_580 : Cond.methodLink "StyleCourt$Source" 64 y_So_readMarkup ∈ xws := xws_in (wt_3 (List.mem_of_getElem? (i := 32) rfl)) rfl
set_option maxRecDepth 100000 in
theorem w_582 : Cond.instanceMethod y_So_readMarkup ∈ xws := xws_in (wt_3 (List.mem_of_getElem? (i := 34) rfl)) rfl
set_option maxRecDepth 100000 in
theorem w_583 : Cond.code y_So_readMarkup prog_9_method_3_code 4 none ∈ xws := xws_in (wt_3 (List.mem_of_getElem? (i := 35) rfl)) rfl
set_option maxRecDepth 100000 in
theorem w_584 : Cond.methodLink "StyleCourt$Source" 75 y_So_readEndOfElement ∈ xws := xws_in (wt_3 (List.mem_of_getElem? (i := 36) rfl)) rfl
set_option maxRecDepth 100000 in
theorem w_586 : Cond.instanceMethod y_So_readEndOfElement ∈ xws := xws_in (wt_3 (List.mem_of_getElem? (i := 38) rfl)) rfl
set_option maxRecDepth 100000 in
theorem w_587 : Cond.code y_So_readEndOfElement prog_9_method_11_code 3 none ∈ xws := xws_in (wt_3 (List.mem_of_getElem? (i := 39) rfl)) rfl
set_option maxRecDepth 100000 in
theorem w_588 : Cond.methodLink "StyleCourt$Source" 98 y_Rd_failAt ∈ xws := xws_in (wt_3 (List.mem_of_getElem? (i := 40) rfl)) rfl
set_option maxRecDepth 100000 in
theorem w_589 : Cond.instanceMethod y_Rd_failAt ∈ xws := xws_in (wt_3 (List.mem_of_getElem? (i := 41) rfl)) rfl
set_option maxRecDepth 100000 in
theorem w_590 : Cond.selects "StyleCourt$Reader" y_Rd_failAt y_Rd_failAt ∈ xws := xws_in (wt_3 (List.mem_of_getElem? (i := 42) rfl)) rfl
set_option maxRecDepth 100000 in
theorem w_591 : Cond.code y_Rd_failAt prog_5_method_2_code 2 none ∈ xws := xws_in (wt_3 (List.mem_of_getElem? (i := 43) rfl)) rfl
set_option maxRecDepth 100000 in
theorem w_592 : Cond.classLink "StyleCourt$Reader" 28 "java/lang/UnsupportedOperationException" ∈ xws := xws_in (wt_3 (List.mem_of_getElem? (i := 44) rfl)) rfl
set_option maxRecDepth 100000 in
theorem w_593 : Cond.instantiable "java/lang/UnsupportedOperationException" 6 ∈ xws := xws_in (wt_3 (List.mem_of_getElem? (i := 45) rfl)) rfl
set_option maxRecDepth 100000 in
theorem w_594 : Cond.castable "java/lang/UnsupportedOperationException" "java/lang/UnsupportedOperationException" ∈ xws := xws_in (wt_3 (List.mem_of_getElem? (i := 46) rfl)) rfl
set_option maxRecDepth 100000 in
theorem w_595 : Cond.selects "java/lang/UnsupportedOperationException" y_Th_fillInStackTrace y_Th_fillInStackTrace ∈ xws := xws_in (wt_3 (List.mem_of_getElem? (i := 47) rfl)) rfl
set_option maxRecDepth 100000 in
theorem w_596 : Cond.lays "java/lang/UnsupportedOperationException" "java/lang/Throwable" "cause" "Ljava/lang/Throwable;" ∈ xws := xws_in (wt_3 (List.mem_of_getElem? (i := 48) rfl)) rfl
set_option maxRecDepth 100000 in
theorem w_597 : Cond.lays "java/lang/UnsupportedOperationException" "java/lang/Throwable" "stackTrace" "[Ljava/lang/StackTraceElement;" ∈ xws := xws_in (wt_3 (List.mem_of_getElem? (i := 49) rfl)) rfl
set_option maxRecDepth 100000 in
theorem w_598 : Cond.lays "java/lang/UnsupportedOperationException" "java/lang/Throwable" "suppressedExceptions" "Ljava/util/List;" ∈ xws := xws_in (wt_3 (List.mem_of_getElem? (i := 50) rfl)) rfl
set_option maxRecDepth 100000 in
theorem w_599 : Cond.lays "java/lang/UnsupportedOperationException" "java/lang/Throwable" "detailMessage" "Ljava/lang/String;" ∈ xws := xws_in (wt_3 (List.mem_of_getElem? (i := 51) rfl)) rfl
set_option maxRecDepth 100000 in
theorem w_600 : Cond.lays "java/lang/UnsupportedOperationException" "java/lang/Throwable" "backtrace" "Ljava/lang/Object;" ∈ xws := xws_in (wt_3 (List.mem_of_getElem? (i := 52) rfl)) rfl
set_option maxRecDepth 100000 in
theorem w_602 : Cond.methodLink "StyleCourt$Reader" 32 y_XU_init ∈ xws := xws_in (wt_3 (List.mem_of_getElem? (i := 54) rfl)) rfl
set_option maxRecDepth 100000 in
theorem w_603 : Cond.instanceMethod y_XU_init ∈ xws := xws_in (wt_3 (List.mem_of_getElem? (i := 55) rfl)) rfl
set_option maxRecDepth 100000 in
theorem w_604 : Cond.code y_XU_init prog_28_method_2_code 2 none ∈ xws := xws_in (wt_3 (List.mem_of_getElem? (i := 56) rfl)) rfl
set_option maxRecDepth 100000 in
theorem w_605 : Cond.methodLink "java/lang/UnsupportedOperationException" 7 y_Rt_init2 ∈ xws := xws_in (wt_3 (List.mem_of_getElem? (i := 57) rfl)) rfl
set_option maxRecDepth 100000 in
theorem w_608 : Cond.methodLink "StyleCourt$Source" 109 y_Rd_readName ∈ xws := xws_in (wt_3 (List.mem_of_getElem? (i := 60) rfl)) rfl
set_option maxRecDepth 100000 in
theorem w_609 : Cond.instanceMethod y_Rd_readName ∈ xws := xws_in (wt_3 (List.mem_of_getElem? (i := 61) rfl)) rfl
set_option maxRecDepth 100000 in
theorem w_610 : Cond.selects "StyleCourt$Reader" y_Rd_readName y_Rd_readName ∈ xws := xws_in (wt_3 (List.mem_of_getElem? (i := 62) rfl)) rfl
set_option maxRecDepth 100000 in
theorem w_611 : Cond.code y_Rd_readName prog_5_method_7_code 2 (some (.object "StyleCourt$Slice")) ∈ xws := xws_in (wt_3 (List.mem_of_getElem? (i := 63) rfl)) rfl
set_option maxRecDepth 100000 in
theorem w_612 : Cond.methodLink "StyleCourt$Reader" 39 y_Rd_here ∈ xws := xws_in (wt_3 (List.mem_of_getElem? (i := 64) rfl)) rfl
set_option maxRecDepth 100000 in
theorem w_613 : Cond.methodLinkNest "StyleCourt$Reader" 50 y_Sc_isSmall "StyleCourt" ∈ xws := xws_in (wt_3 (List.mem_of_getElem? (i := 65) rfl)) rfl
set_option maxRecDepth 100000 in
theorem w_614 : Cond.static y_Sc_isSmall ∈ xws := xws_in (wt_3 (List.mem_of_getElem? (i := 66) rfl)) rfl
set_option maxRecDepth 100000 in
theorem w_615 : Cond.code y_Sc_isSmall prog_1_method_24_code 1 (some .boolean) ∈ xws := xws_in (wt_3 (List.mem_of_getElem? (i := 67) rfl)) rfl
set_option maxRecDepth 100000 in
theorem w_616 : Cond.methodLink "StyleCourt$Reader" 43 y_Rd_failAt ∈ xws := xws_in (wt_3 (List.mem_of_getElem? (i := 68) rfl)) rfl
set_option maxRecDepth 100000 in
theorem w_617 : Cond.methodLinkNest "StyleCourt$Reader" 53 y_Sc_isDigit "StyleCourt" ∈ xws := xws_in (wt_3 (List.mem_of_getElem? (i := 69) rfl)) rfl
set_option maxRecDepth 100000 in
theorem w_618 : Cond.static y_Sc_isDigit ∈ xws := xws_in (wt_3 (List.mem_of_getElem? (i := 70) rfl)) rfl
set_option maxRecDepth 100000 in
theorem w_619 : Cond.code y_Sc_isDigit prog_1_method_25_code 1 (some .boolean) ∈ xws := xws_in (wt_3 (List.mem_of_getElem? (i := 71) rfl)) rfl
set_option maxRecDepth 100000 in
theorem w_620 : Cond.classLink "StyleCourt$Reader" 56 "StyleCourt$Slice" ∈ xws := xws_in (wt_3 (List.mem_of_getElem? (i := 72) rfl)) rfl
set_option maxRecDepth 100000 in
theorem w_621 : Cond.methodLink "StyleCourt$Reader" 58 y_Sl_init ∈ xws := xws_in (wt_3 (List.mem_of_getElem? (i := 73) rfl)) rfl
set_option maxRecDepth 100000 in
theorem w_622 : Cond.methodLink "StyleCourt$Source" 181 y_Sl_sameAs ∈ xws := xws_in (wt_3 (List.mem_of_getElem? (i := 74) rfl)) rfl
set_option maxRecDepth 100000 in
theorem w_623 : Cond.instanceMethod y_Sl_sameAs ∈ xws := xws_in (wt_3 (List.mem_of_getElem? (i := 75) rfl)) rfl
set_option maxRecDepth 100000 in
theorem w_624 : Cond.selects "StyleCourt$Slice" y_Sl_sameAs y_Sl_sameAs ∈ xws := xws_in (wt_3 (List.mem_of_getElem? (i := 76) rfl)) rfl
set_option maxRecDepth 100000 in
theorem w_625 : Cond.code y_Sl_sameAs prog_8_method_2_code 3 (some .boolean) ∈ xws := xws_in (wt_3 (List.mem_of_getElem? (i := 77) rfl)) rfl
set_option maxRecDepth 100000 in
theorem w_626 : Cond.methodLink "StyleCourt$Source" 143 y_Rd_expectSign ∈ xws := xws_in (wt_3 (List.mem_of_getElem? (i := 78) rfl)) rfl
set_option maxRecDepth 100000 in
theorem w_627 : Cond.instanceMethod y_Rd_expectSign ∈ xws := xws_in (wt_3 (List.mem_of_getElem? (i := 79) rfl)) rfl
set_option maxRecDepth 100000 in
theorem w_628 : Cond.selects "StyleCourt$Reader" y_Rd_expectSign y_Rd_expectSign ∈ xws := xws_in (wt_3 (List.mem_of_getElem? (i := 80) rfl)) rfl
set_option maxRecDepth 100000 in
theorem w_629 : Cond.code y_Rd_expectSign prog_5_method_6_code 2 none ∈ xws := xws_in (wt_3 (List.mem_of_getElem? (i := 81) rfl)) rfl
set_option maxRecDepth 100000 in
theorem w_630 : Cond.methodLink "StyleCourt$Reader" 47 y_Rd_nextSign ∈ xws := xws_in (wt_3 (List.mem_of_getElem? (i := 82) rfl)) rfl
set_option maxRecDepth 100000 in
theorem w_631 : Cond.instanceMethod y_Rd_nextSign ∈ xws := xws_in (wt_3 (List.mem_of_getElem? (i := 83) rfl)) rfl
set_option maxRecDepth 100000 in
theorem w_632 : Cond.selects "StyleCourt$Reader" y_Rd_nextSign y_Rd_nextSign ∈ xws := xws_in (wt_3 (List.mem_of_getElem? (i := 84) rfl)) rfl
set_option maxRecDepth 100000 in
theorem w_633 : Cond.code y_Rd_nextSign prog_5_method_4_code 1 (some .int) ∈ xws := xws_in (wt_3 (List.mem_of_getElem? (i := 85) rfl)) rfl
set_option maxRecDepth 100000 in
theorem w_634 : Cond.methodLinkNest "StyleCourt$Reader" 35 y_Sc_isBlank "StyleCourt" ∈ xws := xws_in (wt_3 (List.mem_of_getElem? (i := 86) rfl)) rfl
set_option maxRecDepth 100000 in
theorem w_635 : Cond.static y_Sc_isBlank ∈ xws := xws_in (wt_3 (List.mem_of_getElem? (i := 87) rfl)) rfl
set_option maxRecDepth 100000 in
theorem w_636 : Cond.code y_Sc_isBlank prog_1_method_26_code 1 (some .boolean) ∈ xws := xws_in (wt_3 (List.mem_of_getElem? (i := 88) rfl)) rfl
set_option maxRecDepth 100000 in
theorem w_637 : Cond.methodLink "StyleCourt$Source" 168 y_So_finish ∈ xws := xws_in (wt_3 (List.mem_of_getElem? (i := 89) rfl)) rfl
set_option maxRecDepth 100000 in
theorem w_639 : Cond.instanceMethod y_So_finish ∈ xws := xws_in (wt_3 (List.mem_of_getElem? (i := 91) rfl)) rfl
set_option maxRecDepth 100000 in
theorem w_640 : Cond.code y_So_finish prog_9_method_12_code 3 none ∈ xws := xws_in (wt_3 (List.mem_of_getElem? (i := 92) rfl)) rfl
set_option maxRecDepth 100000 in
theorem w_641 : Cond.methodLink "StyleCourt$Source" 131 y_AL_size ∈ xws := xws_in (wt_3 (List.mem_of_getElem? (i := 93) rfl)) rfl
set_option maxRecDepth 100000 in
theorem w_642 : Cond.instanceMethod y_AL_size ∈ xws := xws_in (wt_3 (List.mem_of_getElem? (i := 94) rfl)) rfl
set_option maxRecDepth 100000 in
theorem w_643 : Cond.selects "java/util/ArrayList" y_AL_size y_AL_size ∈ xws := xws_in (wt_3 (List.mem_of_getElem? (i := 95) rfl)) rfl
set_option maxRecDepth 100000 in
theorem w_644 : Cond.code y_AL_size prog_31_method_8_code 1 (some .int) ∈ xws := xws_in (wt_3 (List.mem_of_getElem? (i := 96) rfl)) rfl
set_option maxRecDepth 100000 in
theorem w_645 : Cond.methodLink "StyleCourt$Source" 78 y_So_readBeginOfElement ∈ xws := xws_in (wt_3 (List.mem_of_getElem? (i := 97) rfl)) rfl
set_option maxRecDepth 100000 in
theorem w_647 : Cond.instanceMethod y_So_readBeginOfElement ∈ xws := xws_in (wt_3 (List.mem_of_getElem? (i := 99) rfl)) rfl
set_option maxRecDepth 100000 in
theorem w_648 : Cond.code y_So_readBeginOfElement prog_9_method_9_code 5 none ∈ xws := xws_in (wt_3 (List.mem_of_getElem? (i := 100) rfl)) rfl
set_option maxRecDepth 100000 in
theorem w_649 : Cond.methodLink "StyleCourt$Source" 149 y_So_readFields ∈ xws := xws_in (wt_3 (List.mem_of_getElem? (i := 101) rfl)) rfl
set_option maxRecDepth 100000 in
theorem w_651 : Cond.instanceMethod y_So_readFields ∈ xws := xws_in (wt_3 (List.mem_of_getElem? (i := 103) rfl)) rfl
set_option maxRecDepth 100000 in
theorem w_652 : Cond.code y_So_readFields prog_9_method_10_code 6 none ∈ xws := xws_in (wt_3 (List.mem_of_getElem? (i := 104) rfl)) rfl
set_option maxRecDepth 100000 in
theorem w_653 : Cond.methodLink "StyleCourt$Source" 134 y_Rd_nextSign ∈ xws := xws_in (wt_3 (List.mem_of_getElem? (i := 105) rfl)) rfl
set_option maxRecDepth 100000 in
theorem w_654 : Cond.methodLinkNest "StyleCourt$Source" 172 y_Sc_isSmall "StyleCourt" ∈ xws := xws_in (wt_3 (List.mem_of_getElem? (i := 106) rfl)) rfl
set_option maxRecDepth 100000 in
theorem w_655 : Cond.methodLinkNest "StyleCourt$Source" 113 y_Sc_findNamed "StyleCourt" ∈ xws := xws_in (wt_3 (List.mem_of_getElem? (i := 107) rfl)) rfl
set_option maxRecDepth 100000 in
theorem w_656 : Cond.static y_Sc_findNamed ∈ xws := xws_in (wt_3 (List.mem_of_getElem? (i := 108) rfl)) rfl
set_option maxRecDepth 100000 in
theorem w_657 : Cond.code y_Sc_findNamed prog_1_method_28_code 3 (some (.object "StyleCourt$Named")) ∈ xws := xws_in (wt_3 (List.mem_of_getElem? (i := 109) rfl)) rfl
set_option maxRecDepth 100000 in
theorem w_658 : Cond.methodLink "StyleCourt" 113 y_AL_size ∈ xws := xws_in (wt_3 (List.mem_of_getElem? (i := 110) rfl)) rfl
set_option maxRecDepth 100000 in
theorem w_659 : Cond.methodLink "StyleCourt" 184 y_AL_get ∈ xws := xws_in (wt_3 (List.mem_of_getElem? (i := 111) rfl)) rfl
set_option maxRecDepth 100000 in
theorem w_660 : Cond.instanceMethod y_AL_get ∈ xws := xws_in (wt_3 (List.mem_of_getElem? (i := 112) rfl)) rfl
set_option maxRecDepth 100000 in
theorem w_661 : Cond.selects "java/util/ArrayList" y_AL_get y_AL_get ∈ xws := xws_in (wt_3 (List.mem_of_getElem? (i := 113) rfl)) rfl
set_option maxRecDepth 100000 in
theorem w_662 : Cond.code y_AL_get prog_31_method_20_code 2 (some (.object "java/lang/Object")) ∈ xws := xws_in (wt_3 (List.mem_of_getElem? (i := 114) rfl)) rfl
set_option maxRecDepth 100000 in
theorem w_663 : Cond.methodLink "java/util/ArrayList" 118 y_Ob_checkIndex ∈ xws := xws_in (wt_3 (List.mem_of_getElem? (i := 115) rfl)) rfl
set_option maxRecDepth 100000 in
theorem w_664 : Cond.static y_Ob_checkIndex ∈ xws := xws_in (wt_3 (List.mem_of_getElem? (i := 116) rfl)) rfl
set_option maxRecDepth 100000 in
theorem w_665 : Cond.code y_Ob_checkIndex prog_35_method_17_code 2 (some .int) ∈ xws := xws_in (wt_3 (List.mem_of_getElem? (i := 117) rfl)) rfl
set_option maxRecDepth 100000 in
theorem w_666 : Cond.methodLink "java/util/Objects" 105 y_Pr_checkIndex ∈ xws := xws_in (wt_3 (List.mem_of_getElem? (i := 118) rfl)) rfl
set_option maxRecDepth 100000 in
theorem w_667 : Cond.static y_Pr_checkIndex ∈ xws := xws_in (wt_3 (List.mem_of_getElem? (i := 119) rfl)) rfl
set_option maxRecDepth 100000 in
theorem w_668 : Cond.code y_Pr_checkIndex prog_39_method_11_code 3 (some .int) ∈ xws := xws_in (wt_3 (List.mem_of_getElem? (i := 120) rfl)) rfl
set_option maxRecDepth 100000 in
theorem w_669 : Cond.methodLink "java/util/ArrayList" 123 y_AL_elementData ∈ xws := xws_in (wt_3 (List.mem_of_getElem? (i := 121) rfl)) rfl
set_option maxRecDepth 100000 in
theorem w_670 : Cond.instanceMethod y_AL_elementData ∈ xws := xws_in (wt_3 (List.mem_of_getElem? (i := 122) rfl)) rfl
set_option maxRecDepth 100000 in
theorem w_671 : Cond.selects "java/util/ArrayList" y_AL_elementData y_AL_elementData ∈ xws := xws_in (wt_3 (List.mem_of_getElem? (i := 123) rfl)) rfl
set_option maxRecDepth 100000 in
theorem w_672 : Cond.code y_AL_elementData prog_31_method_18_code 2 (some (.object "java/lang/Object")) ∈ xws := xws_in (wt_3 (List.mem_of_getElem? (i := 124) rfl)) rfl
set_option maxRecDepth 100000 in
theorem w_673 : Cond.classLink "StyleCourt" 236 "StyleCourt$Named" ∈ xws := xws_in (wt_3 (List.mem_of_getElem? (i := 125) rfl)) rfl
set_option maxRecDepth 100000 in
theorem w_674 : Cond.methodLink "StyleCourt" 295 y_Sl_sameAs ∈ xws := xws_in (wt_3 (List.mem_of_getElem? (i := 126) rfl)) rfl
set_option maxRecDepth 100000 in
theorem w_675 : Cond.methodLink "StyleCourt$Source" 137 y_Rd_readString ∈ xws := xws_in (wt_3 (List.mem_of_getElem? (i := 127) rfl)) rfl
set_option maxRecDepth 100000 in
theorem w_676 : Cond.instanceMethod y_Rd_readString ∈ xws := xws_in (wt_3 (List.mem_of_getElem? (i := 128) rfl)) rfl
set_option maxRecDepth 100000 in
theorem w_677 : Cond.selects "StyleCourt$Reader" y_Rd_readString y_Rd_readString ∈ xws := xws_in (wt_3 (List.mem_of_getElem? (i := 129) rfl)) rfl
set_option maxRecDepth 100000 in
theorem w_678 : Cond.code y_Rd_readString prog_5_method_9_code 2 (some (.object "StyleCourt$Slice")) ∈ xws := xws_in (wt_3 (List.mem_of_getElem? (i := 130) rfl)) rfl
set_option maxRecDepth 100000 in
theorem w_679 : Cond.methodLinkNest "StyleCourt$Reader" 61 y_Sc_isPrinted "StyleCourt" ∈ xws := xws_in (wt_3 (List.mem_of_getElem? (i := 131) rfl)) rfl
set_option maxRecDepth 100000 in
theorem w_680 : Cond.static y_Sc_isPrinted ∈ xws := xws_in (wt_3 (List.mem_of_getElem? (i := 132) rfl)) rfl
set_option maxRecDepth 100000 in
theorem w_681 : Cond.code y_Sc_isPrinted prog_1_method_27_code 1 (some .boolean) ∈ xws := xws_in (wt_3 (List.mem_of_getElem? (i := 133) rfl)) rfl
set_option maxRecDepth 100000 in
theorem w_682 : Cond.methodLink "StyleCourt$Source" 81 y_Rd_expect ∈ xws := xws_in (wt_3 (List.mem_of_getElem? (i := 134) rfl)) rfl
set_option maxRecDepth 100000 in
theorem w_683 : Cond.instanceMethod y_Rd_expect ∈ xws := xws_in (wt_3 (List.mem_of_getElem? (i := 135) rfl)) rfl
set_option maxRecDepth 100000 in
theorem w_684 : Cond.selects "StyleCourt$Reader" y_Rd_expect y_Rd_expect ∈ xws := xws_in (wt_3 (List.mem_of_getElem? (i := 136) rfl)) rfl
set_option maxRecDepth 100000 in
theorem w_685 : Cond.code y_Rd_expect prog_5_method_5_code 2 none ∈ xws := xws_in (wt_3 (List.mem_of_getElem? (i := 137) rfl)) rfl
set_option maxRecDepth 100000 in
theorem w_686 : Cond.methodLink "StyleCourt$Source" 85 y_Rd_skipComment ∈ xws := xws_in (wt_3 (List.mem_of_getElem? (i := 138) rfl)) rfl
set_option maxRecDepth 100000 in
theorem w_687 : Cond.instanceMethod y_Rd_skipComment ∈ xws := xws_in (wt_3 (List.mem_of_getElem? (i := 139) rfl)) rfl
set_option maxRecDepth 100000 in
theorem w_688 : Cond.selects "StyleCourt$Reader" y_Rd_skipComment y_Rd_skipComment ∈ xws := xws_in (wt_3 (List.mem_of_getElem? (i := 140) rfl)) rfl
set_option maxRecDepth 100000 in
theorem w_689 : Cond.code y_Rd_skipComment prog_5_method_10_code 1 none ∈ xws := xws_in (wt_3 (List.mem_of_getElem? (i := 141) rfl)) rfl
set_option maxRecDepth 100000 in
theorem w_690 : Cond.methodLink "StyleCourt$Reader" 64 y_Rd_commentEndsHere ∈ xws := xws_in (wt_3 (List.mem_of_getElem? (i := 142) rfl)) rfl
set_option maxRecDepth 100000 in
theorem w_692 : Cond.instanceMethod y_Rd_commentEndsHere ∈ xws := xws_in (wt_3 (List.mem_of_getElem? (i := 144) rfl)) rfl
set_option maxRecDepth 100000 in
theorem w_693 : Cond.code y_Rd_commentEndsHere prog_5_method_11_code 1 (some .boolean) ∈ xws := xws_in (wt_3 (List.mem_of_getElem? (i := 145) rfl)) rfl
set_option maxRecDepth 100000 in
theorem w_694 : Cond.methodLink "StyleCourt$Source" 88 y_So_readEntity ∈ xws := xws_in (wt_3 (List.mem_of_getElem? (i := 146) rfl)) rfl
set_option maxRecDepth 100000 in
theorem w_696 : Cond.instanceMethod y_So_readEntity ∈ xws := xws_in (wt_3 (List.mem_of_getElem? (i := 148) rfl)) rfl
set_option maxRecDepth 100000 in
theorem w_697 : Cond.code y_So_readEntity prog_9_method_8_code 6 none ∈ xws := xws_in (wt_3 (List.mem_of_getElem? (i := 149) rfl)) rfl
set_option maxRecDepth 100000 in
theorem w_698 : Cond.methodLink "StyleCourt$Source" 140 y_Sl_holds ∈ xws := xws_in (wt_3 (List.mem_of_getElem? (i := 150) rfl)) rfl
set_option maxRecDepth 100000 in
theorem w_699 : Cond.instanceMethod y_Sl_holds ∈ xws := xws_in (wt_3 (List.mem_of_getElem? (i := 151) rfl)) rfl
set_option maxRecDepth 100000 in
theorem w_700 : Cond.selects "StyleCourt$Slice" y_Sl_holds y_Sl_holds ∈ xws := xws_in (wt_3 (List.mem_of_getElem? (i := 152) rfl)) rfl
set_option maxRecDepth 100000 in
theorem w_701 : Cond.code y_Sl_holds prog_8_method_4_code 3 (some .boolean) ∈ xws := xws_in (wt_3 (List.mem_of_getElem? (i := 153) rfl)) rfl
set_option maxRecDepth 100000 in
theorem w_702 : Cond.methodLink "StyleCourt$Source" 68 y_So_readReference ∈ xws := xws_in (wt_3 (List.mem_of_getElem? (i := 154) rfl)) rfl
set_option maxRecDepth 100000 in
theorem w_704 : Cond.instanceMethod y_So_readReference ∈ xws := xws_in (wt_3 (List.mem_of_getElem? (i := 156) rfl)) rfl
set_option maxRecDepth 100000 in
theorem w_705 : Cond.code y_So_readReference prog_9_method_6_code 4 none ∈ xws := xws_in (wt_3 (List.mem_of_getElem? (i := 157) rfl)) rfl
set_option maxRecDepth 100000 in
theorem w_706 : Cond.methodLink "StyleCourt$Source" 102 y_So_addText ∈ xws := xws_in (wt_3 (List.mem_of_getElem? (i := 158) rfl)) rfl
set_option maxRecDepth 100000 in
theorem w_708 : Cond.instanceMethod y_So_addText ∈ xws := xws_in (wt_3 (List.mem_of_getElem? (i := 160) rfl)) rfl
set_option maxRecDepth 100000 in
theorem w_709 : Cond.code y_So_addText prog_9_method_7_code 2 none ∈ xws := xws_in (wt_3 (List.mem_of_getElem? (i := 161) rfl)) rfl
set_option maxRecDepth 100000 in
theorem w_710 : Cond.methodLink "StyleCourt$Source" 72 y_So_readText ∈ xws := xws_in (wt_3 (List.mem_of_getElem? (i := 162) rfl)) rfl
set_option maxRecDepth 100000 in
theorem w_712 : Cond.instanceMethod y_So_readText ∈ xws := xws_in (wt_3 (List.mem_of_getElem? (i := 164) rfl)) rfl
set_option maxRecDepth 100000 in
theorem w_713 : Cond.code y_So_readText prog_9_method_4_code 3 none ∈ xws := xws_in (wt_3 (List.mem_of_getElem? (i := 165) rfl)) rfl
set_option maxRecDepth 100000 in
theorem w_714 : Cond.methodLink "StyleCourt$Source" 94 y_So_isText ∈ xws := xws_in (wt_3 (List.mem_of_getElem? (i := 166) rfl)) rfl
set_option maxRecDepth 100000 in
theorem w_715 : Cond.static y_So_isText ∈ xws := xws_in (wt_3 (List.mem_of_getElem? (i := 167) rfl)) rfl
set_option maxRecDepth 100000 in
theorem w_716 : Cond.code y_So_isText prog_9_method_5_code 1 (some .boolean) ∈ xws := xws_in (wt_3 (List.mem_of_getElem? (i := 168) rfl)) rfl
set_option maxRecDepth 100000 in
theorem w_717 : Cond.methodLinkNest "StyleCourt$Source" 106 y_Sc_isPrinted "StyleCourt" ∈ xws := xws_in (wt_3 (List.mem_of_getElem? (i := 169) rfl)) rfl
set_option maxRecDepth 100000 in
theorem w_718 : Cond.methodLink "StyleCourt" 106 y_Rd_failAt ∈ xws := xws_in (wt_3 (List.mem_of_getElem? (i := 170) rfl)) rfl
set_option maxRecDepth 100000 in
theorem w_719 : Cond.methodLink "StyleCourtLaw" 80 y_Lw_style ∈ xws := xws_in (wt_3 (List.mem_of_getElem? (i := 171) rfl)) rfl
set_option maxRecDepth 100000 in
theorem w_720 : Cond.static y_Lw_style ∈ xws := xws_in (wt_3 (List.mem_of_getElem? (i := 172) rfl)) rfl
set_option maxRecDepth 100000 in
theorem w_721 : Cond.codeWith y_Lw_style method_6_code 3 (some .int) [((0 : Nat), (8 : Nat), (11 : Nat), (25 : Nat))] ∈ xws := xws_in (wt_3 (List.mem_of_getElem? (i := 173) rfl)) rfl
set_option maxRecDepth 100000 in
theorem w_722 : Cond.methodLink "StyleCourtLaw" 27 y_Sc_style ∈ xws := xws_in (wt_3 (List.mem_of_getElem? (i := 174) rfl)) rfl
set_option maxRecDepth 100000 in
theorem w_723 : Cond.instanceMethod y_Sc_style ∈ xws := xws_in (wt_3 (List.mem_of_getElem? (i := 175) rfl)) rfl
set_option maxRecDepth 100000 in
theorem w_724 : Cond.selects "StyleCourt" y_Sc_style y_Sc_style ∈ xws := xws_in (wt_3 (List.mem_of_getElem? (i := 176) rfl)) rfl
set_option maxRecDepth 100000 in
theorem w_725 : Cond.code y_Sc_style prog_1_method_5_code 5 (some .int) ∈ xws := xws_in (wt_3 (List.mem_of_getElem? (i := 177) rfl)) rfl
set_option maxRecDepth 100000 in
theorem w_726 : Cond.methodLink "StyleCourt" 118 y_Rd_nextSign ∈ xws := xws_in (wt_3 (List.mem_of_getElem? (i := 178) rfl)) rfl
set_option maxRecDepth 100000 in
theorem w_727 : Cond.classLink "StyleCourt" 121 "StyleCourt$Rule" ∈ xws := xws_in (wt_3 (List.mem_of_getElem? (i := 179) rfl)) rfl
set_option maxRecDepth 100000 in
theorem w_728 : Cond.instantiable "StyleCourt$Rule" 2 ∈ xws := xws_in (wt_3 (List.mem_of_getElem? (i := 180) rfl)) rfl
set_option maxRecDepth 100000 in
theorem w_729 : Cond.methodLinkNest "StyleCourt" 123 y_Ru_init "StyleCourt" ∈ xws := xws_in (wt_3 (List.mem_of_getElem? (i := 181) rfl)) rfl
set_option maxRecDepth 100000 in
theorem w_730 : Cond.instanceMethod y_Ru_init ∈ xws := xws_in (wt_3 (List.mem_of_getElem? (i := 182) rfl)) rfl
set_option maxRecDepth 100000 in
theorem w_731 : Cond.code y_Ru_init prog_6_method_1_code 1 none ∈ xws := xws_in (wt_3 (List.mem_of_getElem? (i := 183) rfl)) rfl
set_option maxRecDepth 100000 in
theorem w_732 : Cond.methodLink "StyleCourt$Rule" 1 y_Oj_init ∈ xws := xws_in (wt_3 (List.mem_of_getElem? (i := 184) rfl)) rfl
set_option maxRecDepth 100000 in
theorem w_733 : Cond.classLink "StyleCourt$Rule" 7 "java/util/ArrayList" ∈ xws := xws_in (wt_3 (List.mem_of_getElem? (i := 185) rfl)) rfl
set_option maxRecDepth 100000 in
theorem w_734 : Cond.methodLink "StyleCourt$Rule" 9 y_AL_init ∈ xws := xws_in (wt_3 (List.mem_of_getElem? (i := 186) rfl)) rfl
set_option maxRecDepth 100000 in
theorem w_735 : Cond.fieldLink "StyleCourt$Rule" 10 "StyleCourt$Rule" "selectors" "Ljava/util/ArrayList;" ∈ xws := xws_in (wt_3 (List.mem_of_getElem? (i := 187) rfl)) rfl
set_option maxRecDepth 100000 in
theorem w_736 : Cond.fieldLink "StyleCourt$Style" 55 "StyleCourt$Rule" "selectors" "Ljava/util/ArrayList;" ∈ xws := xws_in (wt_3 (List.mem_of_getElem? (i := 188) rfl)) rfl
set_option maxRecDepth 100000 in
theorem w_737 : Cond.fieldLink "StyleCourt$Rule" 16 "StyleCourt$Rule" "allTold" "Ljava/util/ArrayList;" ∈ xws := xws_in (wt_3 (List.mem_of_getElem? (i := 189) rfl)) rfl
set_option maxRecDepth 100000 in
theorem w_738 : Cond.fieldLink "StyleCourt$Style" 62 "StyleCourt$Rule" "allTold" "Ljava/util/ArrayList;" ∈ xws := xws_in (wt_3 (List.mem_of_getElem? (i := 190) rfl)) rfl
set_option maxRecDepth 100000 in
theorem w_744 : Cond.methodLink "StyleCourt" 124 y_Sy_readSelectors ∈ xws := xws_in (wt_3 (List.mem_of_getElem? (i := 196) rfl)) rfl
set_option maxRecDepth 100000 in
theorem w_745 : Cond.instanceMethod y_Sy_readSelectors ∈ xws := xws_in (wt_3 (List.mem_of_getElem? (i := 197) rfl)) rfl
set_option maxRecDepth 100000 in
theorem w_746 : Cond.selects "StyleCourt$Style" y_Sy_readSelectors y_Sy_readSelectors ∈ xws := xws_in (wt_3 (List.mem_of_getElem? (i := 198) rfl)) rfl
set_option maxRecDepth 100000 in
theorem w_747 : Cond.code y_Sy_readSelectors prog_11_method_2_code 5 none ∈ xws := xws_in (wt_3 (List.mem_of_getElem? (i := 199) rfl)) rfl
set_option maxRecDepth 100000 in
theorem w_748 : Cond.methodLink "StyleCourt$Style" 28 y_Rd_nextSign ∈ xws := xws_in (wt_3 (List.mem_of_getElem? (i := 200) rfl)) rfl
set_option maxRecDepth 100000 in
theorem w_749 : Cond.methodLink "StyleCourt$Style" 34 y_AL_size ∈ xws := xws_in (wt_3 (List.mem_of_getElem? (i := 201) rfl)) rfl
set_option maxRecDepth 100000 in
theorem w_750 : Cond.methodLink "StyleCourt$Style" 40 y_Rd_failAt ∈ xws := xws_in (wt_3 (List.mem_of_getElem? (i := 202) rfl)) rfl
set_option maxRecDepth 100000 in
theorem w_751 : Cond.classLink "StyleCourt$Style" 44 "StyleCourt$Selector" ∈ xws := xws_in (wt_3 (List.mem_of_getElem? (i := 203) rfl)) rfl
set_option maxRecDepth 100000 in
theorem w_752 : Cond.instantiable "StyleCourt$Selector" 2 ∈ xws := xws_in (wt_3 (List.mem_of_getElem? (i := 204) rfl)) rfl
set_option maxRecDepth 100000 in
theorem w_753 : Cond.methodLinkNest "StyleCourt$Style" 46 y_Se_init "StyleCourt" ∈ xws := xws_in (wt_3 (List.mem_of_getElem? (i := 205) rfl)) rfl
set_option maxRecDepth 100000 in
theorem w_754 : Cond.instanceMethod y_Se_init ∈ xws := xws_in (wt_3 (List.mem_of_getElem? (i := 206) rfl)) rfl
set_option maxRecDepth 100000 in
theorem w_755 : Cond.code y_Se_init prog_7_method_1_code 1 none ∈ xws := xws_in (wt_3 (List.mem_of_getElem? (i := 207) rfl)) rfl
set_option maxRecDepth 100000 in
theorem w_756 : Cond.methodLink "StyleCourt$Selector" 3 y_Oj_init ∈ xws := xws_in (wt_3 (List.mem_of_getElem? (i := 208) rfl)) rfl
set_option maxRecDepth 100000 in
theorem w_757 : Cond.classLink "StyleCourt$Selector" 9 "java/util/ArrayList" ∈ xws := xws_in (wt_3 (List.mem_of_getElem? (i := 209) rfl)) rfl
set_option maxRecDepth 100000 in
theorem w_758 : Cond.methodLink "StyleCourt$Selector" 11 y_AL_init ∈ xws := xws_in (wt_3 (List.mem_of_getElem? (i := 210) rfl)) rfl
set_option maxRecDepth 100000 in
theorem w_759 : Cond.fieldLink "StyleCourt$Selector" 12 "StyleCourt$Selector" "steps" "Ljava/util/ArrayList;" ∈ xws := xws_in (wt_3 (List.mem_of_getElem? (i := 211) rfl)) rfl
set_option maxRecDepth 100000 in
theorem w_760 : Cond.fieldLink "StyleCourt$Selector" 18 "StyleCourt$Selector" "weight" "I" ∈ xws := xws_in (wt_3 (List.mem_of_getElem? (i := 212) rfl)) rfl
set_option maxRecDepth 100000 in
theorem w_761 : Cond.fieldLink "StyleCourt$Rule" 29 "StyleCourt$Selector" "weight" "I" ∈ xws := xws_in (wt_3 (List.mem_of_getElem? (i := 213) rfl)) rfl
set_option maxRecDepth 100000 in
theorem w_762 : Cond.fieldLink "StyleCourt" 181 "StyleCourt$Selector" "weight" "I" ∈ xws := xws_in (wt_3 (List.mem_of_getElem? (i := 214) rfl)) rfl
set_option maxRecDepth 100000 in
theorem w_768 : Cond.methodLink "StyleCourt$Style" 47 y_Se_readSteps ∈ xws := xws_in (wt_3 (List.mem_of_getElem? (i := 220) rfl)) rfl
set_option maxRecDepth 100000 in
theorem w_769 : Cond.instanceMethod y_Se_readSteps ∈ xws := xws_in (wt_3 (List.mem_of_getElem? (i := 221) rfl)) rfl
set_option maxRecDepth 100000 in
theorem w_770 : Cond.selects "StyleCourt$Selector" y_Se_readSteps y_Se_readSteps ∈ xws := xws_in (wt_3 (List.mem_of_getElem? (i := 222) rfl)) rfl
set_option maxRecDepth 100000 in
theorem w_771 : Cond.code y_Se_readSteps prog_7_method_2_code 5 none ∈ xws := xws_in (wt_3 (List.mem_of_getElem? (i := 223) rfl)) rfl
set_option maxRecDepth 100000 in
theorem w_772 : Cond.methodLink "StyleCourt$Selector" 22 y_Rd_nextSign ∈ xws := xws_in (wt_3 (List.mem_of_getElem? (i := 224) rfl)) rfl
set_option maxRecDepth 100000 in
theorem w_773 : Cond.methodLink "StyleCourt$Selector" 31 y_Rd_failAt ∈ xws := xws_in (wt_3 (List.mem_of_getElem? (i := 225) rfl)) rfl
set_option maxRecDepth 100000 in
theorem w_774 : Cond.classLink "StyleCourt$Selector" 35 "StyleCourt$Step" ∈ xws := xws_in (wt_3 (List.mem_of_getElem? (i := 226) rfl)) rfl
set_option maxRecDepth 100000 in
theorem w_775 : Cond.instantiable "StyleCourt$Step" 3 ∈ xws := xws_in (wt_3 (List.mem_of_getElem? (i := 227) rfl)) rfl
set_option maxRecDepth 100000 in
theorem w_776 : Cond.methodLink "StyleCourt$Selector" 37 y_Sp_init ∈ xws := xws_in (wt_3 (List.mem_of_getElem? (i := 228) rfl)) rfl
set_option maxRecDepth 100000 in
theorem w_777 : Cond.instanceMethod y_Sp_init ∈ xws := xws_in (wt_3 (List.mem_of_getElem? (i := 229) rfl)) rfl
set_option maxRecDepth 100000 in
theorem w_778 : Cond.code y_Sp_init prog_10_method_1_code 2 none ∈ xws := xws_in (wt_3 (List.mem_of_getElem? (i := 230) rfl)) rfl
set_option maxRecDepth 100000 in
theorem w_779 : Cond.methodLink "StyleCourt$Step" 3 y_Oj_init ∈ xws := xws_in (wt_3 (List.mem_of_getElem? (i := 231) rfl)) rfl
set_option maxRecDepth 100000 in
theorem w_780 : Cond.classLink "StyleCourt$Step" 15 "java/util/ArrayList" ∈ xws := xws_in (wt_3 (List.mem_of_getElem? (i := 232) rfl)) rfl
set_option maxRecDepth 100000 in
theorem w_781 : Cond.methodLink "StyleCourt$Step" 17 y_AL_init ∈ xws := xws_in (wt_3 (List.mem_of_getElem? (i := 233) rfl)) rfl
set_option maxRecDepth 100000 in
theorem w_782 : Cond.fieldLink "StyleCourt$Step" 22 "StyleCourt$Step" "link" "I" ∈ xws := xws_in (wt_3 (List.mem_of_getElem? (i := 234) rfl)) rfl
set_option maxRecDepth 100000 in
theorem w_783 : Cond.fieldLink "StyleCourt$Selector" 72 "StyleCourt$Step" "link" "I" ∈ xws := xws_in (wt_3 (List.mem_of_getElem? (i := 235) rfl)) rfl
set_option maxRecDepth 100000 in
theorem w_784 : Cond.fieldLink "StyleCourt$Step" 9 "StyleCourt$Step" "name" "LStyleCourt$Slice;" ∈ xws := xws_in (wt_3 (List.mem_of_getElem? (i := 236) rfl)) rfl
set_option maxRecDepth 100000 in
theorem w_785 : Cond.fieldLink "StyleCourt$Step" 18 "StyleCourt$Step" "conditions" "Ljava/util/ArrayList;" ∈ xws := xws_in (wt_3 (List.mem_of_getElem? (i := 237) rfl)) rfl
set_option maxRecDepth 100000 in
theorem w_793 : Cond.methodLink "StyleCourt$Selector" 39 y_Sp_readFrom ∈ xws := xws_in (wt_4 (List.mem_of_getElem? (i := 5) rfl)) rfl
set_option maxRecDepth 100000 in
theorem w_794 : Cond.instanceMethod y_Sp_readFrom ∈ xws := xws_in (wt_4 (List.mem_of_getElem? (i := 6) rfl)) rfl
set_option maxRecDepth 100000 in
theorem w_795 : Cond.selects "StyleCourt$Step" y_Sp_readFrom y_Sp_readFrom ∈ xws := xws_in (wt_4 (List.mem_of_getElem? (i := 7) rfl)) rfl
set_option maxRecDepth 100000 in
theorem w_796 : Cond.code y_Sp_readFrom prog_10_method_2_code 5 none ∈ xws := xws_in (wt_4 (List.mem_of_getElem? (i := 8) rfl)) rfl
set_option maxRecDepth 100000 in
theorem w_797 : Cond.methodLink "StyleCourt$Step" 26 y_Rd_nextSign ∈ xws := xws_in (wt_4 (List.mem_of_getElem? (i := 9) rfl)) rfl
set_option maxRecDepth 100000 in
theorem w_798 : Cond.methodLink "StyleCourt$Step" 35 y_Rd_readName ∈ xws := xws_in (wt_4 (List.mem_of_getElem? (i := 10) rfl)) rfl
set_option maxRecDepth 100000 in
theorem w_799 : Cond.methodLink "StyleCourt$Step" 39 y_Rd_failAt ∈ xws := xws_in (wt_4 (List.mem_of_getElem? (i := 11) rfl)) rfl
set_option maxRecDepth 100000 in
theorem w_800 : Cond.classLink "StyleCourt$Step" 43 "StyleCourt$Condition" ∈ xws := xws_in (wt_4 (List.mem_of_getElem? (i := 12) rfl)) rfl
set_option maxRecDepth 100000 in
theorem w_801 : Cond.instantiable "StyleCourt$Condition" 4 ∈ xws := xws_in (wt_4 (List.mem_of_getElem? (i := 13) rfl)) rfl
set_option maxRecDepth 100000 in
theorem w_802 : Cond.methodLinkNest "StyleCourt$Step" 45 y_Co_init "StyleCourt" ∈ xws := xws_in (wt_4 (List.mem_of_getElem? (i := 14) rfl)) rfl
set_option maxRecDepth 100000 in
theorem w_803 : Cond.instanceMethod y_Co_init ∈ xws := xws_in (wt_4 (List.mem_of_getElem? (i := 15) rfl)) rfl
set_option maxRecDepth 100000 in
theorem w_804 : Cond.code y_Co_init prog_2_method_1_code 1 none ∈ xws := xws_in (wt_4 (List.mem_of_getElem? (i := 16) rfl)) rfl
set_option maxRecDepth 100000 in
theorem w_805 : Cond.methodLink "StyleCourt$Condition" 3 y_Oj_init ∈ xws := xws_in (wt_4 (List.mem_of_getElem? (i := 17) rfl)) rfl
set_option maxRecDepth 100000 in
theorem w_806 : Cond.fieldLink "StyleCourt$Condition" 9 "StyleCourt$Condition" "kind" "I" ∈ xws := xws_in (wt_4 (List.mem_of_getElem? (i := 18) rfl)) rfl
set_option maxRecDepth 100000 in
theorem w_807 : Cond.fieldLink "StyleCourt$Condition" 15 "StyleCourt$Condition" "name" "LStyleCourt$Slice;" ∈ xws := xws_in (wt_4 (List.mem_of_getElem? (i := 19) rfl)) rfl
set_option maxRecDepth 100000 in
theorem w_808 : Cond.fieldLink "StyleCourt$Condition" 19 "StyleCourt$Condition" "text" "LStyleCourt$Slice;" ∈ xws := xws_in (wt_4 (List.mem_of_getElem? (i := 20) rfl)) rfl
set_option maxRecDepth 100000 in
theorem w_809 : Cond.fieldLink "StyleCourt$Condition" 22 "StyleCourt$Condition" "number" "I" ∈ xws := xws_in (wt_4 (List.mem_of_getElem? (i := 21) rfl)) rfl
set_option maxRecDepth 100000 in
theorem w_819 : Cond.methodLink "StyleCourt$Step" 46 y_Co_readBracket ∈ xws := xws_in (wt_4 (List.mem_of_getElem? (i := 31) rfl)) rfl
set_option maxRecDepth 100000 in
theorem w_820 : Cond.instanceMethod y_Co_readBracket ∈ xws := xws_in (wt_4 (List.mem_of_getElem? (i := 32) rfl)) rfl
set_option maxRecDepth 100000 in
theorem w_821 : Cond.selects "StyleCourt$Condition" y_Co_readBracket y_Co_readBracket ∈ xws := xws_in (wt_4 (List.mem_of_getElem? (i := 33) rfl)) rfl
set_option maxRecDepth 100000 in
theorem w_822 : Cond.code y_Co_readBracket prog_2_method_2_code 2 none ∈ xws := xws_in (wt_4 (List.mem_of_getElem? (i := 34) rfl)) rfl
set_option maxRecDepth 100000 in
theorem w_823 : Cond.methodLink "StyleCourt$Condition" 25 y_Rd_nextSign ∈ xws := xws_in (wt_4 (List.mem_of_getElem? (i := 35) rfl)) rfl
set_option maxRecDepth 100000 in
theorem w_824 : Cond.methodLink "StyleCourt$Condition" 31 y_Rd_readName ∈ xws := xws_in (wt_4 (List.mem_of_getElem? (i := 36) rfl)) rfl
set_option maxRecDepth 100000 in
theorem w_825 : Cond.methodLink "StyleCourt$Condition" 38 y_Rd_readString ∈ xws := xws_in (wt_4 (List.mem_of_getElem? (i := 37) rfl)) rfl
set_option maxRecDepth 100000 in
theorem w_826 : Cond.methodLink "StyleCourt$Condition" 41 y_Rd_expectSign ∈ xws := xws_in (wt_4 (List.mem_of_getElem? (i := 38) rfl)) rfl
set_option maxRecDepth 100000 in
theorem w_827 : Cond.methodLink "StyleCourt$Step" 50 y_Co_readColon ∈ xws := xws_in (wt_4 (List.mem_of_getElem? (i := 39) rfl)) rfl
set_option maxRecDepth 100000 in
theorem w_828 : Cond.instanceMethod y_Co_readColon ∈ xws := xws_in (wt_4 (List.mem_of_getElem? (i := 40) rfl)) rfl
set_option maxRecDepth 100000 in
theorem w_829 : Cond.selects "StyleCourt$Condition" y_Co_readColon y_Co_readColon ∈ xws := xws_in (wt_4 (List.mem_of_getElem? (i := 41) rfl)) rfl
set_option maxRecDepth 100000 in
theorem w_830 : Cond.code y_Co_readColon prog_2_method_3_code 3 none ∈ xws := xws_in (wt_4 (List.mem_of_getElem? (i := 42) rfl)) rfl
set_option maxRecDepth 100000 in
theorem w_832 : Cond.methodLink "StyleCourt$Condition" 47 y_Sl_spells ∈ xws := xws_in (wt_4 (List.mem_of_getElem? (i := 44) rfl)) rfl
set_option maxRecDepth 100000 in
theorem w_833 : Cond.instanceMethod y_Sl_spells ∈ xws := xws_in (wt_4 (List.mem_of_getElem? (i := 45) rfl)) rfl
set_option maxRecDepth 100000 in
theorem w_834 : Cond.selects "StyleCourt$Slice" y_Sl_spells y_Sl_spells ∈ xws := xws_in (wt_4 (List.mem_of_getElem? (i := 46) rfl)) rfl
set_option maxRecDepth 100000 in
theorem w_835 : Cond.code y_Sl_spells prog_8_method_3_code 3 (some .boolean) ∈ xws := xws_in (wt_4 (List.mem_of_getElem? (i := 47) rfl)) rfl
set_option maxRecDepth 100000 in
theorem w_844 : Cond.fieldLink "java/lang/String" 38 "java/lang/String" "COMPACT_STRINGS" "Z" ∈ xws := xws_in (wt_4 (List.mem_of_getElem? (i := 56) rfl)) rfl
set_option maxRecDepth 100000 in
theorem w_854 : Cond.methodLink "java/lang/String" 495 y_L1_charAt ∈ xws := xws_in (wt_4 (List.mem_of_getElem? (i := 66) rfl)) rfl
set_option maxRecDepth 100000 in
theorem w_855 : Cond.static y_L1_charAt ∈ xws := xws_in (wt_4 (List.mem_of_getElem? (i := 67) rfl)) rfl
set_option maxRecDepth 100000 in
theorem w_856 : Cond.code y_L1_charAt prog_24_method_2_code 2 (some .char) ∈ xws := xws_in (wt_4 (List.mem_of_getElem? (i := 68) rfl)) rfl
set_option maxRecDepth 100000 in
theorem w_857 : Cond.methodLink "java/lang/StringLatin1" 9 y_Sg_checkIndex ∈ xws := xws_in (wt_4 (List.mem_of_getElem? (i := 69) rfl)) rfl
set_option maxRecDepth 100000 in
theorem w_858 : Cond.static y_Sg_checkIndex ∈ xws := xws_in (wt_4 (List.mem_of_getElem? (i := 70) rfl)) rfl
set_option maxRecDepth 100000 in
theorem w_859 : Cond.code y_Sg_checkIndex prog_23_method_155_code 2 none ∈ xws := xws_in (wt_4 (List.mem_of_getElem? (i := 71) rfl)) rfl
set_option maxRecDepth 100000 in
theorem w_862 : Cond.methodLink "java/lang/String" 1059 y_Pr_checkIndex ∈ xws := xws_in (wt_4 (List.mem_of_getElem? (i := 74) rfl)) rfl
set_option maxRecDepth 100000 in
theorem w_863 : Cond.methodLink "java/lang/String" 498 y_U16_charAt ∈ xws := xws_in (wt_4 (List.mem_of_getElem? (i := 75) rfl)) rfl
set_option maxRecDepth 100000 in
theorem w_864 : Cond.static y_U16_charAt ∈ xws := xws_in (wt_4 (List.mem_of_getElem? (i := 76) rfl)) rfl
set_option maxRecDepth 100000 in
theorem w_865 : Cond.code y_U16_charAt prog_25_method_83_code 2 (some .char) ∈ xws := xws_in (wt_4 (List.mem_of_getElem? (i := 77) rfl)) rfl
set_option maxRecDepth 100000 in
theorem w_885 : Cond.methodLink "StyleCourt$Condition" 59 y_Rd_readNumber ∈ xws := xws_in (wt_4 (List.mem_of_getElem? (i := 97) rfl)) rfl
set_option maxRecDepth 100000 in
theorem w_886 : Cond.instanceMethod y_Rd_readNumber ∈ xws := xws_in (wt_4 (List.mem_of_getElem? (i := 98) rfl)) rfl
set_option maxRecDepth 100000 in
theorem w_887 : Cond.selects "StyleCourt$Reader" y_Rd_readNumber y_Rd_readNumber ∈ xws := xws_in (wt_4 (List.mem_of_getElem? (i := 99) rfl)) rfl
set_option maxRecDepth 100000 in
theorem w_888 : Cond.code y_Rd_readNumber prog_5_method_8_code 3 (some .int) ∈ xws := xws_in (wt_4 (List.mem_of_getElem? (i := 100) rfl)) rfl
set_option maxRecDepth 100000 in
theorem w_890 : Cond.methodLink "StyleCourt$Condition" 67 y_Rd_failAt ∈ xws := xws_in (wt_4 (List.mem_of_getElem? (i := 102) rfl)) rfl
set_option maxRecDepth 100000 in
theorem w_891 : Cond.methodLink "StyleCourt$Step" 53 y_AL_add ∈ xws := xws_in (wt_4 (List.mem_of_getElem? (i := 103) rfl)) rfl
set_option maxRecDepth 100000 in
theorem w_892 : Cond.methodLink "StyleCourt$Selector" 43 y_AL_add ∈ xws := xws_in (wt_4 (List.mem_of_getElem? (i := 104) rfl)) rfl
set_option maxRecDepth 100000 in
theorem w_893 : Cond.methodLink "StyleCourt$Selector" 47 y_Sp_ownWeight ∈ xws := xws_in (wt_4 (List.mem_of_getElem? (i := 105) rfl)) rfl
set_option maxRecDepth 100000 in
theorem w_894 : Cond.instanceMethod y_Sp_ownWeight ∈ xws := xws_in (wt_4 (List.mem_of_getElem? (i := 106) rfl)) rfl
set_option maxRecDepth 100000 in
theorem w_895 : Cond.selects "StyleCourt$Step" y_Sp_ownWeight y_Sp_ownWeight ∈ xws := xws_in (wt_4 (List.mem_of_getElem? (i := 107) rfl)) rfl
set_option maxRecDepth 100000 in
theorem w_896 : Cond.code y_Sp_ownWeight prog_10_method_3_code 1 (some .int) ∈ xws := xws_in (wt_4 (List.mem_of_getElem? (i := 108) rfl)) rfl
set_option maxRecDepth 100000 in
theorem w_897 : Cond.methodLink "StyleCourt$Step" 57 y_AL_size ∈ xws := xws_in (wt_4 (List.mem_of_getElem? (i := 109) rfl)) rfl
set_option maxRecDepth 100000 in
theorem w_898 : Cond.methodLink "StyleCourt$Style" 51 y_AL_add ∈ xws := xws_in (wt_4 (List.mem_of_getElem? (i := 110) rfl)) rfl
set_option maxRecDepth 100000 in
theorem w_899 : Cond.methodLink "StyleCourt" 128 y_Sy_readBody ∈ xws := xws_in (wt_4 (List.mem_of_getElem? (i := 111) rfl)) rfl
set_option maxRecDepth 100000 in
theorem w_900 : Cond.instanceMethod y_Sy_readBody ∈ xws := xws_in (wt_4 (List.mem_of_getElem? (i := 112) rfl)) rfl
set_option maxRecDepth 100000 in
theorem w_901 : Cond.selects "StyleCourt$Style" y_Sy_readBody y_Sy_readBody ∈ xws := xws_in (wt_4 (List.mem_of_getElem? (i := 113) rfl)) rfl
set_option maxRecDepth 100000 in
theorem w_902 : Cond.code y_Sy_readBody prog_11_method_3_code 4 none ∈ xws := xws_in (wt_4 (List.mem_of_getElem? (i := 114) rfl)) rfl
set_option maxRecDepth 100000 in
theorem w_903 : Cond.methodLink "StyleCourt$Style" 58 y_Rd_expectSign ∈ xws := xws_in (wt_4 (List.mem_of_getElem? (i := 115) rfl)) rfl
set_option maxRecDepth 100000 in
theorem w_904 : Cond.methodLink "StyleCourt$Style" 65 y_Sy_readTold ∈ xws := xws_in (wt_4 (List.mem_of_getElem? (i := 116) rfl)) rfl
set_option maxRecDepth 100000 in
theorem w_906 : Cond.instanceMethod y_Sy_readTold ∈ xws := xws_in (wt_4 (List.mem_of_getElem? (i := 118) rfl)) rfl
set_option maxRecDepth 100000 in
theorem w_907 : Cond.code y_Sy_readTold prog_11_method_4_code 5 (some (.object "StyleCourt$Told")) ∈ xws := xws_in (wt_4 (List.mem_of_getElem? (i := 119) rfl)) rfl
set_option maxRecDepth 100000 in
theorem w_908 : Cond.methodLink "StyleCourt$Style" 69 y_Rd_readName ∈ xws := xws_in (wt_4 (List.mem_of_getElem? (i := 120) rfl)) rfl
set_option maxRecDepth 100000 in
theorem w_909 : Cond.methodLink "StyleCourt$Style" 73 y_Sy_numberOfName ∈ xws := xws_in (wt_4 (List.mem_of_getElem? (i := 121) rfl)) rfl
set_option maxRecDepth 100000 in
theorem w_910 : Cond.instanceMethod y_Sy_numberOfName ∈ xws := xws_in (wt_4 (List.mem_of_getElem? (i := 122) rfl)) rfl
set_option maxRecDepth 100000 in
theorem w_911 : Cond.selects "StyleCourt$Style" y_Sy_numberOfName y_Sy_numberOfName ∈ xws := xws_in (wt_4 (List.mem_of_getElem? (i := 123) rfl)) rfl
set_option maxRecDepth 100000 in
theorem w_912 : Cond.code y_Sy_numberOfName prog_11_method_5_code 3 (some .int) ∈ xws := xws_in (wt_4 (List.mem_of_getElem? (i := 124) rfl)) rfl
set_option maxRecDepth 100000 in
theorem w_913 : Cond.methodLink "StyleCourt$Style" 90 y_AL_get ∈ xws := xws_in (wt_4 (List.mem_of_getElem? (i := 125) rfl)) rfl
set_option maxRecDepth 100000 in
theorem w_914 : Cond.classLink "StyleCourt$Style" 78 "StyleCourt$Slice" ∈ xws := xws_in (wt_4 (List.mem_of_getElem? (i := 126) rfl)) rfl
set_option maxRecDepth 100000 in
theorem w_915 : Cond.methodLink "StyleCourt$Style" 94 y_Sl_sameAs ∈ xws := xws_in (wt_4 (List.mem_of_getElem? (i := 127) rfl)) rfl
set_option maxRecDepth 100000 in
theorem w_916 : Cond.classLink "StyleCourt$Style" 82 "StyleCourt$Told" ∈ xws := xws_in (wt_4 (List.mem_of_getElem? (i := 128) rfl)) rfl
set_option maxRecDepth 100000 in
theorem w_917 : Cond.instantiable "StyleCourt$Told" 7 ∈ xws := xws_in (wt_4 (List.mem_of_getElem? (i := 129) rfl)) rfl
set_option maxRecDepth 100000 in
theorem w_918 : Cond.methodLink "StyleCourt$Style" 84 y_To_init ∈ xws := xws_in (wt_4 (List.mem_of_getElem? (i := 130) rfl)) rfl
set_option maxRecDepth 100000 in
theorem w_919 : Cond.instanceMethod y_To_init ∈ xws := xws_in (wt_4 (List.mem_of_getElem? (i := 131) rfl)) rfl
set_option maxRecDepth 100000 in
theorem w_920 : Cond.code y_To_init prog_12_method_1_code 3 none ∈ xws := xws_in (wt_4 (List.mem_of_getElem? (i := 132) rfl)) rfl
set_option maxRecDepth 100000 in
theorem w_921 : Cond.methodLink "StyleCourt$Told" 3 y_Oj_init ∈ xws := xws_in (wt_4 (List.mem_of_getElem? (i := 133) rfl)) rfl
set_option maxRecDepth 100000 in
theorem w_922 : Cond.fieldLink "StyleCourt$Told" 29 "StyleCourt$Told" "index" "I" ∈ xws := xws_in (wt_4 (List.mem_of_getElem? (i := 134) rfl)) rfl
set_option maxRecDepth 100000 in
theorem w_923 : Cond.fieldLink "StyleCourt" 169 "StyleCourt$Told" "index" "I" ∈ xws := xws_in (wt_4 (List.mem_of_getElem? (i := 135) rfl)) rfl
set_option maxRecDepth 100000 in
theorem w_924 : Cond.fieldLink "StyleCourt$Told" 32 "StyleCourt$Told" "which" "I" ∈ xws := xws_in (wt_4 (List.mem_of_getElem? (i := 136) rfl)) rfl
set_option maxRecDepth 100000 in
theorem w_925 : Cond.fieldLink "StyleCourt$Rule" 39 "StyleCourt$Told" "which" "I" ∈ xws := xws_in (wt_4 (List.mem_of_getElem? (i := 137) rfl)) rfl
set_option maxRecDepth 100000 in
theorem w_926 : Cond.fieldLink "StyleCourt$Told" 9 "StyleCourt$Told" "kind" "I" ∈ xws := xws_in (wt_4 (List.mem_of_getElem? (i := 138) rfl)) rfl
set_option maxRecDepth 100000 in
theorem w_927 : Cond.fieldLink "StyleCourt" 256 "StyleCourt$Told" "kind" "I" ∈ xws := xws_in (wt_4 (List.mem_of_getElem? (i := 139) rfl)) rfl
set_option maxRecDepth 100000 in
theorem w_928 : Cond.fieldLink "StyleCourt$Told" 15 "StyleCourt$Told" "text" "LStyleCourt$Slice;" ∈ xws := xws_in (wt_4 (List.mem_of_getElem? (i := 140) rfl)) rfl
set_option maxRecDepth 100000 in
theorem w_929 : Cond.fieldLink "StyleCourt" 259 "StyleCourt$Told" "text" "LStyleCourt$Slice;" ∈ xws := xws_in (wt_4 (List.mem_of_getElem? (i := 141) rfl)) rfl
set_option maxRecDepth 100000 in
theorem w_930 : Cond.fieldLink "StyleCourt$Told" 19 "StyleCourt$Told" "number" "I" ∈ xws := xws_in (wt_4 (List.mem_of_getElem? (i := 142) rfl)) rfl
set_option maxRecDepth 100000 in
theorem w_931 : Cond.fieldLink "StyleCourt" 260 "StyleCourt$Told" "number" "I" ∈ xws := xws_in (wt_4 (List.mem_of_getElem? (i := 143) rfl)) rfl
set_option maxRecDepth 100000 in
theorem w_932 : Cond.fieldLink "StyleCourt$Told" 22 "StyleCourt$Told" "share" "I" ∈ xws := xws_in (wt_4 (List.mem_of_getElem? (i := 144) rfl)) rfl
set_option maxRecDepth 100000 in
theorem w_933 : Cond.fieldLink "StyleCourt" 159 "StyleCourt$Told" "share" "I" ∈ xws := xws_in (wt_4 (List.mem_of_getElem? (i := 145) rfl)) rfl
set_option maxRecDepth 100000 in
theorem w_934 : Cond.fieldLink "StyleCourt$Told" 25 "StyleCourt$Told" "strong" "Z" ∈ xws := xws_in (wt_4 (List.mem_of_getElem? (i := 146) rfl)) rfl
set_option maxRecDepth 100000 in
theorem w_935 : Cond.fieldLink "StyleCourt$Rule" 42 "StyleCourt$Told" "strong" "Z" ∈ xws := xws_in (wt_4 (List.mem_of_getElem? (i := 147) rfl)) rfl
set_option maxRecDepth 100000 in
theorem w_936 : Cond.fieldLink "StyleCourt$Style" 116 "StyleCourt$Told" "strong" "Z" ∈ xws := xws_in (wt_4 (List.mem_of_getElem? (i := 148) rfl)) rfl
set_option maxRecDepth 100000 in
theorem w_952 : Cond.methodLink "StyleCourt$Style" 87 y_To_readValue ∈ xws := xws_in (wt_4 (List.mem_of_getElem? (i := 164) rfl)) rfl
set_option maxRecDepth 100000 in
theorem w_953 : Cond.instanceMethod y_To_readValue ∈ xws := xws_in (wt_4 (List.mem_of_getElem? (i := 165) rfl)) rfl
set_option maxRecDepth 100000 in
theorem w_954 : Cond.selects "StyleCourt$Told" y_To_readValue y_To_readValue ∈ xws := xws_in (wt_4 (List.mem_of_getElem? (i := 166) rfl)) rfl
set_option maxRecDepth 100000 in
theorem w_955 : Cond.code y_To_readValue prog_12_method_2_code 3 none ∈ xws := xws_in (wt_4 (List.mem_of_getElem? (i := 167) rfl)) rfl
set_option maxRecDepth 100000 in
theorem w_956 : Cond.methodLink "StyleCourt$Told" 35 y_Rd_nextSign ∈ xws := xws_in (wt_4 (List.mem_of_getElem? (i := 168) rfl)) rfl
set_option maxRecDepth 100000 in
theorem w_957 : Cond.methodLink "StyleCourt$Told" 41 y_Rd_readString ∈ xws := xws_in (wt_4 (List.mem_of_getElem? (i := 169) rfl)) rfl
set_option maxRecDepth 100000 in
theorem w_958 : Cond.methodLinkNest "StyleCourt$Told" 45 y_Sc_isDigit "StyleCourt" ∈ xws := xws_in (wt_4 (List.mem_of_getElem? (i := 170) rfl)) rfl
set_option maxRecDepth 100000 in
theorem w_959 : Cond.methodLink "StyleCourt$Told" 49 y_To_readAmount ∈ xws := xws_in (wt_4 (List.mem_of_getElem? (i := 171) rfl)) rfl
set_option maxRecDepth 100000 in
theorem w_961 : Cond.instanceMethod y_To_readAmount ∈ xws := xws_in (wt_4 (List.mem_of_getElem? (i := 173) rfl)) rfl
set_option maxRecDepth 100000 in
theorem w_962 : Cond.code y_To_readAmount prog_12_method_3_code 3 none ∈ xws := xws_in (wt_4 (List.mem_of_getElem? (i := 174) rfl)) rfl
set_option maxRecDepth 100000 in
theorem w_963 : Cond.methodLink "StyleCourt$Told" 59 y_Rd_readNumber ∈ xws := xws_in (wt_4 (List.mem_of_getElem? (i := 175) rfl)) rfl
set_option maxRecDepth 100000 in
theorem w_964 : Cond.methodLink "StyleCourt$Told" 62 y_Rd_failAt ∈ xws := xws_in (wt_4 (List.mem_of_getElem? (i := 176) rfl)) rfl
set_option maxRecDepth 100000 in
theorem w_965 : Cond.methodLink "StyleCourt$Told" 53 y_Rd_readName ∈ xws := xws_in (wt_4 (List.mem_of_getElem? (i := 177) rfl)) rfl
set_option maxRecDepth 100000 in
theorem w_966 : Cond.methodLink "StyleCourtLaw" 87 y_Lw_property ∈ xws := xws_in (wt_4 (List.mem_of_getElem? (i := 178) rfl)) rfl
set_option maxRecDepth 100000 in
theorem w_967 : Cond.static y_Lw_property ∈ xws := xws_in (wt_4 (List.mem_of_getElem? (i := 179) rfl)) rfl
set_option maxRecDepth 100000 in
theorem w_968 : Cond.codeWith y_Lw_property method_7_code 4 (some .int) [((0 : Nat), (9 : Nat), (12 : Nat), (19 : Nat))] ∈ xws := xws_in (wt_4 (List.mem_of_getElem? (i := 180) rfl)) rfl
set_option maxRecDepth 100000 in
theorem w_969 : Cond.methodLink "StyleCourtLaw" 30 y_Sc_property ∈ xws := xws_in (wt_4 (List.mem_of_getElem? (i := 181) rfl)) rfl
set_option maxRecDepth 100000 in
theorem w_970 : Cond.instanceMethod y_Sc_property ∈ xws := xws_in (wt_4 (List.mem_of_getElem? (i := 182) rfl)) rfl
set_option maxRecDepth 100000 in
theorem w_971 : Cond.selects "StyleCourt" y_Sc_property y_Sc_property ∈ xws := xws_in (wt_4 (List.mem_of_getElem? (i := 183) rfl)) rfl
set_option maxRecDepth 100000 in
theorem w_972 : Cond.code y_Sc_property prog_1_method_7_code 8 (some .int) ∈ xws := xws_in (wt_4 (List.mem_of_getElem? (i := 184) rfl)) rfl
set_option maxRecDepth 100000 in
theorem w_973 : Cond.methodLink "StyleCourt" 137 y_Sc_takeName ∈ xws := xws_in (wt_4 (List.mem_of_getElem? (i := 185) rfl)) rfl
set_option maxRecDepth 100000 in
theorem w_975 : Cond.instanceMethod y_Sc_takeName ∈ xws := xws_in (wt_4 (List.mem_of_getElem? (i := 187) rfl)) rfl
set_option maxRecDepth 100000 in
theorem w_976 : Cond.code y_Sc_takeName prog_1_method_18_code 2 (some (.object "StyleCourt$Slice")) ∈ xws := xws_in (wt_4 (List.mem_of_getElem? (i := 188) rfl)) rfl
set_option maxRecDepth 100000 in
theorem w_977 : Cond.classLink "StyleCourt" 249 "StyleCourt$Slice" ∈ xws := xws_in (wt_4 (List.mem_of_getElem? (i := 189) rfl)) rfl
set_option maxRecDepth 100000 in
theorem w_978 : Cond.methodLink "StyleCourt" 251 y_Sl_init ∈ xws := xws_in (wt_4 (List.mem_of_getElem? (i := 190) rfl)) rfl
set_option maxRecDepth 100000 in
theorem w_979 : Cond.methodLink "StyleCourt" 141 y_Sc_elementAt ∈ xws := xws_in (wt_4 (List.mem_of_getElem? (i := 191) rfl)) rfl
set_option maxRecDepth 100000 in
theorem w_981 : Cond.instanceMethod y_Sc_elementAt ∈ xws := xws_in (wt_4 (List.mem_of_getElem? (i := 193) rfl)) rfl
set_option maxRecDepth 100000 in
theorem w_982 : Cond.code y_Sc_elementAt prog_1_method_19_code 2 (some (.object "StyleCourt$Element")) ∈ xws := xws_in (wt_4 (List.mem_of_getElem? (i := 194) rfl)) rfl
set_option maxRecDepth 100000 in
theorem w_984 : Cond.methodLink "StyleCourt" 145 y_Sy_numberOfName ∈ xws := xws_in (wt_4 (List.mem_of_getElem? (i := 196) rfl)) rfl
set_option maxRecDepth 100000 in
theorem w_985 : Cond.methodLink "StyleCourt" 149 y_Sy_countingFor ∈ xws := xws_in (wt_4 (List.mem_of_getElem? (i := 197) rfl)) rfl
set_option maxRecDepth 100000 in
theorem w_986 : Cond.instanceMethod y_Sy_countingFor ∈ xws := xws_in (wt_4 (List.mem_of_getElem? (i := 198) rfl)) rfl
set_option maxRecDepth 100000 in
theorem w_987 : Cond.selects "StyleCourt$Style" y_Sy_countingFor y_Sy_countingFor ∈ xws := xws_in (wt_4 (List.mem_of_getElem? (i := 199) rfl)) rfl
set_option maxRecDepth 100000 in
theorem w_988 : Cond.code y_Sy_countingFor prog_11_method_6_code 9 (some (.object "StyleCourt$Told")) ∈ xws := xws_in (wt_4 (List.mem_of_getElem? (i := 200) rfl)) rfl
set_option maxRecDepth 100000 in
theorem w_989 : Cond.classLink "StyleCourt$Style" 56 "StyleCourt$Rule" ∈ xws := xws_in (wt_4 (List.mem_of_getElem? (i := 201) rfl)) rfl
set_option maxRecDepth 100000 in
theorem w_990 : Cond.methodLink "StyleCourt$Style" 104 y_Ru_leading ∈ xws := xws_in (wt_4 (List.mem_of_getElem? (i := 202) rfl)) rfl
set_option maxRecDepth 100000 in
theorem w_991 : Cond.instanceMethod y_Ru_leading ∈ xws := xws_in (wt_4 (List.mem_of_getElem? (i := 203) rfl)) rfl
set_option maxRecDepth 100000 in
theorem w_992 : Cond.selects "StyleCourt$Rule" y_Ru_leading y_Ru_leading ∈ xws := xws_in (wt_4 (List.mem_of_getElem? (i := 204) rfl)) rfl
set_option maxRecDepth 100000 in
theorem w_993 : Cond.code y_Ru_leading prog_6_method_3_code 5 (some (.object "StyleCourt$Told")) ∈ xws := xws_in (wt_4 (List.mem_of_getElem? (i := 205) rfl)) rfl
set_option maxRecDepth 100000 in
theorem w_994 : Cond.methodLink "StyleCourt$Rule" 19 y_AL_size ∈ xws := xws_in (wt_4 (List.mem_of_getElem? (i := 206) rfl)) rfl
set_option maxRecDepth 100000 in
theorem w_995 : Cond.methodLink "StyleCourt$Rule" 23 y_AL_get ∈ xws := xws_in (wt_4 (List.mem_of_getElem? (i := 207) rfl)) rfl
set_option maxRecDepth 100000 in
theorem w_996 : Cond.classLink "StyleCourt$Rule" 37 "StyleCourt$Told" ∈ xws := xws_in (wt_4 (List.mem_of_getElem? (i := 208) rfl)) rfl
set_option maxRecDepth 100000 in
theorem w_997 : Cond.methodLink "StyleCourt$Style" 108 y_Ru_weightFor ∈ xws := xws_in (wt_4 (List.mem_of_getElem? (i := 209) rfl)) rfl
set_option maxRecDepth 100000 in
theorem w_998 : Cond.instanceMethod y_Ru_weightFor ∈ xws := xws_in (wt_4 (List.mem_of_getElem? (i := 210) rfl)) rfl
set_option maxRecDepth 100000 in
theorem w_999 : Cond.selects "StyleCourt$Rule" y_Ru_weightFor y_Ru_weightFor ∈ xws := xws_in (wt_4 (List.mem_of_getElem? (i := 211) rfl)) rfl
set_option maxRecDepth 100000 in
theorem w_1000 : Cond.code y_Ru_weightFor prog_6_method_2_code 6 (some .int) ∈ xws := xws_in (wt_4 (List.mem_of_getElem? (i := 212) rfl)) rfl
set_option maxRecDepth 100000 in
theorem w_1001 : Cond.classLink "StyleCourt$Rule" 27 "StyleCourt$Selector" ∈ xws := xws_in (wt_4 (List.mem_of_getElem? (i := 213) rfl)) rfl
set_option maxRecDepth 100000 in
theorem w_1002 : Cond.methodLink "StyleCourt$Rule" 33 y_Se_matches ∈ xws := xws_in (wt_4 (List.mem_of_getElem? (i := 214) rfl)) rfl
set_option maxRecDepth 100000 in
theorem w_1003 : Cond.instanceMethod y_Se_matches ∈ xws := xws_in (wt_4 (List.mem_of_getElem? (i := 215) rfl)) rfl
set_option maxRecDepth 100000 in
theorem w_1004 : Cond.selects "StyleCourt$Selector" y_Se_matches y_Se_matches ∈ xws := xws_in (wt_4 (List.mem_of_getElem? (i := 216) rfl)) rfl
set_option maxRecDepth 100000 in
theorem w_1005 : Cond.code y_Se_matches prog_7_method_3_code 8 (some .boolean) ∈ xws := xws_in (wt_4 (List.mem_of_getElem? (i := 217) rfl)) rfl
set_option maxRecDepth 100000 in
theorem w_1006 : Cond.methodLink "StyleCourt$Selector" 50 y_AL_size ∈ xws := xws_in (wt_4 (List.mem_of_getElem? (i := 218) rfl)) rfl
set_option maxRecDepth 100000 in
theorem w_1007 : Cond.methodLink "StyleCourt$Selector" 53 y_AL_get ∈ xws := xws_in (wt_4 (List.mem_of_getElem? (i := 219) rfl)) rfl
set_option maxRecDepth 100000 in
theorem w_1008 : Cond.methodLink "StyleCourt$Selector" 57 y_Sp_matches ∈ xws := xws_in (wt_4 (List.mem_of_getElem? (i := 220) rfl)) rfl
set_option maxRecDepth 100000 in
theorem w_1009 : Cond.instanceMethod y_Sp_matches ∈ xws := xws_in (wt_4 (List.mem_of_getElem? (i := 221) rfl)) rfl
set_option maxRecDepth 100000 in
theorem w_1010 : Cond.selects "StyleCourt$Step" y_Sp_matches y_Sp_matches ∈ xws := xws_in (wt_4 (List.mem_of_getElem? (i := 222) rfl)) rfl
set_option maxRecDepth 100000 in
theorem w_1011 : Cond.code y_Sp_matches prog_10_method_4_code 3 (some .boolean) ∈ xws := xws_in (wt_4 (List.mem_of_getElem? (i := 223) rfl)) rfl
set_option maxRecDepth 100000 in
theorem w_1012 : Cond.methodLink "StyleCourt$Step" 63 y_Sl_sameAs ∈ xws := xws_in (wt_4 (List.mem_of_getElem? (i := 224) rfl)) rfl
set_option maxRecDepth 100000 in
theorem w_1013 : Cond.methodLink "StyleCourt$Step" 69 y_AL_get ∈ xws := xws_in (wt_4 (List.mem_of_getElem? (i := 225) rfl)) rfl
set_option maxRecDepth 100000 in
theorem w_1014 : Cond.methodLink "StyleCourt$Step" 73 y_Co_holdsFor ∈ xws := xws_in (wt_4 (List.mem_of_getElem? (i := 226) rfl)) rfl
set_option maxRecDepth 100000 in
theorem w_1015 : Cond.instanceMethod y_Co_holdsFor ∈ xws := xws_in (wt_4 (List.mem_of_getElem? (i := 227) rfl)) rfl
set_option maxRecDepth 100000 in
theorem w_1016 : Cond.selects "StyleCourt$Condition" y_Co_holdsFor y_Co_holdsFor ∈ xws := xws_in (wt_4 (List.mem_of_getElem? (i := 228) rfl)) rfl
set_option maxRecDepth 100000 in
theorem w_1017 : Cond.code y_Co_holdsFor prog_2_method_4_code 2 (some .boolean) ∈ xws := xws_in (wt_4 (List.mem_of_getElem? (i := 229) rfl)) rfl
set_option maxRecDepth 100000 in
theorem w_1018 : Cond.methodLink "StyleCourt$Condition" 78 y_El_isEmpty ∈ xws := xws_in (wt_4 (List.mem_of_getElem? (i := 230) rfl)) rfl
set_option maxRecDepth 100000 in
theorem w_1019 : Cond.instanceMethod y_El_isEmpty ∈ xws := xws_in (wt_4 (List.mem_of_getElem? (i := 231) rfl)) rfl
set_option maxRecDepth 100000 in
theorem w_1020 : Cond.selects "StyleCourt$Element" y_El_isEmpty y_El_isEmpty ∈ xws := xws_in (wt_4 (List.mem_of_getElem? (i := 232) rfl)) rfl
set_option maxRecDepth 100000 in
theorem w_1021 : Cond.code y_El_isEmpty prog_3_method_2_code 1 (some .boolean) ∈ xws := xws_in (wt_4 (List.mem_of_getElem? (i := 233) rfl)) rfl
set_option maxRecDepth 100000 in
theorem w_1022 : Cond.methodLink "StyleCourt$Condition" 83 y_Sl_sameAs ∈ xws := xws_in (wt_4 (List.mem_of_getElem? (i := 234) rfl)) rfl
set_option maxRecDepth 100000 in
theorem w_1023 : Cond.methodLinkNest "StyleCourt$Condition" 91 y_Sc_findNamed "StyleCourt" ∈ xws := xws_in (wt_4 (List.mem_of_getElem? (i := 235) rfl)) rfl
set_option maxRecDepth 100000 in
theorem w_1024 : Cond.methodLink "StyleCourt$Condition" 95 y_Co_holdsForField ∈ xws := xws_in (wt_4 (List.mem_of_getElem? (i := 236) rfl)) rfl
set_option maxRecDepth 100000 in
theorem w_1026 : Cond.instanceMethod y_Co_holdsForField ∈ xws := xws_in (wt_4 (List.mem_of_getElem? (i := 238) rfl)) rfl
set_option maxRecDepth 100000 in
theorem w_1027 : Cond.code y_Co_holdsForField prog_2_method_5_code 2 (some .boolean) ∈ xws := xws_in (wt_4 (List.mem_of_getElem? (i := 239) rfl)) rfl
set_option maxRecDepth 100000 in
theorem w_1028 : Cond.methodLink "StyleCourt$Selector" 66 y_Ma_min ∈ xws := xws_in (wt_5 (List.mem_of_getElem? (i := 0) rfl)) rfl
set_option maxRecDepth 100000 in
theorem w_1029 : Cond.methodLink "StyleCourt$Selector" 75 y_Se_moveBack ∈ xws := xws_in (wt_5 (List.mem_of_getElem? (i := 1) rfl)) rfl
set_option maxRecDepth 100000 in
theorem w_1030 : Cond.static y_Se_moveBack ∈ xws := xws_in (wt_5 (List.mem_of_getElem? (i := 2) rfl)) rfl
set_option maxRecDepth 100000 in
theorem w_1031 : Cond.code y_Se_moveBack prog_7_method_4_code 6 none ∈ xws := xws_in (wt_5 (List.mem_of_getElem? (i := 3) rfl)) rfl
set_option maxRecDepth 100000 in
theorem w_1032 : Cond.methodLink "StyleCourt$Style" 112 y_Sy_isAhead ∈ xws := xws_in (wt_5 (List.mem_of_getElem? (i := 4) rfl)) rfl
set_option maxRecDepth 100000 in
theorem w_1033 : Cond.static y_Sy_isAhead ∈ xws := xws_in (wt_5 (List.mem_of_getElem? (i := 5) rfl)) rfl
set_option maxRecDepth 100000 in
theorem w_1034 : Cond.code y_Sy_isAhead prog_11_method_7_code 4 (some .boolean) ∈ xws := xws_in (wt_5 (List.mem_of_getElem? (i := 6) rfl)) rfl
set_option maxRecDepth 100000 in
theorem w_1035 : Cond.methodLink "StyleCourt" 153 y_To_leansOnOuter ∈ xws := xws_in (wt_5 (List.mem_of_getElem? (i := 7) rfl)) rfl
set_option maxRecDepth 100000 in
theorem w_1036 : Cond.instanceMethod y_To_leansOnOuter ∈ xws := xws_in (wt_5 (List.mem_of_getElem? (i := 8) rfl)) rfl
set_option maxRecDepth 100000 in
theorem w_1037 : Cond.selects "StyleCourt$Told" y_To_leansOnOuter y_To_leansOnOuter ∈ xws := xws_in (wt_5 (List.mem_of_getElem? (i := 9) rfl)) rfl
set_option maxRecDepth 100000 in
theorem w_1038 : Cond.code y_To_leansOnOuter prog_12_method_4_code 1 (some .boolean) ∈ xws := xws_in (wt_5 (List.mem_of_getElem? (i := 10) rfl)) rfl
set_option maxRecDepth 100000 in
theorem w_1040 : Cond.methodLink "StyleCourt$Told" 68 y_Sl_spells ∈ xws := xws_in (wt_5 (List.mem_of_getElem? (i := 12) rfl)) rfl
set_option maxRecDepth 100000 in
theorem w_1041 : Cond.methodLink "StyleCourt" 165 y_Sc_putValue ∈ xws := xws_in (wt_5 (List.mem_of_getElem? (i := 13) rfl)) rfl
set_option maxRecDepth 100000 in
theorem w_1043 : Cond.instanceMethod y_Sc_putValue ∈ xws := xws_in (wt_5 (List.mem_of_getElem? (i := 15) rfl)) rfl
set_option maxRecDepth 100000 in
theorem w_1044 : Cond.code y_Sc_putValue prog_1_method_20_code 6 (some .int) ∈ xws := xws_in (wt_5 (List.mem_of_getElem? (i := 16) rfl)) rfl
set_option maxRecDepth 100000 in
theorem w_1045 : Cond.methodLink "StyleCourt" 233 y_Sc_putSlice ∈ xws := xws_in (wt_5 (List.mem_of_getElem? (i := 17) rfl)) rfl
set_option maxRecDepth 100000 in
theorem w_1047 : Cond.instanceMethod y_Sc_putSlice ∈ xws := xws_in (wt_5 (List.mem_of_getElem? (i := 19) rfl)) rfl
set_option maxRecDepth 100000 in
theorem w_1048 : Cond.code y_Sc_putSlice prog_1_method_22_code 2 (some .int) ∈ xws := xws_in (wt_5 (List.mem_of_getElem? (i := 20) rfl)) rfl
set_option maxRecDepth 100000 in
theorem w_1049 : Cond.methodLink "StyleCourt" 274 y_Sl_copyTo ∈ xws := xws_in (wt_5 (List.mem_of_getElem? (i := 21) rfl)) rfl
set_option maxRecDepth 100000 in
theorem w_1050 : Cond.instanceMethod y_Sl_copyTo ∈ xws := xws_in (wt_5 (List.mem_of_getElem? (i := 22) rfl)) rfl
set_option maxRecDepth 100000 in
theorem w_1051 : Cond.selects "StyleCourt$Slice" y_Sl_copyTo y_Sl_copyTo ∈ xws := xws_in (wt_5 (List.mem_of_getElem? (i := 23) rfl)) rfl
set_option maxRecDepth 100000 in
theorem w_1052 : Cond.code y_Sl_copyTo prog_8_method_5_code 4 (some .int) ∈ xws := xws_in (wt_5 (List.mem_of_getElem? (i := 24) rfl)) rfl
set_option maxRecDepth 100000 in
theorem w_1053 : Cond.methodLink "StyleCourt$Slice" 29 y_Ma_min ∈ xws := xws_in (wt_5 (List.mem_of_getElem? (i := 25) rfl)) rfl
set_option maxRecDepth 100000 in
theorem w_1054 : Cond.methodLink "StyleCourt$Slice" 35 y_Ma_max ∈ xws := xws_in (wt_5 (List.mem_of_getElem? (i := 26) rfl)) rfl
set_option maxRecDepth 100000 in
theorem w_1056 : Cond.constantLong "StyleCourt" 261 100 ∈ xws := xws_in (wt_5 (List.mem_of_getElem? (i := 28) rfl)) rfl
set_option maxRecDepth 100000 in
theorem w_1057 : Cond.constantLong "StyleCourt" 263 9999999 ∈ xws := xws_in (wt_5 (List.mem_of_getElem? (i := 29) rfl)) rfl
set_option maxRecDepth 100000 in
theorem w_1058 : Cond.methodLink "StyleCourt" 265 y_Ma_min2 ∈ xws := xws_in (wt_5 (List.mem_of_getElem? (i := 30) rfl)) rfl
set_option maxRecDepth 100000 in
theorem w_1059 : Cond.static y_Ma_min2 ∈ xws := xws_in (wt_5 (List.mem_of_getElem? (i := 31) rfl)) rfl
set_option maxRecDepth 100000 in
theorem w_1060 : Cond.code y_Ma_min2 prog_21_method_70_code 4 (some .long) ∈ xws := xws_in (wt_5 (List.mem_of_getElem? (i := 32) rfl)) rfl
set_option maxRecDepth 100000 in
theorem w_1061 : Cond.methodLink "StyleCourt" 271 y_Sc_putNumber ∈ xws := xws_in (wt_5 (List.mem_of_getElem? (i := 33) rfl)) rfl
set_option maxRecDepth 100000 in
theorem w_1063 : Cond.instanceMethod y_Sc_putNumber ∈ xws := xws_in (wt_5 (List.mem_of_getElem? (i := 35) rfl)) rfl
set_option maxRecDepth 100000 in
theorem w_1064 : Cond.code y_Sc_putNumber prog_1_method_21_code 4 none ∈ xws := xws_in (wt_5 (List.mem_of_getElem? (i := 36) rfl)) rfl
set_option maxRecDepth 100000 in
theorem w_1065 : Cond.methodLink "StyleCourtLaw" 90 y_Lw_by ∈ xws := xws_in (wt_5 (List.mem_of_getElem? (i := 37) rfl)) rfl
set_option maxRecDepth 100000 in
theorem w_1066 : Cond.static y_Lw_by ∈ xws := xws_in (wt_5 (List.mem_of_getElem? (i := 38) rfl)) rfl
set_option maxRecDepth 100000 in
theorem w_1067 : Cond.codeWith y_Lw_by method_8_code 4 (some .int) [((0 : Nat), (9 : Nat), (12 : Nat), (19 : Nat))] ∈ xws := xws_in (wt_5 (List.mem_of_getElem? (i := 39) rfl)) rfl
set_option maxRecDepth 100000 in
theorem w_1068 : Cond.methodLink "StyleCourtLaw" 33 y_Sc_by ∈ xws := xws_in (wt_5 (List.mem_of_getElem? (i := 40) rfl)) rfl
set_option maxRecDepth 100000 in
theorem w_1069 : Cond.instanceMethod y_Sc_by ∈ xws := xws_in (wt_5 (List.mem_of_getElem? (i := 41) rfl)) rfl
set_option maxRecDepth 100000 in
theorem w_1070 : Cond.selects "StyleCourt" y_Sc_by y_Sc_by ∈ xws := xws_in (wt_5 (List.mem_of_getElem? (i := 42) rfl)) rfl
set_option maxRecDepth 100000 in
theorem w_1071 : Cond.code y_Sc_by prog_1_method_8_code 5 (some .int) ∈ xws := xws_in (wt_5 (List.mem_of_getElem? (i := 43) rfl)) rfl
set_option maxRecDepth 100000 in
theorem w_1072 : Cond.methodLink "StyleCourtLaw" 93 y_Lw_select ∈ xws := xws_in (wt_5 (List.mem_of_getElem? (i := 44) rfl)) rfl
set_option maxRecDepth 100000 in
theorem w_1073 : Cond.static y_Lw_select ∈ xws := xws_in (wt_5 (List.mem_of_getElem? (i := 45) rfl)) rfl
set_option maxRecDepth 100000 in
theorem w_1074 : Cond.codeWith y_Lw_select method_9_code 3 (some .int) [((0 : Nat), (8 : Nat), (11 : Nat), (25 : Nat))] ∈ xws := xws_in (wt_5 (List.mem_of_getElem? (i := 46) rfl)) rfl
set_option maxRecDepth 100000 in
theorem w_1075 : Cond.methodLink "StyleCourtLaw" 36 y_Sc_select ∈ xws := xws_in (wt_5 (List.mem_of_getElem? (i := 47) rfl)) rfl
set_option maxRecDepth 100000 in
theorem w_1076 : Cond.instanceMethod y_Sc_select ∈ xws := xws_in (wt_5 (List.mem_of_getElem? (i := 48) rfl)) rfl
set_option maxRecDepth 100000 in
theorem w_1077 : Cond.selects "StyleCourt" y_Sc_select y_Sc_select ∈ xws := xws_in (wt_5 (List.mem_of_getElem? (i := 49) rfl)) rfl
set_option maxRecDepth 100000 in
theorem w_1078 : Cond.code y_Sc_select prog_1_method_9_code 4 (some .int) ∈ xws := xws_in (wt_5 (List.mem_of_getElem? (i := 50) rfl)) rfl
set_option maxRecDepth 100000 in
theorem w_1079 : Cond.classLink "StyleCourt" 172 "StyleCourt$Selector" ∈ xws := xws_in (wt_5 (List.mem_of_getElem? (i := 51) rfl)) rfl
set_option maxRecDepth 100000 in
theorem w_1080 : Cond.methodLinkNest "StyleCourt" 174 y_Se_init "StyleCourt" ∈ xws := xws_in (wt_5 (List.mem_of_getElem? (i := 52) rfl)) rfl
set_option maxRecDepth 100000 in
theorem w_1081 : Cond.methodLink "StyleCourt" 175 y_Se_readSteps ∈ xws := xws_in (wt_5 (List.mem_of_getElem? (i := 53) rfl)) rfl
set_option maxRecDepth 100000 in
theorem w_1082 : Cond.methodLink "StyleCourt" 188 y_Se_matches ∈ xws := xws_in (wt_5 (List.mem_of_getElem? (i := 54) rfl)) rfl
set_option maxRecDepth 100000 in
theorem w_1083 : Cond.methodLink "StyleCourtLaw" 96 y_Lw_found ∈ xws := xws_in (wt_5 (List.mem_of_getElem? (i := 55) rfl)) rfl
set_option maxRecDepth 100000 in
theorem w_1084 : Cond.static y_Lw_found ∈ xws := xws_in (wt_5 (List.mem_of_getElem? (i := 56) rfl)) rfl
set_option maxRecDepth 100000 in
theorem w_1085 : Cond.codeWith y_Lw_found method_10_code 4 (some .int) [((0 : Nat), (9 : Nat), (12 : Nat), (13 : Nat))] ∈ xws := xws_in (wt_5 (List.mem_of_getElem? (i := 57) rfl)) rfl
set_option maxRecDepth 100000 in
theorem w_1086 : Cond.methodLink "StyleCourtLaw" 39 y_Sc_found ∈ xws := xws_in (wt_5 (List.mem_of_getElem? (i := 58) rfl)) rfl
set_option maxRecDepth 100000 in
theorem w_1087 : Cond.instanceMethod y_Sc_found ∈ xws := xws_in (wt_5 (List.mem_of_getElem? (i := 59) rfl)) rfl
set_option maxRecDepth 100000 in
theorem w_1088 : Cond.selects "StyleCourt" y_Sc_found y_Sc_found ∈ xws := xws_in (wt_5 (List.mem_of_getElem? (i := 60) rfl)) rfl
set_option maxRecDepth 100000 in
theorem w_1089 : Cond.code y_Sc_found prog_1_method_10_code 2 (some .int) ∈ xws := xws_in (wt_5 (List.mem_of_getElem? (i := 61) rfl)) rfl
set_option maxRecDepth 100000 in
theorem w_1091 : Cond.methodLink "StyleCourtLaw" 99 y_Lw_fits ∈ xws := xws_in (wt_5 (List.mem_of_getElem? (i := 63) rfl)) rfl
set_option maxRecDepth 100000 in
theorem w_1092 : Cond.static y_Lw_fits ∈ xws := xws_in (wt_5 (List.mem_of_getElem? (i := 64) rfl)) rfl
set_option maxRecDepth 100000 in
theorem w_1093 : Cond.codeWith y_Lw_fits method_11_code 5 (some .int) [((0 : Nat), (10 : Nat), (13 : Nat), (19 : Nat))] ∈ xws := xws_in (wt_5 (List.mem_of_getElem? (i := 65) rfl)) rfl
set_option maxRecDepth 100000 in
theorem w_1094 : Cond.methodLink "StyleCourtLaw" 42 y_Sc_fits ∈ xws := xws_in (wt_5 (List.mem_of_getElem? (i := 66) rfl)) rfl
set_option maxRecDepth 100000 in
theorem w_1095 : Cond.instanceMethod y_Sc_fits ∈ xws := xws_in (wt_5 (List.mem_of_getElem? (i := 67) rfl)) rfl
set_option maxRecDepth 100000 in
theorem w_1096 : Cond.selects "StyleCourt" y_Sc_fits y_Sc_fits ∈ xws := xws_in (wt_5 (List.mem_of_getElem? (i := 68) rfl)) rfl
set_option maxRecDepth 100000 in
theorem w_1097 : Cond.code y_Sc_fits prog_1_method_11_code 4 (some .int) ∈ xws := xws_in (wt_5 (List.mem_of_getElem? (i := 69) rfl)) rfl
set_option maxRecDepth 100000 in
theorem w_1099 : Cond.methodLink "StyleCourtLaw" 103 y_Lw_element ∈ xws := xws_in (wt_5 (List.mem_of_getElem? (i := 71) rfl)) rfl
set_option maxRecDepth 100000 in
theorem w_1100 : Cond.static y_Lw_element ∈ xws := xws_in (wt_5 (List.mem_of_getElem? (i := 72) rfl)) rfl
set_option maxRecDepth 100000 in
theorem w_1101 : Cond.codeWith y_Lw_element method_12_code 5 (some .int) [((0 : Nat), (10 : Nat), (13 : Nat), (19 : Nat))] ∈ xws := xws_in (wt_5 (List.mem_of_getElem? (i := 73) rfl)) rfl
set_option maxRecDepth 100000 in
theorem w_1102 : Cond.methodLink "StyleCourtLaw" 46 y_Sc_element ∈ xws := xws_in (wt_5 (List.mem_of_getElem? (i := 74) rfl)) rfl
set_option maxRecDepth 100000 in
theorem w_1103 : Cond.instanceMethod y_Sc_element ∈ xws := xws_in (wt_5 (List.mem_of_getElem? (i := 75) rfl)) rfl
set_option maxRecDepth 100000 in
theorem w_1104 : Cond.selects "StyleCourt" y_Sc_element y_Sc_element ∈ xws := xws_in (wt_5 (List.mem_of_getElem? (i := 76) rfl)) rfl
set_option maxRecDepth 100000 in
theorem w_1105 : Cond.code y_Sc_element prog_1_method_12_code 4 (some .int) ∈ xws := xws_in (wt_5 (List.mem_of_getElem? (i := 77) rfl)) rfl
set_option maxRecDepth 100000 in
theorem w_1106 : Cond.methodLink "StyleCourt" 212 y_El_isEmpty ∈ xws := xws_in (wt_5 (List.mem_of_getElem? (i := 78) rfl)) rfl
set_option maxRecDepth 100000 in
theorem w_1108 : Cond.methodLink "StyleCourtLaw" 106 y_Lw_tell ∈ xws := xws_in (wt_5 (List.mem_of_getElem? (i := 80) rfl)) rfl
set_option maxRecDepth 100000 in
theorem w_1109 : Cond.static y_Lw_tell ∈ xws := xws_in (wt_5 (List.mem_of_getElem? (i := 81) rfl)) rfl
set_option maxRecDepth 100000 in
theorem w_1110 : Cond.codeWith y_Lw_tell method_13_code 5 (some .int) [((0 : Nat), (10 : Nat), (13 : Nat), (19 : Nat)), ((0 : Nat), (10 : Nat), (17 : Nat), (13 : Nat))] ∈ xws := xws_in (wt_5 (List.mem_of_getElem? (i := 82) rfl)) rfl
set_option maxRecDepth 100000 in
theorem w_1111 : Cond.methodLink "StyleCourtLaw" 49 y_Sc_tell ∈ xws := xws_in (wt_5 (List.mem_of_getElem? (i := 83) rfl)) rfl
set_option maxRecDepth 100000 in
theorem w_1112 : Cond.instanceMethod y_Sc_tell ∈ xws := xws_in (wt_5 (List.mem_of_getElem? (i := 84) rfl)) rfl
set_option maxRecDepth 100000 in
theorem w_1113 : Cond.selects "StyleCourt" y_Sc_tell y_Sc_tell ∈ xws := xws_in (wt_5 (List.mem_of_getElem? (i := 85) rfl)) rfl
set_option maxRecDepth 100000 in
theorem w_1114 : Cond.code y_Sc_tell prog_1_method_13_code 5 (some .int) ∈ xws := xws_in (wt_5 (List.mem_of_getElem? (i := 86) rfl)) rfl
set_option maxRecDepth 100000 in
theorem w_1116 : Cond.methodLink "StyleCourt" 225 y_Sc_putTexts ∈ xws := xws_in (wt_5 (List.mem_of_getElem? (i := 88) rfl)) rfl
set_option maxRecDepth 100000 in
theorem w_1118 : Cond.instanceMethod y_Sc_putTexts ∈ xws := xws_in (wt_5 (List.mem_of_getElem? (i := 90) rfl)) rfl
set_option maxRecDepth 100000 in
theorem w_1119 : Cond.code y_Sc_putTexts prog_1_method_23_code 6 (some .int) ∈ xws := xws_in (wt_5 (List.mem_of_getElem? (i := 91) rfl)) rfl
set_option maxRecDepth 100000 in
theorem w_1120 : Cond.methodLink "StyleCourt" 284 y_Ma_min ∈ xws := xws_in (wt_5 (List.mem_of_getElem? (i := 92) rfl)) rfl
set_option maxRecDepth 100000 in
theorem w_1122 : Cond.methodLink "StyleCourtLaw" 109 y_Lw_word ∈ xws := xws_in (wt_5 (List.mem_of_getElem? (i := 94) rfl)) rfl
set_option maxRecDepth 100000 in
theorem w_1123 : Cond.static y_Lw_word ∈ xws := xws_in (wt_5 (List.mem_of_getElem? (i := 95) rfl)) rfl
set_option maxRecDepth 100000 in
theorem w_1124 : Cond.codeWith y_Lw_word method_14_code 4 (some .int) [((0 : Nat), (8 : Nat), (11 : Nat), (13 : Nat))] ∈ xws := xws_in (wt_5 (List.mem_of_getElem? (i := 96) rfl)) rfl
set_option maxRecDepth 100000 in
theorem w_1125 : Cond.methodLink "StyleCourtLaw" 52 y_Sc_word ∈ xws := xws_in (wt_5 (List.mem_of_getElem? (i := 97) rfl)) rfl
set_option maxRecDepth 100000 in
theorem w_1126 : Cond.instanceMethod y_Sc_word ∈ xws := xws_in (wt_5 (List.mem_of_getElem? (i := 98) rfl)) rfl
set_option maxRecDepth 100000 in
theorem w_1127 : Cond.selects "StyleCourt" y_Sc_word y_Sc_word ∈ xws := xws_in (wt_5 (List.mem_of_getElem? (i := 99) rfl)) rfl
set_option maxRecDepth 100000 in
theorem w_1128 : Cond.code y_Sc_word prog_1_method_14_code 5 (some .long) ∈ xws := xws_in (wt_5 (List.mem_of_getElem? (i := 100) rfl)) rfl
set_option maxRecDepth 100000 in
theorem w_1130 : Cond.methodLink "StyleCourtLaw" 112 y_Lw_count ∈ xws := xws_in (wt_5 (List.mem_of_getElem? (i := 102) rfl)) rfl
set_option maxRecDepth 100000 in
theorem w_1131 : Cond.static y_Lw_count ∈ xws := xws_in (wt_5 (List.mem_of_getElem? (i := 103) rfl)) rfl
set_option maxRecDepth 100000 in
theorem w_1132 : Cond.codeWith y_Lw_count method_15_code 4 (some .int) [((0 : Nat), (9 : Nat), (12 : Nat), (19 : Nat))] ∈ xws := xws_in (wt_5 (List.mem_of_getElem? (i := 104) rfl)) rfl
set_option maxRecDepth 100000 in
theorem w_1133 : Cond.methodLink "StyleCourtLaw" 56 y_Sc_count ∈ xws := xws_in (wt_5 (List.mem_of_getElem? (i := 105) rfl)) rfl
set_option maxRecDepth 100000 in
theorem w_1134 : Cond.instanceMethod y_Sc_count ∈ xws := xws_in (wt_5 (List.mem_of_getElem? (i := 106) rfl)) rfl
set_option maxRecDepth 100000 in
theorem w_1135 : Cond.selects "StyleCourt" y_Sc_count y_Sc_count ∈ xws := xws_in (wt_5 (List.mem_of_getElem? (i := 107) rfl)) rfl
set_option maxRecDepth 100000 in
theorem w_1136 : Cond.code y_Sc_count prog_1_method_15_code 3 (some .int) ∈ xws := xws_in (wt_5 (List.mem_of_getElem? (i := 108) rfl)) rfl
set_option maxRecDepth 100000 in
theorem w_1138 : Cond.classLink "StyleCourtLaw" 60 "StyleCourtModel" ∈ xws := xws_in (wt_5 (List.mem_of_getElem? (i := 110) rfl)) rfl
set_option maxRecDepth 100000 in
theorem w_1139 : Cond.instantiable "StyleCourtModel" 85 ∈ xws := xws_in (wt_5 (List.mem_of_getElem? (i := 111) rfl)) rfl
set_option maxRecDepth 100000 in
theorem w_1140 : Cond.methodLink "StyleCourtLaw" 62 y_Mo_init ∈ xws := xws_in (wt_5 (List.mem_of_getElem? (i := 112) rfl)) rfl
set_option maxRecDepth 100000 in
theorem w_1141 : Cond.instanceMethod y_Mo_init ∈ xws := xws_in (wt_5 (List.mem_of_getElem? (i := 113) rfl)) rfl
set_option maxRecDepth 100000 in
theorem w_1142 : Cond.code y_Mo_init prog_14_method_1_code 1 none ∈ xws := xws_in (wt_5 (List.mem_of_getElem? (i := 114) rfl)) rfl
set_option maxRecDepth 100000 in
theorem w_1143 : Cond.methodLink "StyleCourtModel" 1 y_Oj_init ∈ xws := xws_in (wt_5 (List.mem_of_getElem? (i := 115) rfl)) rfl
set_option maxRecDepth 100000 in
theorem w_1144 : Cond.constant "StyleCourtModel" 20 50000 ∈ xws := xws_in (wt_5 (List.mem_of_getElem? (i := 116) rfl)) rfl
set_option maxRecDepth 100000 in
theorem w_1145 : Cond.fieldLink "StyleCourtModel" 187 "StyleCourtModel" "thrown" "I" ∈ xws := xws_in (wt_5 (List.mem_of_getElem? (i := 117) rfl)) rfl
set_option maxRecDepth 100000 in
theorem w_1146 : Cond.fieldLink "StyleCourtModel" 7 "StyleCourtModel" "tape" "[I" ∈ xws := xws_in (wt_5 (List.mem_of_getElem? (i := 118) rfl)) rfl
set_option maxRecDepth 100000 in
theorem w_1147 : Cond.fieldLink "StyleCourtModel" 190 "StyleCourtModel" "taped" "I" ∈ xws := xws_in (wt_5 (List.mem_of_getElem? (i := 119) rfl)) rfl
set_option maxRecDepth 100000 in
theorem w_1148 : Cond.fieldLink "StyleCourtModel" 13 "StyleCourtModel" "out" "[I" ∈ xws := xws_in (wt_5 (List.mem_of_getElem? (i := 120) rfl)) rfl
set_option maxRecDepth 100000 in
theorem w_1149 : Cond.fieldLink "StyleCourtModel" 424 "StyleCourtModel" "outLong" "I" ∈ xws := xws_in (wt_5 (List.mem_of_getElem? (i := 121) rfl)) rfl
set_option maxRecDepth 100000 in
theorem w_1150 : Cond.fieldLink "StyleCourtModel" 16 "StyleCourtModel" "place" "I" ∈ xws := xws_in (wt_5 (List.mem_of_getElem? (i := 122) rfl)) rfl
set_option maxRecDepth 100000 in
theorem w_1151 : Cond.fieldLink "StyleCourtModel" 211 "StyleCourtModel" "fault" "I" ∈ xws := xws_in (wt_5 (List.mem_of_getElem? (i := 123) rfl)) rfl
set_option maxRecDepth 100000 in
theorem w_1152 : Cond.fieldLink "StyleCourtModel" 21 "StyleCourtModel" "text" "[I" ∈ xws := xws_in (wt_5 (List.mem_of_getElem? (i := 124) rfl)) rfl
set_option maxRecDepth 100000 in
theorem w_1153 : Cond.fieldLink "StyleCourtModel" 205 "StyleCourtModel" "base" "I" ∈ xws := xws_in (wt_5 (List.mem_of_getElem? (i := 125) rfl)) rfl
set_option maxRecDepth 100000 in
theorem w_1154 : Cond.fieldLink "StyleCourtModel" 208 "StyleCourtModel" "length" "I" ∈ xws := xws_in (wt_5 (List.mem_of_getElem? (i := 126) rfl)) rfl
set_option maxRecDepth 100000 in
theorem w_1155 : Cond.fieldLink "StyleCourtModel" 311 "StyleCourtModel" "elements" "I" ∈ xws := xws_in (wt_5 (List.mem_of_getElem? (i := 127) rfl)) rfl
set_option maxRecDepth 100000 in
theorem w_1156 : Cond.fieldLink "StyleCourtModel" 275 "StyleCourtModel" "newElements" "I" ∈ xws := xws_in (wt_5 (List.mem_of_getElem? (i := 128) rfl)) rfl
set_option maxRecDepth 100000 in
theorem w_1157 : Cond.fieldLink "StyleCourtModel" 24 "StyleCourtModel" "nameAt" "[I" ∈ xws := xws_in (wt_5 (List.mem_of_getElem? (i := 129) rfl)) rfl
set_option maxRecDepth 100000 in
theorem w_1158 : Cond.fieldLink "StyleCourtModel" 27 "StyleCourtModel" "nameLong" "[I" ∈ xws := xws_in (wt_5 (List.mem_of_getElem? (i := 130) rfl)) rfl
set_option maxRecDepth 100000 in
theorem w_1159 : Cond.fieldLink "StyleCourtModel" 30 "StyleCourtModel" "parent" "[I" ∈ xws := xws_in (wt_5 (List.mem_of_getElem? (i := 131) rfl)) rfl
set_option maxRecDepth 100000 in
theorem w_1160 : Cond.fieldLink "StyleCourtModel" 33 "StyleCourtModel" "before" "[I" ∈ xws := xws_in (wt_5 (List.mem_of_getElem? (i := 132) rfl)) rfl
set_option maxRecDepth 100000 in
theorem w_1161 : Cond.fieldLink "StyleCourtModel" 36 "StyleCourtModel" "many" "[I" ∈ xws := xws_in (wt_5 (List.mem_of_getElem? (i := 133) rfl)) rfl
set_option maxRecDepth 100000 in
theorem w_1162 : Cond.fieldLink "StyleCourtModel" 39 "StyleCourtModel" "number" "[I" ∈ xws := xws_in (wt_5 (List.mem_of_getElem? (i := 134) rfl)) rfl
set_option maxRecDepth 100000 in
theorem w_1163 : Cond.fieldLink "StyleCourtModel" 42 "StyleCourtModel" "depth" "[I" ∈ xws := xws_in (wt_5 (List.mem_of_getElem? (i := 135) rfl)) rfl
set_option maxRecDepth 100000 in
theorem w_1164 : Cond.fieldLink "StyleCourtModel" 45 "StyleCourtModel" "fields" "[I" ∈ xws := xws_in (wt_5 (List.mem_of_getElem? (i := 136) rfl)) rfl
set_option maxRecDepth 100000 in
theorem w_1165 : Cond.fieldLink "StyleCourtModel" 48 "StyleCourtModel" "begins" "[I" ∈ xws := xws_in (wt_5 (List.mem_of_getElem? (i := 137) rfl)) rfl
set_option maxRecDepth 100000 in
theorem w_1166 : Cond.fieldLink "StyleCourtModel" 51 "StyleCourtModel" "ends" "[I" ∈ xws := xws_in (wt_5 (List.mem_of_getElem? (i := 138) rfl)) rfl
set_option maxRecDepth 100000 in
theorem w_1167 : Cond.fieldLink "StyleCourtModel" 54 "StyleCourtModel" "pieceFrom" "[I" ∈ xws := xws_in (wt_5 (List.mem_of_getElem? (i := 139) rfl)) rfl
set_option maxRecDepth 100000 in
theorem w_1168 : Cond.fieldLink "StyleCourtModel" 57 "StyleCourtModel" "pieceTo" "[I" ∈ xws := xws_in (wt_5 (List.mem_of_getElem? (i := 140) rfl)) rfl
set_option maxRecDepth 100000 in
theorem w_1169 : Cond.fieldLink "StyleCourtModel" 60 "StyleCourtModel" "lastIn" "[I" ∈ xws := xws_in (wt_5 (List.mem_of_getElem? (i := 141) rfl)) rfl
set_option maxRecDepth 100000 in
theorem w_1170 : Cond.fieldLink "StyleCourtModel" 63 "StyleCourtModel" "empty" "[Z" ∈ xws := xws_in (wt_5 (List.mem_of_getElem? (i := 142) rfl)) rfl
set_option maxRecDepth 100000 in
theorem w_1171 : Cond.fieldLink "StyleCourtModel" 67 "StyleCourtModel" "fieldAt" "[I" ∈ xws := xws_in (wt_5 (List.mem_of_getElem? (i := 143) rfl)) rfl
set_option maxRecDepth 100000 in
theorem w_1172 : Cond.fieldLink "StyleCourtModel" 70 "StyleCourtModel" "fieldLong" "[I" ∈ xws := xws_in (wt_5 (List.mem_of_getElem? (i := 144) rfl)) rfl
set_option maxRecDepth 100000 in
theorem w_1173 : Cond.fieldLink "StyleCourtModel" 73 "StyleCourtModel" "valueAt" "[I" ∈ xws := xws_in (wt_5 (List.mem_of_getElem? (i := 145) rfl)) rfl
set_option maxRecDepth 100000 in
theorem w_1174 : Cond.fieldLink "StyleCourtModel" 76 "StyleCourtModel" "valueLong" "[I" ∈ xws := xws_in (wt_5 (List.mem_of_getElem? (i := 146) rfl)) rfl
set_option maxRecDepth 100000 in
theorem w_1175 : Cond.fieldLink "StyleCourtModel" 79 "StyleCourtModel" "pieceAt" "[I" ∈ xws := xws_in (wt_5 (List.mem_of_getElem? (i := 147) rfl)) rfl
set_option maxRecDepth 100000 in
theorem w_1176 : Cond.fieldLink "StyleCourtModel" 82 "StyleCourtModel" "pieceLong" "[I" ∈ xws := xws_in (wt_5 (List.mem_of_getElem? (i := 148) rfl)) rfl
set_option maxRecDepth 100000 in
theorem w_1177 : Cond.fieldLink "StyleCourtModel" 233 "StyleCourtModel" "pieces" "I" ∈ xws := xws_in (wt_5 (List.mem_of_getElem? (i := 149) rfl)) rfl
set_option maxRecDepth 100000 in
theorem w_1178 : Cond.fieldLink "StyleCourtModel" 85 "StyleCourtModel" "entityAt" "[I" ∈ xws := xws_in (wt_5 (List.mem_of_getElem? (i := 150) rfl)) rfl
set_option maxRecDepth 100000 in
theorem w_1179 : Cond.fieldLink "StyleCourtModel" 88 "StyleCourtModel" "entityLong" "[I" ∈ xws := xws_in (wt_5 (List.mem_of_getElem? (i := 151) rfl)) rfl
set_option maxRecDepth 100000 in
theorem w_1180 : Cond.fieldLink "StyleCourtModel" 91 "StyleCourtModel" "entityText" "[I" ∈ xws := xws_in (wt_5 (List.mem_of_getElem? (i := 152) rfl)) rfl
set_option maxRecDepth 100000 in
theorem w_1181 : Cond.fieldLink "StyleCourtModel" 94 "StyleCourtModel" "entityTextLong" "[I" ∈ xws := xws_in (wt_5 (List.mem_of_getElem? (i := 153) rfl)) rfl
set_option maxRecDepth 100000 in
theorem w_1182 : Cond.fieldLink "StyleCourtModel" 236 "StyleCourtModel" "entities" "I" ∈ xws := xws_in (wt_5 (List.mem_of_getElem? (i := 154) rfl)) rfl
set_option maxRecDepth 100000 in
theorem w_1183 : Cond.fieldLink "StyleCourtModel" 227 "StyleCourtModel" "at" "I" ∈ xws := xws_in (wt_5 (List.mem_of_getElem? (i := 155) rfl)) rfl
set_option maxRecDepth 100000 in
theorem w_1184 : Cond.fieldLink "StyleCourtModel" 278 "StyleCourtModel" "topMany" "I" ∈ xws := xws_in (wt_5 (List.mem_of_getElem? (i := 156) rfl)) rfl
set_option maxRecDepth 100000 in
theorem w_1185 : Cond.fieldLink "StyleCourtModel" 281 "StyleCourtModel" "lastTop" "I" ∈ xws := xws_in (wt_5 (List.mem_of_getElem? (i := 157) rfl)) rfl
set_option maxRecDepth 100000 in
theorem w_1186 : Cond.fieldLink "StyleCourtModel" 97 "StyleCourtModel" "spare" "[I" ∈ xws := xws_in (wt_5 (List.mem_of_getElem? (i := 158) rfl)) rfl
set_option maxRecDepth 100000 in
theorem w_1187 : Cond.fieldLink "StyleCourtModel" 314 "StyleCourtModel" "founds" "I" ∈ xws := xws_in (wt_5 (List.mem_of_getElem? (i := 159) rfl)) rfl
set_option maxRecDepth 100000 in
theorem w_1188 : Cond.fieldLink "StyleCourtModel" 100 "StyleCourtModel" "found" "[I" ∈ xws := xws_in (wt_5 (List.mem_of_getElem? (i := 160) rfl)) rfl
set_option maxRecDepth 100000 in
theorem w_1189 : Cond.fieldLink "StyleCourtModel" 302 "StyleCourtModel" "sourceLong" "I" ∈ xws := xws_in (wt_5 (List.mem_of_getElem? (i := 161) rfl)) rfl
set_option maxRecDepth 100000 in
theorem w_1190 : Cond.fieldLink "StyleCourtModel" 326 "StyleCourtModel" "kind" "I" ∈ xws := xws_in (wt_5 (List.mem_of_getElem? (i := 162) rfl)) rfl
set_option maxRecDepth 100000 in
theorem w_1191 : Cond.fieldLink "StyleCourtModel" 320 "StyleCourtModel" "from" "I" ∈ xws := xws_in (wt_5 (List.mem_of_getElem? (i := 163) rfl)) rfl
set_option maxRecDepth 100000 in
theorem w_1192 : Cond.fieldLink "StyleCourtModel" 317 "StyleCourtModel" "to" "I" ∈ xws := xws_in (wt_5 (List.mem_of_getElem? (i := 164) rfl)) rfl
set_option maxRecDepth 100000 in
theorem w_1193 : Cond.fieldLink "StyleCourtModel" 329 "StyleCourtModel" "value" "I" ∈ xws := xws_in (wt_5 (List.mem_of_getElem? (i := 165) rfl)) rfl
set_option maxRecDepth 100000 in
theorem w_1194 : Cond.fieldLink "StyleCourtModel" 323 "StyleCourtModel" "sign" "I" ∈ xws := xws_in (wt_5 (List.mem_of_getElem? (i := 166) rfl)) rfl
set_option maxRecDepth 100000 in
theorem w_1195 : Cond.fieldLink "StyleCourtModel" 382 "StyleCourtModel" "selectors" "I" ∈ xws := xws_in (wt_5 (List.mem_of_getElem? (i := 167) rfl)) rfl
set_option maxRecDepth 100000 in
theorem w_1196 : Cond.fieldLink "StyleCourtModel" 357 "StyleCourtModel" "steps" "I" ∈ xws := xws_in (wt_5 (List.mem_of_getElem? (i := 168) rfl)) rfl
set_option maxRecDepth 100000 in
theorem w_1197 : Cond.fieldLink "StyleCourtModel" 341 "StyleCourtModel" "tests" "I" ∈ xws := xws_in (wt_5 (List.mem_of_getElem? (i := 169) rfl)) rfl
set_option maxRecDepth 100000 in
theorem w_1198 : Cond.fieldLink "StyleCourtModel" 103 "StyleCourtModel" "firstStep" "[I" ∈ xws := xws_in (wt_5 (List.mem_of_getElem? (i := 170) rfl)) rfl
set_option maxRecDepth 100000 in
theorem w_1199 : Cond.fieldLink "StyleCourtModel" 106 "StyleCourtModel" "stepsOf" "[I" ∈ xws := xws_in (wt_5 (List.mem_of_getElem? (i := 171) rfl)) rfl
set_option maxRecDepth 100000 in
theorem w_1200 : Cond.fieldLink "StyleCourtModel" 109 "StyleCourtModel" "bodyOf" "[I" ∈ xws := xws_in (wt_5 (List.mem_of_getElem? (i := 172) rfl)) rfl
set_option maxRecDepth 100000 in
theorem w_1201 : Cond.fieldLink "StyleCourtModel" 112 "StyleCourtModel" "heavy" "[I" ∈ xws := xws_in (wt_5 (List.mem_of_getElem? (i := 173) rfl)) rfl
set_option maxRecDepth 100000 in
theorem w_1202 : Cond.fieldLink "StyleCourtModel" 115 "StyleCourtModel" "stepAt" "[I" ∈ xws := xws_in (wt_5 (List.mem_of_getElem? (i := 174) rfl)) rfl
set_option maxRecDepth 100000 in
theorem w_1203 : Cond.fieldLink "StyleCourtModel" 118 "StyleCourtModel" "stepLong" "[I" ∈ xws := xws_in (wt_5 (List.mem_of_getElem? (i := 175) rfl)) rfl
set_option maxRecDepth 100000 in
theorem w_1204 : Cond.fieldLink "StyleCourtModel" 121 "StyleCourtModel" "link" "[I" ∈ xws := xws_in (wt_5 (List.mem_of_getElem? (i := 176) rfl)) rfl
set_option maxRecDepth 100000 in
theorem w_1205 : Cond.fieldLink "StyleCourtModel" 124 "StyleCourtModel" "firstTest" "[I" ∈ xws := xws_in (wt_5 (List.mem_of_getElem? (i := 177) rfl)) rfl
set_option maxRecDepth 100000 in
theorem w_1206 : Cond.fieldLink "StyleCourtModel" 127 "StyleCourtModel" "testsOf" "[I" ∈ xws := xws_in (wt_5 (List.mem_of_getElem? (i := 178) rfl)) rfl
set_option maxRecDepth 100000 in
theorem w_1207 : Cond.fieldLink "StyleCourtModel" 130 "StyleCourtModel" "test" "[I" ∈ xws := xws_in (wt_5 (List.mem_of_getElem? (i := 179) rfl)) rfl
set_option maxRecDepth 100000 in
theorem w_1208 : Cond.fieldLink "StyleCourtModel" 133 "StyleCourtModel" "testAt" "[I" ∈ xws := xws_in (wt_5 (List.mem_of_getElem? (i := 180) rfl)) rfl
set_option maxRecDepth 100000 in
theorem w_1209 : Cond.fieldLink "StyleCourtModel" 136 "StyleCourtModel" "testLong" "[I" ∈ xws := xws_in (wt_5 (List.mem_of_getElem? (i := 181) rfl)) rfl
set_option maxRecDepth 100000 in
theorem w_1210 : Cond.fieldLink "StyleCourtModel" 139 "StyleCourtModel" "testText" "[I" ∈ xws := xws_in (wt_5 (List.mem_of_getElem? (i := 182) rfl)) rfl
set_option maxRecDepth 100000 in
theorem w_1211 : Cond.fieldLink "StyleCourtModel" 142 "StyleCourtModel" "testTextLong" "[I" ∈ xws := xws_in (wt_5 (List.mem_of_getElem? (i := 183) rfl)) rfl
set_option maxRecDepth 100000 in
theorem w_1212 : Cond.fieldLink "StyleCourtModel" 145 "StyleCourtModel" "testNumber" "[I" ∈ xws := xws_in (wt_5 (List.mem_of_getElem? (i := 184) rfl)) rfl
set_option maxRecDepth 100000 in
theorem w_1213 : Cond.fieldLink "StyleCourtModel" 373 "StyleCourtModel" "props" "I" ∈ xws := xws_in (wt_5 (List.mem_of_getElem? (i := 185) rfl)) rfl
set_option maxRecDepth 100000 in
theorem w_1214 : Cond.fieldLink "StyleCourtModel" 370 "StyleCourtModel" "names" "I" ∈ xws := xws_in (wt_5 (List.mem_of_getElem? (i := 186) rfl)) rfl
set_option maxRecDepth 100000 in
theorem w_1215 : Cond.fieldLink "StyleCourtModel" 148 "StyleCourtModel" "propName" "[I" ∈ xws := xws_in (wt_5 (List.mem_of_getElem? (i := 187) rfl)) rfl
set_option maxRecDepth 100000 in
theorem w_1216 : Cond.fieldLink "StyleCourtModel" 151 "StyleCourtModel" "propBody" "[I" ∈ xws := xws_in (wt_5 (List.mem_of_getElem? (i := 188) rfl)) rfl
set_option maxRecDepth 100000 in
theorem w_1217 : Cond.fieldLink "StyleCourtModel" 154 "StyleCourtModel" "propKind" "[I" ∈ xws := xws_in (wt_5 (List.mem_of_getElem? (i := 189) rfl)) rfl
set_option maxRecDepth 100000 in
theorem w_1218 : Cond.fieldLink "StyleCourtModel" 157 "StyleCourtModel" "propAt" "[I" ∈ xws := xws_in (wt_5 (List.mem_of_getElem? (i := 190) rfl)) rfl
set_option maxRecDepth 100000 in
theorem w_1219 : Cond.fieldLink "StyleCourtModel" 160 "StyleCourtModel" "propLong" "[I" ∈ xws := xws_in (wt_5 (List.mem_of_getElem? (i := 191) rfl)) rfl
set_option maxRecDepth 100000 in
theorem w_1220 : Cond.fieldLink "StyleCourtModel" 163 "StyleCourtModel" "propNumber" "[I" ∈ xws := xws_in (wt_5 (List.mem_of_getElem? (i := 192) rfl)) rfl
set_option maxRecDepth 100000 in
theorem w_1221 : Cond.fieldLink "StyleCourtModel" 166 "StyleCourtModel" "propFirst" "[Z" ∈ xws := xws_in (wt_5 (List.mem_of_getElem? (i := 193) rfl)) rfl
set_option maxRecDepth 100000 in
theorem w_1222 : Cond.fieldLink "StyleCourtModel" 169 "StyleCourtModel" "knownAt" "[I" ∈ xws := xws_in (wt_5 (List.mem_of_getElem? (i := 194) rfl)) rfl
set_option maxRecDepth 100000 in
theorem w_1223 : Cond.fieldLink "StyleCourtModel" 172 "StyleCourtModel" "knownLong" "[I" ∈ xws := xws_in (wt_5 (List.mem_of_getElem? (i := 195) rfl)) rfl
set_option maxRecDepth 100000 in
theorem w_1224 : Cond.fieldLink "StyleCourtModel" 391 "StyleCourtModel" "styleLong" "I" ∈ xws := xws_in (wt_5 (List.mem_of_getElem? (i := 196) rfl)) rfl
set_option maxRecDepth 100000 in
theorem w_1225 : Cond.fieldLink "StyleCourtModel" 175 "StyleCourtModel" "good" "[Z" ∈ xws := xws_in (wt_5 (List.mem_of_getElem? (i := 197) rfl)) rfl
set_option maxRecDepth 100000 in
theorem w_1226 : Cond.fieldLink "StyleCourtModel" 178 "StyleCourtModel" "ahead" "[Z" ∈ xws := xws_in (wt_5 (List.mem_of_getElem? (i := 198) rfl)) rfl
set_option maxRecDepth 100000 in
theorem w_1227 : Cond.fieldLink "StyleCourtModel" 181 "StyleCourtModel" "isFit" "[Z" ∈ xws := xws_in (wt_5 (List.mem_of_getElem? (i := 199) rfl)) rfl
set_option maxRecDepth 100000 in
theorem w_1228 : Cond.fieldLink "StyleCourtModel" 184 "StyleCourtModel" "way" "[I" ∈ xws := xws_in (wt_5 (List.mem_of_getElem? (i := 200) rfl)) rfl
set_option maxRecDepth 100000 in
theorem w_1229 : Cond.fieldLink "StyleCourtModel" 446 "StyleCourtModel" "latestHeavy" "I" ∈ xws := xws_in (wt_5 (List.mem_of_getElem? (i := 201) rfl)) rfl
set_option maxRecDepth 100000 in
theorem w_1401 : Cond.arrayClass .boolean ∈ xws := xws_in (wt_6 (List.mem_of_getElem? (i := 133) rfl)) rfl
set_option maxRecDepth 100000 in
theorem w_1402 : Cond.methodLink "StyleCourtLaw" 69 y_Mo_thrown ∈ xws := xws_in (wt_6 (List.mem_of_getElem? (i := 134) rfl)) rfl
set_option maxRecDepth 100000 in
theorem w_1403 : Cond.instanceMethod y_Mo_thrown ∈ xws := xws_in (wt_6 (List.mem_of_getElem? (i := 135) rfl)) rfl
set_option maxRecDepth 100000 in
theorem w_1404 : Cond.selects "StyleCourtModel" y_Mo_thrown y_Mo_thrown ∈ xws := xws_in (wt_6 (List.mem_of_getElem? (i := 136) rfl)) rfl
set_option maxRecDepth 100000 in
theorem w_1405 : Cond.code y_Mo_thrown prog_14_method_2_code 1 (some .int) ∈ xws := xws_in (wt_6 (List.mem_of_getElem? (i := 137) rfl)) rfl
set_option maxRecDepth 100000 in
theorem w_1406 : Cond.methodLink "StyleCourtLaw" 68 y_Mo_feed ∈ xws := xws_in (wt_6 (List.mem_of_getElem? (i := 138) rfl)) rfl
set_option maxRecDepth 100000 in
theorem w_1407 : Cond.instanceMethod y_Mo_feed ∈ xws := xws_in (wt_6 (List.mem_of_getElem? (i := 139) rfl)) rfl
set_option maxRecDepth 100000 in
theorem w_1408 : Cond.selects "StyleCourtModel" y_Mo_feed y_Mo_feed ∈ xws := xws_in (wt_6 (List.mem_of_getElem? (i := 140) rfl)) rfl
set_option maxRecDepth 100000 in
theorem w_1409 : Cond.code y_Mo_feed prog_14_method_8_code 6 (some .int) ∈ xws := xws_in (wt_6 (List.mem_of_getElem? (i := 141) rfl)) rfl
set_option maxRecDepth 100000 in
theorem w_1410 : Cond.methodLink "StyleCourtModel" 193 y_Mo_refuse ∈ xws := xws_in (wt_6 (List.mem_of_getElem? (i := 142) rfl)) rfl
set_option maxRecDepth 100000 in
theorem w_1412 : Cond.instanceMethod y_Mo_refuse ∈ xws := xws_in (wt_6 (List.mem_of_getElem? (i := 144) rfl)) rfl
set_option maxRecDepth 100000 in
theorem w_1413 : Cond.code y_Mo_refuse prog_14_method_3_code 2 (some .int) ∈ xws := xws_in (wt_6 (List.mem_of_getElem? (i := 145) rfl)) rfl
set_option maxRecDepth 100000 in
theorem w_1414 : Cond.methodLink "StyleCourtModel" 197 y_Mo_four ∈ xws := xws_in (wt_6 (List.mem_of_getElem? (i := 146) rfl)) rfl
set_option maxRecDepth 100000 in
theorem w_1416 : Cond.instanceMethod y_Mo_four ∈ xws := xws_in (wt_6 (List.mem_of_getElem? (i := 148) rfl)) rfl
set_option maxRecDepth 100000 in
theorem w_1417 : Cond.code y_Mo_four prog_14_method_9_code 3 none ∈ xws := xws_in (wt_6 (List.mem_of_getElem? (i := 149) rfl)) rfl
set_option maxRecDepth 100000 in
theorem w_1418 : Cond.methodLink "StyleCourtLaw" 75 y_Mo_end ∈ xws := xws_in (wt_6 (List.mem_of_getElem? (i := 150) rfl)) rfl
set_option maxRecDepth 100000 in
theorem w_1419 : Cond.instanceMethod y_Mo_end ∈ xws := xws_in (wt_6 (List.mem_of_getElem? (i := 151) rfl)) rfl
set_option maxRecDepth 100000 in
theorem w_1420 : Cond.selects "StyleCourtModel" y_Mo_end y_Mo_end ∈ xws := xws_in (wt_6 (List.mem_of_getElem? (i := 152) rfl)) rfl
set_option maxRecDepth 100000 in
theorem w_1421 : Cond.code y_Mo_end prog_14_method_10_code 2 (some .int) ∈ xws := xws_in (wt_6 (List.mem_of_getElem? (i := 153) rfl)) rfl
set_option maxRecDepth 100000 in
theorem w_1422 : Cond.methodLink "StyleCourtModel" 201 y_Mo_in ∈ xws := xws_in (wt_6 (List.mem_of_getElem? (i := 154) rfl)) rfl
set_option maxRecDepth 100000 in
theorem w_1423 : Cond.static y_Mo_in ∈ xws := xws_in (wt_6 (List.mem_of_getElem? (i := 155) rfl)) rfl
set_option maxRecDepth 100000 in
theorem w_1424 : Cond.code y_Mo_in prog_14_method_4_code 3 (some .boolean) ∈ xws := xws_in (wt_6 (List.mem_of_getElem? (i := 156) rfl)) rfl
set_option maxRecDepth 100000 in
theorem w_1425 : Cond.methodLink "StyleCourtLaw" 79 y_Mo_source ∈ xws := xws_in (wt_6 (List.mem_of_getElem? (i := 157) rfl)) rfl
set_option maxRecDepth 100000 in
theorem w_1426 : Cond.instanceMethod y_Mo_source ∈ xws := xws_in (wt_6 (List.mem_of_getElem? (i := 158) rfl)) rfl
set_option maxRecDepth 100000 in
theorem w_1427 : Cond.selects "StyleCourtModel" y_Mo_source y_Mo_source ∈ xws := xws_in (wt_6 (List.mem_of_getElem? (i := 159) rfl)) rfl
set_option maxRecDepth 100000 in
theorem w_1428 : Cond.code y_Mo_source prog_14_method_30_code 3 (some .int) ∈ xws := xws_in (wt_6 (List.mem_of_getElem? (i := 160) rfl)) rfl
set_option maxRecDepth 100000 in
theorem w_1429 : Cond.methodLink "StyleCourtModel" 305 y_Mo_take ∈ xws := xws_in (wt_6 (List.mem_of_getElem? (i := 161) rfl)) rfl
set_option maxRecDepth 100000 in
theorem w_1431 : Cond.instanceMethod y_Mo_take ∈ xws := xws_in (wt_6 (List.mem_of_getElem? (i := 163) rfl)) rfl
set_option maxRecDepth 100000 in
theorem w_1432 : Cond.code y_Mo_take prog_14_method_11_code 3 none ∈ xws := xws_in (wt_6 (List.mem_of_getElem? (i := 164) rfl)) rfl
set_option maxRecDepth 100000 in
theorem w_1433 : Cond.methodLink "StyleCourtModel" 308 y_Mo_readSource ∈ xws := xws_in (wt_6 (List.mem_of_getElem? (i := 165) rfl)) rfl
set_option maxRecDepth 100000 in
theorem w_1435 : Cond.instanceMethod y_Mo_readSource ∈ xws := xws_in (wt_6 (List.mem_of_getElem? (i := 167) rfl)) rfl
set_option maxRecDepth 100000 in
theorem w_1436 : Cond.code y_Mo_readSource prog_14_method_29_code 4 none ∈ xws := xws_in (wt_6 (List.mem_of_getElem? (i := 168) rfl)) rfl
set_option maxRecDepth 100000 in
theorem w_1437 : Cond.methodLink "StyleCourtModel" 214 y_Mo_byteAt ∈ xws := xws_in (wt_6 (List.mem_of_getElem? (i := 169) rfl)) rfl
set_option maxRecDepth 100000 in
theorem w_1439 : Cond.instanceMethod y_Mo_byteAt ∈ xws := xws_in (wt_6 (List.mem_of_getElem? (i := 171) rfl)) rfl
set_option maxRecDepth 100000 in
theorem w_1440 : Cond.code y_Mo_byteAt prog_14_method_13_code 2 (some .int) ∈ xws := xws_in (wt_6 (List.mem_of_getElem? (i := 172) rfl)) rfl
set_option maxRecDepth 100000 in
theorem w_1441 : Cond.methodLink "StyleCourtModel" 287 y_Mo_closed ∈ xws := xws_in (wt_6 (List.mem_of_getElem? (i := 173) rfl)) rfl
set_option maxRecDepth 100000 in
theorem w_1443 : Cond.instanceMethod y_Mo_closed ∈ xws := xws_in (wt_6 (List.mem_of_getElem? (i := 175) rfl)) rfl
set_option maxRecDepth 100000 in
theorem w_1444 : Cond.code y_Mo_closed prog_14_method_28_code 4 (some .int) ∈ xws := xws_in (wt_6 (List.mem_of_getElem? (i := 176) rfl)) rfl
set_option maxRecDepth 100000 in
theorem w_1445 : Cond.methodLink "StyleCourtModel" 221 y_Mo_wrong ∈ xws := xws_in (wt_6 (List.mem_of_getElem? (i := 177) rfl)) rfl
set_option maxRecDepth 100000 in
theorem w_1447 : Cond.instanceMethod y_Mo_wrong ∈ xws := xws_in (wt_6 (List.mem_of_getElem? (i := 179) rfl)) rfl
set_option maxRecDepth 100000 in
theorem w_1448 : Cond.code y_Mo_wrong prog_14_method_12_code 2 none ∈ xws := xws_in (wt_6 (List.mem_of_getElem? (i := 180) rfl)) rfl
set_option maxRecDepth 100000 in
theorem w_1449 : Cond.methodLink "StyleCourtModel" 251 y_Mo_nameFrom ∈ xws := xws_in (wt_6 (List.mem_of_getElem? (i := 181) rfl)) rfl
set_option maxRecDepth 100000 in
theorem w_1451 : Cond.instanceMethod y_Mo_nameFrom ∈ xws := xws_in (wt_6 (List.mem_of_getElem? (i := 183) rfl)) rfl
set_option maxRecDepth 100000 in
theorem w_1452 : Cond.code y_Mo_nameFrom prog_14_method_16_code 3 (some .int) ∈ xws := xws_in (wt_6 (List.mem_of_getElem? (i := 184) rfl)) rfl
set_option maxRecDepth 100000 in
theorem w_1453 : Cond.methodLink "StyleCourtModel" 217 y_Mo_isSmall ∈ xws := xws_in (wt_6 (List.mem_of_getElem? (i := 185) rfl)) rfl
set_option maxRecDepth 100000 in
theorem w_1454 : Cond.static y_Mo_isSmall ∈ xws := xws_in (wt_6 (List.mem_of_getElem? (i := 186) rfl)) rfl
set_option maxRecDepth 100000 in
theorem w_1455 : Cond.code y_Mo_isSmall prog_14_method_5_code 1 (some .boolean) ∈ xws := xws_in (wt_6 (List.mem_of_getElem? (i := 187) rfl)) rfl
set_option maxRecDepth 100000 in
theorem w_1456 : Cond.methodLink "StyleCourtModel" 224 y_Mo_isDigit ∈ xws := xws_in (wt_6 (List.mem_of_getElem? (i := 188) rfl)) rfl
set_option maxRecDepth 100000 in
theorem w_1457 : Cond.static y_Mo_isDigit ∈ xws := xws_in (wt_6 (List.mem_of_getElem? (i := 189) rfl)) rfl
set_option maxRecDepth 100000 in
theorem w_1458 : Cond.code y_Mo_isDigit prog_14_method_6_code 1 (some .boolean) ∈ xws := xws_in (wt_6 (List.mem_of_getElem? (i := 190) rfl)) rfl
set_option maxRecDepth 100000 in
theorem w_1459 : Cond.methodLink "StyleCourtModel" 239 y_Mo_same ∈ xws := xws_in (wt_6 (List.mem_of_getElem? (i := 191) rfl)) rfl
set_option maxRecDepth 100000 in
theorem w_1461 : Cond.instanceMethod y_Mo_same ∈ xws := xws_in (wt_6 (List.mem_of_getElem? (i := 193) rfl)) rfl
set_option maxRecDepth 100000 in
theorem w_1462 : Cond.code y_Mo_same prog_14_method_14_code 6 (some .boolean) ∈ xws := xws_in (wt_6 (List.mem_of_getElem? (i := 194) rfl)) rfl
set_option maxRecDepth 100000 in
theorem w_1463 : Cond.methodLink "StyleCourtModel" 266 y_Mo_blanks ∈ xws := xws_in (wt_6 (List.mem_of_getElem? (i := 195) rfl)) rfl
set_option maxRecDepth 100000 in
theorem w_1465 : Cond.instanceMethod y_Mo_blanks ∈ xws := xws_in (wt_6 (List.mem_of_getElem? (i := 197) rfl)) rfl
set_option maxRecDepth 100000 in
theorem w_1466 : Cond.code y_Mo_blanks prog_14_method_18_code 1 none ∈ xws := xws_in (wt_6 (List.mem_of_getElem? (i := 198) rfl)) rfl
set_option maxRecDepth 100000 in
theorem w_1467 : Cond.methodLink "StyleCourtModel" 230 y_Mo_isBlank ∈ xws := xws_in (wt_6 (List.mem_of_getElem? (i := 199) rfl)) rfl
set_option maxRecDepth 100000 in
theorem w_1468 : Cond.static y_Mo_isBlank ∈ xws := xws_in (wt_6 (List.mem_of_getElem? (i := 200) rfl)) rfl
set_option maxRecDepth 100000 in
theorem w_1469 : Cond.code y_Mo_isBlank prog_14_method_7_code 1 (some .boolean) ∈ xws := xws_in (wt_6 (List.mem_of_getElem? (i := 201) rfl)) rfl
set_option maxRecDepth 100000 in
theorem w_1470 : Cond.methodLink "StyleCourtModel" 290 y_Mo_comment ∈ xws := xws_in (wt_6 (List.mem_of_getElem? (i := 202) rfl)) rfl
set_option maxRecDepth 100000 in
theorem w_1472 : Cond.instanceMethod y_Mo_comment ∈ xws := xws_in (wt_6 (List.mem_of_getElem? (i := 204) rfl)) rfl
set_option maxRecDepth 100000 in
theorem w_1473 : Cond.code y_Mo_comment prog_14_method_25_code 2 none ∈ xws := xws_in (wt_6 (List.mem_of_getElem? (i := 205) rfl)) rfl
set_option maxRecDepth 100000 in
theorem w_1474 : Cond.methodLink "StyleCourtModel" 293 y_Mo_defined ∈ xws := xws_in (wt_6 (List.mem_of_getElem? (i := 206) rfl)) rfl
set_option maxRecDepth 100000 in
theorem w_1476 : Cond.instanceMethod y_Mo_defined ∈ xws := xws_in (wt_6 (List.mem_of_getElem? (i := 208) rfl)) rfl
set_option maxRecDepth 100000 in
theorem w_1477 : Cond.code y_Mo_defined prog_14_method_23_code 5 none ∈ xws := xws_in (wt_6 (List.mem_of_getElem? (i := 209) rfl)) rfl
set_option maxRecDepth 100000 in
theorem w_1478 : Cond.methodLink "StyleCourtModel" 258 y_Mo_isFixed ∈ xws := xws_in (wt_6 (List.mem_of_getElem? (i := 210) rfl)) rfl
set_option maxRecDepth 100000 in
theorem w_1480 : Cond.instanceMethod y_Mo_isFixed ∈ xws := xws_in (wt_6 (List.mem_of_getElem? (i := 212) rfl)) rfl
set_option maxRecDepth 100000 in
theorem w_1481 : Cond.code y_Mo_isFixed prog_14_method_21_code 3 (some .boolean) ∈ xws := xws_in (wt_6 (List.mem_of_getElem? (i := 213) rfl)) rfl
set_option maxRecDepth 100000 in
theorem w_1482 : Cond.constantLong "StyleCourtModel" 243 27764 ∈ xws := xws_in (wt_6 (List.mem_of_getElem? (i := 214) rfl)) rfl
set_option maxRecDepth 100000 in
theorem w_1483 : Cond.methodLink "StyleCourtModel" 245 y_Mo_isWord ∈ xws := xws_in (wt_6 (List.mem_of_getElem? (i := 215) rfl)) rfl
set_option maxRecDepth 100000 in
theorem w_1485 : Cond.instanceMethod y_Mo_isWord ∈ xws := xws_in (wt_6 (List.mem_of_getElem? (i := 217) rfl)) rfl
set_option maxRecDepth 100000 in
theorem w_1486 : Cond.code y_Mo_isWord prog_14_method_15_code 8 (some .boolean) ∈ xws := xws_in (wt_6 (List.mem_of_getElem? (i := 218) rfl)) rfl
set_option maxRecDepth 100000 in
theorem w_1487 : Cond.constantLong "StyleCourtModel" 249 6385008 ∈ xws := xws_in (wt_6 (List.mem_of_getElem? (i := 219) rfl)) rfl
set_option maxRecDepth 100000 in
theorem w_1488 : Cond.methodLink "StyleCourtModel" 254 y_Mo_entity ∈ xws := xws_in (wt_6 (List.mem_of_getElem? (i := 220) rfl)) rfl
set_option maxRecDepth 100000 in
theorem w_1490 : Cond.instanceMethod y_Mo_entity ∈ xws := xws_in (wt_6 (List.mem_of_getElem? (i := 222) rfl)) rfl
set_option maxRecDepth 100000 in
theorem w_1491 : Cond.code y_Mo_entity prog_14_method_20_code 4 (some .int) ∈ xws := xws_in (wt_6 (List.mem_of_getElem? (i := 223) rfl)) rfl
set_option maxRecDepth 100000 in
theorem w_1492 : Cond.methodLink "StyleCourtModel" 269 y_Mo_stringFrom ∈ xws := xws_in (wt_6 (List.mem_of_getElem? (i := 224) rfl)) rfl
set_option maxRecDepth 100000 in
theorem w_1494 : Cond.instanceMethod y_Mo_stringFrom ∈ xws := xws_in (wt_6 (List.mem_of_getElem? (i := 226) rfl)) rfl
set_option maxRecDepth 100000 in
theorem w_1495 : Cond.code y_Mo_stringFrom prog_14_method_17_code 3 (some .int) ∈ xws := xws_in (wt_6 (List.mem_of_getElem? (i := 227) rfl)) rfl
set_option maxRecDepth 100000 in
theorem w_1496 : Cond.methodLink "StyleCourtModel" 272 y_Mo_behindString ∈ xws := xws_in (wt_6 (List.mem_of_getElem? (i := 228) rfl)) rfl
set_option maxRecDepth 100000 in
theorem w_1498 : Cond.instanceMethod y_Mo_behindString ∈ xws := xws_in (wt_6 (List.mem_of_getElem? (i := 230) rfl)) rfl
set_option maxRecDepth 100000 in
theorem w_1499 : Cond.code y_Mo_behindString prog_14_method_24_code 3 (some .int) ∈ xws := xws_in (wt_6 (List.mem_of_getElem? (i := 231) rfl)) rfl
set_option maxRecDepth 100000 in
theorem w_1500 : Cond.methodLink "StyleCourtModel" 296 y_Mo_opened ∈ xws := xws_in (wt_6 (List.mem_of_getElem? (i := 232) rfl)) rfl
set_option maxRecDepth 100000 in
theorem w_1502 : Cond.instanceMethod y_Mo_opened ∈ xws := xws_in (wt_6 (List.mem_of_getElem? (i := 234) rfl)) rfl
set_option maxRecDepth 100000 in
theorem w_1503 : Cond.code y_Mo_opened prog_14_method_26_code 8 (some .int) ∈ xws := xws_in (wt_6 (List.mem_of_getElem? (i := 235) rfl)) rfl
set_option maxRecDepth 100000 in
theorem w_1504 : Cond.methodLink "StyleCourtModel" 284 y_Mo_field ∈ xws := xws_in (wt_6 (List.mem_of_getElem? (i := 236) rfl)) rfl
set_option maxRecDepth 100000 in
theorem w_1506 : Cond.instanceMethod y_Mo_field ∈ xws := xws_in (wt_6 (List.mem_of_getElem? (i := 238) rfl)) rfl
set_option maxRecDepth 100000 in
theorem w_1507 : Cond.code y_Mo_field prog_14_method_27_code 6 none ∈ xws := xws_in (wt_6 (List.mem_of_getElem? (i := 239) rfl)) rfl
set_option maxRecDepth 100000 in
theorem w_1508 : Cond.methodLink "StyleCourtModel" 299 y_Mo_reference ∈ xws := xws_in (wt_7 (List.mem_of_getElem? (i := 0) rfl)) rfl
set_option maxRecDepth 100000 in
theorem w_1510 : Cond.instanceMethod y_Mo_reference ∈ xws := xws_in (wt_7 (List.mem_of_getElem? (i := 2) rfl)) rfl
set_option maxRecDepth 100000 in
theorem w_1511 : Cond.code y_Mo_reference prog_14_method_22_code 7 none ∈ xws := xws_in (wt_7 (List.mem_of_getElem? (i := 3) rfl)) rfl
set_option maxRecDepth 100000 in
theorem w_1512 : Cond.methodLink "StyleCourtModel" 262 y_Mo_piece ∈ xws := xws_in (wt_7 (List.mem_of_getElem? (i := 4) rfl)) rfl
set_option maxRecDepth 100000 in
theorem w_1514 : Cond.instanceMethod y_Mo_piece ∈ xws := xws_in (wt_7 (List.mem_of_getElem? (i := 6) rfl)) rfl
set_option maxRecDepth 100000 in
theorem w_1515 : Cond.code y_Mo_piece prog_14_method_19_code 4 none ∈ xws := xws_in (wt_7 (List.mem_of_getElem? (i := 7) rfl)) rfl
set_option maxRecDepth 100000 in
theorem w_1516 : Cond.methodLink "StyleCourtLaw" 82 y_Mo_style ∈ xws := xws_in (wt_7 (List.mem_of_getElem? (i := 8) rfl)) rfl
set_option maxRecDepth 100000 in
theorem w_1517 : Cond.instanceMethod y_Mo_style ∈ xws := xws_in (wt_7 (List.mem_of_getElem? (i := 9) rfl)) rfl
set_option maxRecDepth 100000 in
theorem w_1518 : Cond.selects "StyleCourtModel" y_Mo_style y_Mo_style ∈ xws := xws_in (wt_7 (List.mem_of_getElem? (i := 10) rfl)) rfl
set_option maxRecDepth 100000 in
theorem w_1519 : Cond.code y_Mo_style prog_14_method_43_code 3 (some .int) ∈ xws := xws_in (wt_7 (List.mem_of_getElem? (i := 11) rfl)) rfl
set_option maxRecDepth 100000 in
theorem w_1520 : Cond.methodLink "StyleCourtModel" 394 y_Mo_readStyle ∈ xws := xws_in (wt_7 (List.mem_of_getElem? (i := 12) rfl)) rfl
set_option maxRecDepth 100000 in
theorem w_1522 : Cond.instanceMethod y_Mo_readStyle ∈ xws := xws_in (wt_7 (List.mem_of_getElem? (i := 14) rfl)) rfl
set_option maxRecDepth 100000 in
theorem w_1523 : Cond.code y_Mo_readStyle prog_14_method_42_code 4 none ∈ xws := xws_in (wt_7 (List.mem_of_getElem? (i := 15) rfl)) rfl
set_option maxRecDepth 100000 in
theorem w_1524 : Cond.methodLink "StyleCourtModel" 335 y_Mo_next ∈ xws := xws_in (wt_7 (List.mem_of_getElem? (i := 16) rfl)) rfl
set_option maxRecDepth 100000 in
theorem w_1526 : Cond.instanceMethod y_Mo_next ∈ xws := xws_in (wt_7 (List.mem_of_getElem? (i := 18) rfl)) rfl
set_option maxRecDepth 100000 in
theorem w_1527 : Cond.code y_Mo_next prog_14_method_31_code 2 none ∈ xws := xws_in (wt_7 (List.mem_of_getElem? (i := 19) rfl)) rfl
set_option maxRecDepth 100000 in
theorem w_1528 : Cond.methodLink "StyleCourtModel" 385 y_Mo_selector ∈ xws := xws_in (wt_7 (List.mem_of_getElem? (i := 20) rfl)) rfl
set_option maxRecDepth 100000 in
theorem w_1530 : Cond.instanceMethod y_Mo_selector ∈ xws := xws_in (wt_7 (List.mem_of_getElem? (i := 22) rfl)) rfl
set_option maxRecDepth 100000 in
theorem w_1531 : Cond.code y_Mo_selector prog_14_method_38_code 3 none ∈ xws := xws_in (wt_7 (List.mem_of_getElem? (i := 23) rfl)) rfl
set_option maxRecDepth 100000 in
theorem w_1532 : Cond.methodLink "StyleCourtModel" 366 y_Mo_step ∈ xws := xws_in (wt_7 (List.mem_of_getElem? (i := 24) rfl)) rfl
set_option maxRecDepth 100000 in
theorem w_1534 : Cond.instanceMethod y_Mo_step ∈ xws := xws_in (wt_7 (List.mem_of_getElem? (i := 26) rfl)) rfl
set_option maxRecDepth 100000 in
theorem w_1535 : Cond.code y_Mo_step prog_14_method_37_code 4 none ∈ xws := xws_in (wt_7 (List.mem_of_getElem? (i := 27) rfl)) rfl
set_option maxRecDepth 100000 in
theorem w_1536 : Cond.methodLink "StyleCourtModel" 332 y_Mo_isSign ∈ xws := xws_in (wt_7 (List.mem_of_getElem? (i := 28) rfl)) rfl
set_option maxRecDepth 100000 in
theorem w_1538 : Cond.instanceMethod y_Mo_isSign ∈ xws := xws_in (wt_7 (List.mem_of_getElem? (i := 30) rfl)) rfl
set_option maxRecDepth 100000 in
theorem w_1539 : Cond.code y_Mo_isSign prog_14_method_32_code 2 (some .boolean) ∈ xws := xws_in (wt_7 (List.mem_of_getElem? (i := 31) rfl)) rfl
set_option maxRecDepth 100000 in
theorem w_1540 : Cond.methodLink "StyleCourtModel" 360 y_Mo_bracket ∈ xws := xws_in (wt_7 (List.mem_of_getElem? (i := 32) rfl)) rfl
set_option maxRecDepth 100000 in
theorem w_1542 : Cond.instanceMethod y_Mo_bracket ∈ xws := xws_in (wt_7 (List.mem_of_getElem? (i := 34) rfl)) rfl
set_option maxRecDepth 100000 in
theorem w_1543 : Cond.code y_Mo_bracket prog_14_method_35_code 1 none ∈ xws := xws_in (wt_7 (List.mem_of_getElem? (i := 35) rfl)) rfl
set_option maxRecDepth 100000 in
theorem w_1544 : Cond.methodLink "StyleCourtModel" 338 y_Mo_needKind ∈ xws := xws_in (wt_7 (List.mem_of_getElem? (i := 36) rfl)) rfl
set_option maxRecDepth 100000 in
theorem w_1546 : Cond.instanceMethod y_Mo_needKind ∈ xws := xws_in (wt_7 (List.mem_of_getElem? (i := 38) rfl)) rfl
set_option maxRecDepth 100000 in
theorem w_1547 : Cond.code y_Mo_needKind prog_14_method_34_code 2 none ∈ xws := xws_in (wt_7 (List.mem_of_getElem? (i := 39) rfl)) rfl
set_option maxRecDepth 100000 in
theorem w_1548 : Cond.methodLink "StyleCourtModel" 344 y_Mo_need ∈ xws := xws_in (wt_7 (List.mem_of_getElem? (i := 40) rfl)) rfl
set_option maxRecDepth 100000 in
theorem w_1550 : Cond.instanceMethod y_Mo_need ∈ xws := xws_in (wt_7 (List.mem_of_getElem? (i := 42) rfl)) rfl
set_option maxRecDepth 100000 in
theorem w_1551 : Cond.code y_Mo_need prog_14_method_33_code 2 none ∈ xws := xws_in (wt_7 (List.mem_of_getElem? (i := 43) rfl)) rfl
set_option maxRecDepth 100000 in
theorem w_1552 : Cond.methodLink "StyleCourtModel" 363 y_Mo_colon ∈ xws := xws_in (wt_7 (List.mem_of_getElem? (i := 44) rfl)) rfl
set_option maxRecDepth 100000 in
theorem w_1554 : Cond.instanceMethod y_Mo_colon ∈ xws := xws_in (wt_7 (List.mem_of_getElem? (i := 46) rfl)) rfl
set_option maxRecDepth 100000 in
theorem w_1555 : Cond.code y_Mo_colon prog_14_method_36_code 4 none ∈ xws := xws_in (wt_7 (List.mem_of_getElem? (i := 47) rfl)) rfl
set_option maxRecDepth 100000 in
theorem w_1556 : Cond.constantLong "StyleCourtModel" 347 439855772532 ∈ xws := xws_in (wt_7 (List.mem_of_getElem? (i := 48) rfl)) rfl
set_option maxRecDepth 100000 in
theorem w_1557 : Cond.constantLong "StyleCourtModel" 349 1818325876 ∈ xws := xws_in (wt_7 (List.mem_of_getElem? (i := 49) rfl)) rfl
set_option maxRecDepth 100000 in
theorem w_1558 : Cond.constantLong "StyleCourtModel" 351 435627783289 ∈ xws := xws_in (wt_7 (List.mem_of_getElem? (i := 50) rfl)) rfl
set_option maxRecDepth 100000 in
theorem w_1559 : Cond.constantLong "StyleCourtModel" 353 7238760 ∈ xws := xws_in (wt_7 (List.mem_of_getElem? (i := 51) rfl)) rfl
set_option maxRecDepth 100000 in
theorem w_1560 : Cond.constantLong "StyleCourtModel" 355 7237492 ∈ xws := xws_in (wt_7 (List.mem_of_getElem? (i := 52) rfl)) rfl
set_option maxRecDepth 100000 in
theorem w_1561 : Cond.methodLink "StyleCourtModel" 388 y_Mo_body ∈ xws := xws_in (wt_7 (List.mem_of_getElem? (i := 53) rfl)) rfl
set_option maxRecDepth 100000 in
theorem w_1563 : Cond.instanceMethod y_Mo_body ∈ xws := xws_in (wt_7 (List.mem_of_getElem? (i := 55) rfl)) rfl
set_option maxRecDepth 100000 in
theorem w_1564 : Cond.code y_Mo_body prog_14_method_41_code 3 none ∈ xws := xws_in (wt_7 (List.mem_of_getElem? (i := 56) rfl)) rfl
set_option maxRecDepth 100000 in
theorem w_1565 : Cond.methodLink "StyleCourtModel" 376 y_Mo_known ∈ xws := xws_in (wt_7 (List.mem_of_getElem? (i := 57) rfl)) rfl
set_option maxRecDepth 100000 in
theorem w_1567 : Cond.instanceMethod y_Mo_known ∈ xws := xws_in (wt_7 (List.mem_of_getElem? (i := 59) rfl)) rfl
set_option maxRecDepth 100000 in
theorem w_1568 : Cond.code y_Mo_known prog_14_method_39_code 4 (some .int) ∈ xws := xws_in (wt_7 (List.mem_of_getElem? (i := 60) rfl)) rfl
set_option maxRecDepth 100000 in
theorem w_1569 : Cond.methodLink "StyleCourtModel" 379 y_Mo_oneValue ∈ xws := xws_in (wt_7 (List.mem_of_getElem? (i := 61) rfl)) rfl
set_option maxRecDepth 100000 in
theorem w_1571 : Cond.instanceMethod y_Mo_oneValue ∈ xws := xws_in (wt_7 (List.mem_of_getElem? (i := 63) rfl)) rfl
set_option maxRecDepth 100000 in
theorem w_1572 : Cond.code y_Mo_oneValue prog_14_method_40_code 4 none ∈ xws := xws_in (wt_7 (List.mem_of_getElem? (i := 64) rfl)) rfl
set_option maxRecDepth 100000 in
theorem w_1573 : Cond.methodLink "StyleCourtLaw" 86 y_Mo_place ∈ xws := xws_in (wt_7 (List.mem_of_getElem? (i := 65) rfl)) rfl
set_option maxRecDepth 100000 in
theorem w_1574 : Cond.instanceMethod y_Mo_place ∈ xws := xws_in (wt_7 (List.mem_of_getElem? (i := 66) rfl)) rfl
set_option maxRecDepth 100000 in
theorem w_1575 : Cond.selects "StyleCourtModel" y_Mo_place y_Mo_place ∈ xws := xws_in (wt_7 (List.mem_of_getElem? (i := 67) rfl)) rfl
set_option maxRecDepth 100000 in
theorem w_1576 : Cond.code y_Mo_place prog_14_method_44_code 1 (some .int) ∈ xws := xws_in (wt_7 (List.mem_of_getElem? (i := 68) rfl)) rfl
set_option maxRecDepth 100000 in
theorem w_1577 : Cond.methodLink "StyleCourtLaw" 92 y_Mo_by ∈ xws := xws_in (wt_7 (List.mem_of_getElem? (i := 69) rfl)) rfl
set_option maxRecDepth 100000 in
theorem w_1578 : Cond.instanceMethod y_Mo_by ∈ xws := xws_in (wt_7 (List.mem_of_getElem? (i := 70) rfl)) rfl
set_option maxRecDepth 100000 in
theorem w_1579 : Cond.selects "StyleCourtModel" y_Mo_by y_Mo_by ∈ xws := xws_in (wt_7 (List.mem_of_getElem? (i := 71) rfl)) rfl
set_option maxRecDepth 100000 in
theorem w_1580 : Cond.code y_Mo_by prog_14_method_53_code 3 (some .int) ∈ xws := xws_in (wt_7 (List.mem_of_getElem? (i := 72) rfl)) rfl
set_option maxRecDepth 100000 in
theorem w_1581 : Cond.methodLink "StyleCourtModel" 414 y_Mo_asked ∈ xws := xws_in (wt_7 (List.mem_of_getElem? (i := 73) rfl)) rfl
set_option maxRecDepth 100000 in
theorem w_1583 : Cond.instanceMethod y_Mo_asked ∈ xws := xws_in (wt_7 (List.mem_of_getElem? (i := 75) rfl)) rfl
set_option maxRecDepth 100000 in
theorem w_1584 : Cond.code y_Mo_asked prog_14_method_52_code 1 (some .int) ∈ xws := xws_in (wt_7 (List.mem_of_getElem? (i := 76) rfl)) rfl
set_option maxRecDepth 100000 in
theorem w_1585 : Cond.constant "StyleCourtModel" 413 40000 ∈ xws := xws_in (wt_7 (List.mem_of_getElem? (i := 77) rfl)) rfl
set_option maxRecDepth 100000 in
theorem w_1586 : Cond.methodLink "StyleCourtModel" 418 y_Mo_isThere ∈ xws := xws_in (wt_7 (List.mem_of_getElem? (i := 78) rfl)) rfl
set_option maxRecDepth 100000 in
theorem w_1588 : Cond.instanceMethod y_Mo_isThere ∈ xws := xws_in (wt_7 (List.mem_of_getElem? (i := 80) rfl)) rfl
set_option maxRecDepth 100000 in
theorem w_1589 : Cond.code y_Mo_isThere prog_14_method_51_code 2 (some .boolean) ∈ xws := xws_in (wt_7 (List.mem_of_getElem? (i := 81) rfl)) rfl
set_option maxRecDepth 100000 in
theorem w_1590 : Cond.methodLink "StyleCourtModel" 421 y_Mo_counts ∈ xws := xws_in (wt_7 (List.mem_of_getElem? (i := 82) rfl)) rfl
set_option maxRecDepth 100000 in
theorem w_1592 : Cond.instanceMethod y_Mo_counts ∈ xws := xws_in (wt_7 (List.mem_of_getElem? (i := 84) rfl)) rfl
set_option maxRecDepth 100000 in
theorem w_1593 : Cond.code y_Mo_counts prog_14_method_50_code 8 (some .int) ∈ xws := xws_in (wt_7 (List.mem_of_getElem? (i := 85) rfl)) rfl
set_option maxRecDepth 100000 in
theorem w_1594 : Cond.methodLink "StyleCourtModel" 410 y_Mo_selectorFits ∈ xws := xws_in (wt_7 (List.mem_of_getElem? (i := 86) rfl)) rfl
set_option maxRecDepth 100000 in
theorem w_1596 : Cond.instanceMethod y_Mo_selectorFits ∈ xws := xws_in (wt_7 (List.mem_of_getElem? (i := 88) rfl)) rfl
set_option maxRecDepth 100000 in
theorem w_1597 : Cond.code y_Mo_selectorFits prog_14_method_49_code 8 (some .boolean) ∈ xws := xws_in (wt_7 (List.mem_of_getElem? (i := 89) rfl)) rfl
set_option maxRecDepth 100000 in
theorem w_1598 : Cond.methodLink "StyleCourtModel" 407 y_Mo_stepFits ∈ xws := xws_in (wt_7 (List.mem_of_getElem? (i := 90) rfl)) rfl
set_option maxRecDepth 100000 in
theorem w_1600 : Cond.instanceMethod y_Mo_stepFits ∈ xws := xws_in (wt_7 (List.mem_of_getElem? (i := 92) rfl)) rfl
set_option maxRecDepth 100000 in
theorem w_1601 : Cond.code y_Mo_stepFits prog_14_method_48_code 4 (some .boolean) ∈ xws := xws_in (wt_7 (List.mem_of_getElem? (i := 93) rfl)) rfl
set_option maxRecDepth 100000 in
theorem w_1602 : Cond.methodLink "StyleCourtModel" 404 y_Mo_isSo ∈ xws := xws_in (wt_7 (List.mem_of_getElem? (i := 94) rfl)) rfl
set_option maxRecDepth 100000 in
theorem w_1604 : Cond.instanceMethod y_Mo_isSo ∈ xws := xws_in (wt_7 (List.mem_of_getElem? (i := 96) rfl)) rfl
set_option maxRecDepth 100000 in
theorem w_1605 : Cond.code y_Mo_isSo prog_14_method_47_code 5 (some .boolean) ∈ xws := xws_in (wt_7 (List.mem_of_getElem? (i := 97) rfl)) rfl
set_option maxRecDepth 100000 in
theorem w_1606 : Cond.methodLink "StyleCourtModel" 397 y_Mo_fieldOf ∈ xws := xws_in (wt_7 (List.mem_of_getElem? (i := 98) rfl)) rfl
set_option maxRecDepth 100000 in
theorem w_1608 : Cond.instanceMethod y_Mo_fieldOf ∈ xws := xws_in (wt_7 (List.mem_of_getElem? (i := 100) rfl)) rfl
set_option maxRecDepth 100000 in
theorem w_1609 : Cond.code y_Mo_fieldOf prog_14_method_45_code 5 (some .int) ∈ xws := xws_in (wt_7 (List.mem_of_getElem? (i := 101) rfl)) rfl
set_option maxRecDepth 100000 in
theorem w_1610 : Cond.methodLink "StyleCourtModel" 401 y_Mo_among ∈ xws := xws_in (wt_7 (List.mem_of_getElem? (i := 102) rfl)) rfl
set_option maxRecDepth 100000 in
theorem w_1612 : Cond.instanceMethod y_Mo_among ∈ xws := xws_in (wt_7 (List.mem_of_getElem? (i := 104) rfl)) rfl
set_option maxRecDepth 100000 in
theorem w_1613 : Cond.code y_Mo_among prog_14_method_46_code 2 (some .int) ∈ xws := xws_in (wt_7 (List.mem_of_getElem? (i := 105) rfl)) rfl
set_option maxRecDepth 100000 in
theorem w_1614 : Cond.methodLink "StyleCourtLaw" 89 y_Mo_property ∈ xws := xws_in (wt_7 (List.mem_of_getElem? (i := 106) rfl)) rfl
set_option maxRecDepth 100000 in
theorem w_1615 : Cond.instanceMethod y_Mo_property ∈ xws := xws_in (wt_7 (List.mem_of_getElem? (i := 107) rfl)) rfl
set_option maxRecDepth 100000 in
theorem w_1616 : Cond.selects "StyleCourtModel" y_Mo_property y_Mo_property ∈ xws := xws_in (wt_7 (List.mem_of_getElem? (i := 108) rfl)) rfl
set_option maxRecDepth 100000 in
theorem w_1617 : Cond.code y_Mo_property prog_14_method_56_code 10 (some .int) ∈ xws := xws_in (wt_7 (List.mem_of_getElem? (i := 109) rfl)) rfl
set_option maxRecDepth 100000 in
theorem w_1618 : Cond.constantLong "StyleCourtModel" 433 30064 ∈ xws := xws_in (wt_7 (List.mem_of_getElem? (i := 110) rfl)) rfl
set_option maxRecDepth 100000 in
theorem w_1619 : Cond.constantLong "StyleCourtModel" 435 100 ∈ xws := xws_in (wt_7 (List.mem_of_getElem? (i := 111) rfl)) rfl
set_option maxRecDepth 100000 in
theorem w_1620 : Cond.constantLong "StyleCourtModel" 437 9999999 ∈ xws := xws_in (wt_7 (List.mem_of_getElem? (i := 112) rfl)) rfl
set_option maxRecDepth 100000 in
theorem w_1621 : Cond.methodLink "StyleCourtModel" 439 y_Mo_sayNumber ∈ xws := xws_in (wt_7 (List.mem_of_getElem? (i := 113) rfl)) rfl
set_option maxRecDepth 100000 in
theorem w_1623 : Cond.instanceMethod y_Mo_sayNumber ∈ xws := xws_in (wt_7 (List.mem_of_getElem? (i := 115) rfl)) rfl
set_option maxRecDepth 100000 in
theorem w_1624 : Cond.code y_Mo_sayNumber prog_14_method_55_code 5 none ∈ xws := xws_in (wt_7 (List.mem_of_getElem? (i := 116) rfl)) rfl
set_option maxRecDepth 100000 in
theorem w_1625 : Cond.constantLong "StyleCourtModel" 427 9 ∈ xws := xws_in (wt_7 (List.mem_of_getElem? (i := 117) rfl)) rfl
set_option maxRecDepth 100000 in
theorem w_1626 : Cond.constantLong "StyleCourtModel" 429 10 ∈ xws := xws_in (wt_7 (List.mem_of_getElem? (i := 118) rfl)) rfl
set_option maxRecDepth 100000 in
theorem w_1627 : Cond.constantLong "StyleCourtModel" 431 48 ∈ xws := xws_in (wt_7 (List.mem_of_getElem? (i := 119) rfl)) rfl
set_option maxRecDepth 100000 in
theorem w_1628 : Cond.methodLink "StyleCourtModel" 443 y_Mo_say ∈ xws := xws_in (wt_7 (List.mem_of_getElem? (i := 120) rfl)) rfl
set_option maxRecDepth 100000 in
theorem w_1630 : Cond.instanceMethod y_Mo_say ∈ xws := xws_in (wt_7 (List.mem_of_getElem? (i := 122) rfl)) rfl
set_option maxRecDepth 100000 in
theorem w_1631 : Cond.code y_Mo_say prog_14_method_54_code 4 none ∈ xws := xws_in (wt_7 (List.mem_of_getElem? (i := 123) rfl)) rfl
set_option maxRecDepth 100000 in
theorem w_1632 : Cond.methodLink "StyleCourtLaw" 95 y_Mo_select ∈ xws := xws_in (wt_7 (List.mem_of_getElem? (i := 124) rfl)) rfl
set_option maxRecDepth 100000 in
theorem w_1633 : Cond.instanceMethod y_Mo_select ∈ xws := xws_in (wt_7 (List.mem_of_getElem? (i := 125) rfl)) rfl
set_option maxRecDepth 100000 in
theorem w_1634 : Cond.selects "StyleCourtModel" y_Mo_select y_Mo_select ∈ xws := xws_in (wt_7 (List.mem_of_getElem? (i := 126) rfl)) rfl
set_option maxRecDepth 100000 in
theorem w_1635 : Cond.code y_Mo_select prog_14_method_57_code 4 (some .int) ∈ xws := xws_in (wt_7 (List.mem_of_getElem? (i := 127) rfl)) rfl
set_option maxRecDepth 100000 in
theorem w_1636 : Cond.methodLink "StyleCourtLaw" 98 y_Mo_found ∈ xws := xws_in (wt_7 (List.mem_of_getElem? (i := 128) rfl)) rfl
set_option maxRecDepth 100000 in
theorem w_1637 : Cond.instanceMethod y_Mo_found ∈ xws := xws_in (wt_7 (List.mem_of_getElem? (i := 129) rfl)) rfl
set_option maxRecDepth 100000 in
theorem w_1638 : Cond.selects "StyleCourtModel" y_Mo_found y_Mo_found ∈ xws := xws_in (wt_7 (List.mem_of_getElem? (i := 130) rfl)) rfl
set_option maxRecDepth 100000 in
theorem w_1639 : Cond.code y_Mo_found prog_14_method_58_code 2 (some .int) ∈ xws := xws_in (wt_7 (List.mem_of_getElem? (i := 131) rfl)) rfl
set_option maxRecDepth 100000 in
theorem w_1640 : Cond.methodLink "StyleCourtLaw" 102 y_Mo_fits ∈ xws := xws_in (wt_7 (List.mem_of_getElem? (i := 132) rfl)) rfl
set_option maxRecDepth 100000 in
theorem w_1641 : Cond.instanceMethod y_Mo_fits ∈ xws := xws_in (wt_7 (List.mem_of_getElem? (i := 133) rfl)) rfl
set_option maxRecDepth 100000 in
theorem w_1642 : Cond.selects "StyleCourtModel" y_Mo_fits y_Mo_fits ∈ xws := xws_in (wt_7 (List.mem_of_getElem? (i := 134) rfl)) rfl
set_option maxRecDepth 100000 in
theorem w_1643 : Cond.code y_Mo_fits prog_14_method_59_code 3 (some .int) ∈ xws := xws_in (wt_7 (List.mem_of_getElem? (i := 135) rfl)) rfl
set_option maxRecDepth 100000 in
theorem w_1644 : Cond.methodLink "StyleCourtLaw" 105 y_Mo_element ∈ xws := xws_in (wt_7 (List.mem_of_getElem? (i := 136) rfl)) rfl
set_option maxRecDepth 100000 in
theorem w_1645 : Cond.instanceMethod y_Mo_element ∈ xws := xws_in (wt_7 (List.mem_of_getElem? (i := 137) rfl)) rfl
set_option maxRecDepth 100000 in
theorem w_1646 : Cond.selects "StyleCourtModel" y_Mo_element y_Mo_element ∈ xws := xws_in (wt_7 (List.mem_of_getElem? (i := 138) rfl)) rfl
set_option maxRecDepth 100000 in
theorem w_1647 : Cond.code y_Mo_element prog_14_method_60_code 3 (some .int) ∈ xws := xws_in (wt_7 (List.mem_of_getElem? (i := 139) rfl)) rfl
set_option maxRecDepth 100000 in
theorem w_1648 : Cond.methodLink "StyleCourtLaw" 108 y_Mo_tell ∈ xws := xws_in (wt_7 (List.mem_of_getElem? (i := 140) rfl)) rfl
set_option maxRecDepth 100000 in
theorem w_1649 : Cond.instanceMethod y_Mo_tell ∈ xws := xws_in (wt_7 (List.mem_of_getElem? (i := 141) rfl)) rfl
set_option maxRecDepth 100000 in
theorem w_1650 : Cond.selects "StyleCourtModel" y_Mo_tell y_Mo_tell ∈ xws := xws_in (wt_7 (List.mem_of_getElem? (i := 142) rfl)) rfl
set_option maxRecDepth 100000 in
theorem w_1651 : Cond.code y_Mo_tell prog_14_method_61_code 6 (some .int) ∈ xws := xws_in (wt_7 (List.mem_of_getElem? (i := 143) rfl)) rfl
set_option maxRecDepth 100000 in
theorem w_1652 : Cond.constantLong "StyleCourtModel" 449 16384 ∈ xws := xws_in (wt_7 (List.mem_of_getElem? (i := 144) rfl)) rfl
set_option maxRecDepth 100000 in
theorem w_1653 : Cond.methodLink "StyleCourtLaw" 111 y_Mo_word ∈ xws := xws_in (wt_7 (List.mem_of_getElem? (i := 145) rfl)) rfl
set_option maxRecDepth 100000 in
theorem w_1654 : Cond.instanceMethod y_Mo_word ∈ xws := xws_in (wt_7 (List.mem_of_getElem? (i := 146) rfl)) rfl
set_option maxRecDepth 100000 in
theorem w_1655 : Cond.selects "StyleCourtModel" y_Mo_word y_Mo_word ∈ xws := xws_in (wt_7 (List.mem_of_getElem? (i := 147) rfl)) rfl
set_option maxRecDepth 100000 in
theorem w_1656 : Cond.code y_Mo_word prog_14_method_62_code 5 (some .long) ∈ xws := xws_in (wt_7 (List.mem_of_getElem? (i := 148) rfl)) rfl
set_option maxRecDepth 100000 in
theorem w_1657 : Cond.methodLink "StyleCourtLaw" 114 y_Mo_count ∈ xws := xws_in (wt_7 (List.mem_of_getElem? (i := 149) rfl)) rfl
set_option maxRecDepth 100000 in
theorem w_1658 : Cond.instanceMethod y_Mo_count ∈ xws := xws_in (wt_7 (List.mem_of_getElem? (i := 150) rfl)) rfl
set_option maxRecDepth 100000 in
theorem w_1659 : Cond.selects "StyleCourtModel" y_Mo_count y_Mo_count ∈ xws := xws_in (wt_7 (List.mem_of_getElem? (i := 151) rfl)) rfl
set_option maxRecDepth 100000 in
theorem w_1660 : Cond.code y_Mo_count prog_14_method_63_code 2 (some .int) ∈ xws := xws_in (wt_7 (List.mem_of_getElem? (i := 152) rfl)) rfl
set_option maxRecDepth 100000 in
theorem w_1661 : Cond.arrayClass .long ∈ xws := xws_in (wt_7 (List.mem_of_getElem? (i := 153) rfl)) rfl
theorem ow_Sc_72 : ∀ a ∈ Bundle.ownAtoms "StyleCourt" 72 "java/lang/IndexOutOfBoundsException" ["java/lang/RuntimeException", "java/lang/Exception"], a ∈ xws ∨ a ∈ xhw := by
  refine xoc (Or.inl w_84) ?_
  refine xoc (Or.inl w_486) ?_
  refine xoc (Or.inl w_495) ?_
  refine xoc (Or.inl w_499) ?_
  refine xoc (Or.inl w_502) ?_
  refine xoc (Or.inl w_504) ?_
  refine xoc (Or.inl w_487) ?_
  refine xoc (Or.inl w_488) ?_
  refine xoc (Or.inl w_106) ?_
  refine xoc (Or.inl w_107) ?_
  refine xoc (Or.inl w_489) ?_
  refine xoc (Or.inl w_494) ?_
  refine xoc (Or.inl w_500) ?_
  refine xoc (Or.inl w_520) ?_
  refine xoc (Or.inl w_476) ?_
  refine xoc (Or.inl w_521) ?_
  refine xoc (Or.inl w_478) ?_
  refine xoc (Or.inl w_522) ?_
  refine xoc (Or.inl w_480) ?_
  refine xoc (Or.inl w_490) ?_
  refine xoc (Or.inr (List.mem_of_getElem? (i := 2) rfl)) ?_
  refine xoc (Or.inl w_492) ?_
  refine xoc (Or.inr (List.mem_of_getElem? (i := 3) rfl)) ?_
  refine xoc (Or.inl w_482) ?_
  refine xoc (Or.inl w_516) ?_
  refine xoc (Or.inl w_517) ?_
  refine xoc (Or.inl w_519) ?_
  refine xoc (Or.inl w_482) ?_
  refine xoc (Or.inl w_507) ?_
  refine xoc (Or.inl w_508) ?_
  refine xoc (Or.inl w_509) ?_
  refine xoc (Or.inl w_510) ?_
  refine xoc (Or.inl w_468) ?_
  refine xoc (Or.inl w_510) ?_
  refine xoc (Or.inl w_511) ?_
  refine xoc (Or.inl w_512) ?_
  refine xoc (Or.inl w_513) ?_
  refine xoc (Or.inl w_470) ?_
  refine xoc (Or.inl w_513) ?_
  refine xoc (Or.inl w_514) ?_
  refine xoc (Or.inl w_515) ?_
  refine xoc (Or.inl w_516) ?_
  refine xoc (Or.inl w_472) ?_
  refine xoc (Or.inl w_506) ?_
  refine xoc (Or.inl w_465) ?_
  refine xoc (Or.inl w_466) ?_
  refine xoc (Or.inl w_473) ?_
  refine xoc (Or.inl w_474) ?_
  refine xoc (Or.inl w_475) ?_
  refine xoc (Or.inl w_477) ?_
  refine xoc (Or.inl w_479) ?_
  refine xoc (Or.inl w_481) ?_
  refine xoc (Or.inr (List.mem_of_getElem? (i := 0) rfl)) ?_
  refine xoc (Or.inr (List.mem_of_getElem? (i := 1) rfl)) ?_
  refine xoc (Or.inl w_485) ?_
  refine xoc (Or.inl w_484) ?_
  refine xoc (Or.inl w_483) ?_
  exact fun _ h => absurd h List.not_mem_nil
theorem ow_Sc_83 : ∀ a ∈ Bundle.ownAtoms "StyleCourt" 83 "java/lang/IllegalArgumentException" ["java/lang/RuntimeException", "java/lang/Exception"], a ∈ xws ∨ a ∈ xhw := by
  refine xoc (Or.inl w_84) ?_
  refine xoc (Or.inl w_486) ?_
  refine xoc (Or.inl w_495) ?_
  refine xoc (Or.inl w_499) ?_
  refine xoc (Or.inl w_502) ?_
  refine xoc (Or.inl w_504) ?_
  refine xoc (Or.inl w_487) ?_
  refine xoc (Or.inl w_488) ?_
  refine xoc (Or.inl w_106) ?_
  refine xoc (Or.inl w_107) ?_
  refine xoc (Or.inl w_489) ?_
  refine xoc (Or.inl w_494) ?_
  refine xoc (Or.inl w_500) ?_
  refine xoc (Or.inl w_520) ?_
  refine xoc (Or.inl w_476) ?_
  refine xoc (Or.inl w_521) ?_
  refine xoc (Or.inl w_478) ?_
  refine xoc (Or.inl w_522) ?_
  refine xoc (Or.inl w_480) ?_
  refine xoc (Or.inl w_490) ?_
  refine xoc (Or.inr (List.mem_of_getElem? (i := 2) rfl)) ?_
  refine xoc (Or.inl w_492) ?_
  refine xoc (Or.inr (List.mem_of_getElem? (i := 3) rfl)) ?_
  refine xoc (Or.inl w_482) ?_
  refine xoc (Or.inl w_516) ?_
  refine xoc (Or.inl w_517) ?_
  refine xoc (Or.inl w_519) ?_
  refine xoc (Or.inl w_482) ?_
  refine xoc (Or.inl w_554) ?_
  refine xoc (Or.inl w_555) ?_
  refine xoc (Or.inl w_556) ?_
  refine xoc (Or.inl w_510) ?_
  refine xoc (Or.inl w_468) ?_
  refine xoc (Or.inl w_510) ?_
  refine xoc (Or.inl w_511) ?_
  refine xoc (Or.inl w_512) ?_
  refine xoc (Or.inl w_513) ?_
  refine xoc (Or.inl w_470) ?_
  refine xoc (Or.inl w_513) ?_
  refine xoc (Or.inl w_514) ?_
  refine xoc (Or.inl w_515) ?_
  refine xoc (Or.inl w_516) ?_
  refine xoc (Or.inl w_472) ?_
  refine xoc (Or.inl w_553) ?_
  refine xoc (Or.inl w_544) ?_
  refine xoc (Or.inl w_545) ?_
  refine xoc (Or.inl w_546) ?_
  refine xoc (Or.inl w_497) ?_
  refine xoc (Or.inl w_547) ?_
  refine xoc (Or.inl w_548) ?_
  refine xoc (Or.inl w_549) ?_
  refine xoc (Or.inl w_550) ?_
  refine xoc (Or.inr (List.mem_of_getElem? (i := 0) rfl)) ?_
  refine xoc (Or.inr (List.mem_of_getElem? (i := 1) rfl)) ?_
  refine xoc (Or.inl w_485) ?_
  refine xoc (Or.inl w_484) ?_
  refine xoc (Or.inl w_551) ?_
  exact fun _ h => absurd h List.not_mem_nil
theorem ow_Rd_32 : ∀ a ∈ Bundle.ownAtoms "StyleCourt$Reader" 32 "java/lang/UnsupportedOperationException" ["java/lang/RuntimeException", "java/lang/Exception"], a ∈ xws ∨ a ∈ xhw := by
  refine xoc (Or.inl w_84) ?_
  refine xoc (Or.inl w_486) ?_
  refine xoc (Or.inl w_495) ?_
  refine xoc (Or.inl w_499) ?_
  refine xoc (Or.inl w_502) ?_
  refine xoc (Or.inl w_504) ?_
  refine xoc (Or.inl w_487) ?_
  refine xoc (Or.inl w_488) ?_
  refine xoc (Or.inl w_106) ?_
  refine xoc (Or.inl w_107) ?_
  refine xoc (Or.inl w_489) ?_
  refine xoc (Or.inl w_494) ?_
  refine xoc (Or.inl w_500) ?_
  refine xoc (Or.inl w_520) ?_
  refine xoc (Or.inl w_476) ?_
  refine xoc (Or.inl w_521) ?_
  refine xoc (Or.inl w_478) ?_
  refine xoc (Or.inl w_522) ?_
  refine xoc (Or.inl w_480) ?_
  refine xoc (Or.inl w_490) ?_
  refine xoc (Or.inr (List.mem_of_getElem? (i := 2) rfl)) ?_
  refine xoc (Or.inl w_492) ?_
  refine xoc (Or.inr (List.mem_of_getElem? (i := 3) rfl)) ?_
  refine xoc (Or.inl w_482) ?_
  refine xoc (Or.inl w_516) ?_
  refine xoc (Or.inl w_517) ?_
  refine xoc (Or.inl w_519) ?_
  refine xoc (Or.inl w_482) ?_
  refine xoc (Or.inl w_603) ?_
  refine xoc (Or.inl w_604) ?_
  refine xoc (Or.inl w_605) ?_
  refine xoc (Or.inl w_510) ?_
  refine xoc (Or.inl w_468) ?_
  refine xoc (Or.inl w_510) ?_
  refine xoc (Or.inl w_511) ?_
  refine xoc (Or.inl w_512) ?_
  refine xoc (Or.inl w_513) ?_
  refine xoc (Or.inl w_470) ?_
  refine xoc (Or.inl w_513) ?_
  refine xoc (Or.inl w_514) ?_
  refine xoc (Or.inl w_515) ?_
  refine xoc (Or.inl w_516) ?_
  refine xoc (Or.inl w_472) ?_
  refine xoc (Or.inl w_602) ?_
  refine xoc (Or.inl w_593) ?_
  refine xoc (Or.inl w_594) ?_
  refine xoc (Or.inl w_595) ?_
  refine xoc (Or.inl w_498) ?_
  refine xoc (Or.inl w_596) ?_
  refine xoc (Or.inl w_597) ?_
  refine xoc (Or.inl w_598) ?_
  refine xoc (Or.inl w_599) ?_
  refine xoc (Or.inr (List.mem_of_getElem? (i := 0) rfl)) ?_
  refine xoc (Or.inr (List.mem_of_getElem? (i := 1) rfl)) ?_
  refine xoc (Or.inl w_485) ?_
  refine xoc (Or.inl w_484) ?_
  refine xoc (Or.inl w_600) ?_
  exact fun _ h => absurd h List.not_mem_nil
set_option maxRecDepth 100000 in
theorem wc_0 : Cond.castable "StyleCourt" "java/lang/Object" ∈ xws := xws_in (wt_7 (List.mem_of_getElem? (i := 166) rfl)) rfl
set_option maxRecDepth 100000 in
theorem wc_1 : Cond.castable "StyleCourt$Reader" "java/lang/Object" ∈ xws := xws_in (wt_7 (List.mem_of_getElem? (i := 167) rfl)) rfl
set_option maxRecDepth 100000 in
theorem wc_2 : Cond.castable "StyleCourt$Slice" "java/lang/Object" ∈ xws := xws_in (wt_7 (List.mem_of_getElem? (i := 170) rfl)) rfl
set_option maxRecDepth 100000 in
theorem wc_3 : Cond.castable "StyleCourt$Named" "java/lang/Object" ∈ xws := xws_in (wt_7 (List.mem_of_getElem? (i := 171) rfl)) rfl
set_option maxRecDepth 100000 in
theorem wc_4 : Cond.castable "StyleCourt$Element" "java/lang/Object" ∈ xws := xws_in (wt_7 (List.mem_of_getElem? (i := 169) rfl)) rfl
set_option maxRecDepth 100000 in
theorem wc_5 : Cond.castable "StyleCourt$Source" "java/lang/Object" ∈ xws := xws_in (wt_7 (List.mem_of_getElem? (i := 168) rfl)) rfl
set_option maxRecDepth 100000 in
theorem wc_6 : Cond.castable "StyleCourt$Condition" "java/lang/Object" ∈ xws := xws_in (wt_7 (List.mem_of_getElem? (i := 177) rfl)) rfl
set_option maxRecDepth 100000 in
theorem wc_7 : Cond.castable "StyleCourt$Step" "java/lang/Object" ∈ xws := xws_in (wt_7 (List.mem_of_getElem? (i := 176) rfl)) rfl
set_option maxRecDepth 100000 in
theorem wc_8 : Cond.castable "StyleCourt$Selector" "java/lang/Object" ∈ xws := xws_in (wt_7 (List.mem_of_getElem? (i := 175) rfl)) rfl
set_option maxRecDepth 100000 in
theorem wc_9 : Cond.castable "StyleCourt$Told" "java/lang/Object" ∈ xws := xws_in (wt_7 (List.mem_of_getElem? (i := 178) rfl)) rfl
set_option maxRecDepth 100000 in
theorem wc_10 : Cond.castable "StyleCourt$Rule" "java/lang/Object" ∈ xws := xws_in (wt_7 (List.mem_of_getElem? (i := 174) rfl)) rfl
set_option maxRecDepth 100000 in
theorem wc_11 : Cond.castable "StyleCourt$Style" "java/lang/Object" ∈ xws := xws_in (wt_7 (List.mem_of_getElem? (i := 172) rfl)) rfl
set_option maxRecDepth 100000 in
theorem wc_13 : Cond.castable "StyleCourtModel" "java/lang/Object" ∈ xws := xws_in (wt_7 (List.mem_of_getElem? (i := 173) rfl)) rfl
def xok4 (k : Nat) : Bool := Nat.beq k 0 || Nat.beq k 1 || Nat.beq k 2 || Nat.beq k 3 || Nat.beq k 4 || Nat.beq k 5 || Nat.beq k 6 || Nat.beq k 7 || Nat.beq k 8 || Nat.beq k 9 || Nat.beq k 10 || Nat.beq k 11 || Nat.beq k 13
theorem xok4_ok : ∀ ci, xok4 ci = true → ci < 100 ∧ ∃ r0, xcl[ci]? = some r0 ∧ (r0.1 = "java/lang/Object" ∨ Cond.castable r0.1 "java/lang/Object" ∈ xws) := by
  intro ci h
  simp only [xok4, Bool.or_eq_true] at h
  rcases h with (((((((((((h | h) | h) | h) | h) | h) | h) | h) | h) | h) | h) | h) | h
  · rw [Nat.eq_of_beq_eq_true h]; exact ⟨by decide, _, rfl, Or.inr wc_0⟩
  · rw [Nat.eq_of_beq_eq_true h]; exact ⟨by decide, _, rfl, Or.inr wc_1⟩
  · rw [Nat.eq_of_beq_eq_true h]; exact ⟨by decide, _, rfl, Or.inr wc_2⟩
  · rw [Nat.eq_of_beq_eq_true h]; exact ⟨by decide, _, rfl, Or.inr wc_3⟩
  · rw [Nat.eq_of_beq_eq_true h]; exact ⟨by decide, _, rfl, Or.inr wc_4⟩
  · rw [Nat.eq_of_beq_eq_true h]; exact ⟨by decide, _, rfl, Or.inr wc_5⟩
  · rw [Nat.eq_of_beq_eq_true h]; exact ⟨by decide, _, rfl, Or.inr wc_6⟩
  · rw [Nat.eq_of_beq_eq_true h]; exact ⟨by decide, _, rfl, Or.inr wc_7⟩
  · rw [Nat.eq_of_beq_eq_true h]; exact ⟨by decide, _, rfl, Or.inr wc_8⟩
  · rw [Nat.eq_of_beq_eq_true h]; exact ⟨by decide, _, rfl, Or.inr wc_9⟩
  · rw [Nat.eq_of_beq_eq_true h]; exact ⟨by decide, _, rfl, Or.inr wc_10⟩
  · rw [Nat.eq_of_beq_eq_true h]; exact ⟨by decide, _, rfl, Or.inr wc_11⟩
  · rw [Nat.eq_of_beq_eq_true h]; exact ⟨by decide, _, rfl, Or.inr wc_13⟩
def xok5 (k : Nat) : Bool := Nat.beq k 4
theorem xok5_ok : ∀ ci, xok5 ci = true → ci < 100 ∧ ∃ r0, xcl[ci]? = some r0 ∧ (r0.1 = "StyleCourt$Element" ∨ Cond.castable r0.1 "StyleCourt$Element" ∈ xws) := by
  intro ci h
  rw [show ci = 4 from Nat.eq_of_beq_eq_true h]; exact ⟨by decide, _, rfl, Or.inl rfl⟩
end
section
/-! THE ABSTRACT MACHINE, 8: further operations -/
section XMORE
variable {X : xX} {cc : ByteArray} {own : String} {nL d pc : Nat}
def o_i2c (n : Nat) : xOp := fun K ls st h rc rs => match st with
  | .int x :: r => K n ls (.int (x.toUInt32 % 65536).toInt32 :: r) h rc rs
  | _ => False
theorem ok_i2c (hC : xCx X cc own nL d) (hd : decode cc pc = .ok (.i2c, 1)) : xOk X pc (o_i2c (pc + 1)) := by
  intro K hK ls st h rc rs ho A H locs k n h1 h2 h3 h4 h5
  unfold o_i2c at ho
  split at ho
  · exact lv_i2c hC.x hC.b hd rfl (hK _ _ _ _ _ _ ho A H locs k n h1 h2 h3 h4 h5)
  · exact ho.elim
/-- a boolean is stored -/
def o_zast (t n : Nat) : xOp := fun K ls st h rc rs => match st with
  | .int x :: .int i :: .ref a :: r => ∃ (vs : List Value) (j : Nat), h a = some (100 + t, vs) ∧ i = nI j ∧ j < vs.length ∧ (x = 0 ∨ x = 1) ∧ K n ls r (xset h a (100 + t, vs.set j (.int x))) rc rs
  | _ => False
theorem ok_zast (hC : xCx X cc own nL d) {t : Nat} (hd : decode cc pc = .ok (.bastore, 1)) (ht : t < 100) (hty : xel t = .boolean) : xOk X pc (o_zast t (pc + 1)) := by
  intro K hK ls st h rc rs ho A H locs kk n h1 h2 h3 h4 h5
  unfold o_zast at ho
  split at ho
  · rename_i x i a r
    obtain ⟨vs, j, e1, e2, e3, ex, e4⟩ := ho
    obtain ⟨cell, g1, g2, g3, g4, g5⟩ := x_anyarr hC.K h2 ht (Or.inl e1)
    have en : narrow .boolean (.int x) = .int x := by rcases ex with rfl | rfl <;> rfl
    refine W.zast hC.x hC.b g1 (by rw [← hty]; exact g2) g3 (x_ain g4 e2 e3 g5) rfl rfl hd fun H' z1 z2 z3 => ?_
    have ej : (nI j).toNatClampNeg = j := nI_clamp (by omega)
    rw [e2, ej] at z1 ⊢
    rw [en] at z1
    obtain ⟨y1, y2⟩ := x_stBack (v := .int x) ht h2 h3 e1 e3 (fun c hc => by cases g1.symm.trans hc; exact z1) z2 z3
    exact hK _ _ _ _ _ _ e4 A H' _ kk n h1 y1 y2 h4 h5
  · exact ho.elim
theorem ok_getsN (hC : xCx X cc own nL d) {i j : Nat} {q : String × String × String} {host : String} (hd : decode cc pc = .ok (.getstatic j, 3)) (hq : xst[i]? = some q) (hw : Cond.fieldLinkNest own j q.1 q.2.1 q.2.2 host ∈ xws) : xOk X pc (o_gets X.D i (pc + 3)) := by
  intro K hK ls st h rc rs ho A H locs kk n h1 h2 h3 h4 h5
  exact va_getsN (A := fun q => X.D.sz ≤ q) hC.x hC.b (hC.E.1 i q hq) ⟨h3.1, fun a _ z => h3.2.1 a (Nat.not_le.mp z), h3.2.2⟩ hC.ow (hC.ts _ hw) (fun _ z => z) hd (hK _ _ _ _ _ _ ho A H locs kk n h1 h2 h3 h4 h5)
/-- a field that is declared further up -/
theorem ok_getU (hC : xCx X cc own nL d) {ci k i : Nat} {ref ow nm ds : String} {r0 : vw_C} (hd : decode cc pc = .ok (.getfield i, 3)) (hci : ci < 100) (hc : xcl[ci]? = some r0) (hk : k < r0.2.2) (hf : r0.2.1 k = (ow, nm, ds, (r0.2.1 k).2.2.2)) (hw : Cond.fieldLink own i ref nm ds ∈ xws) (hs : Cond.sameField ref ow nm ds ∈ xws) : xOk X pc (o_get ci k (pc + 3)) := by
  intro K hK ls st h rc rs ho A H locs kk n h1 h2 h3 h4 h5
  unfold o_get at ho
  split at ho
  · obtain ⟨fs, v, e1, e2, e3⟩ := ho
    obtain ⟨cf, kf, fi, f, cell, g1, g2, g3, g4, g5⟩ := x_getAux hC hci hc hk h2 e1 e2
    rw [hf] at g1
    exact W.getf hC.x hC.b hC.ow (hC.ts _ hw) (u_same (hC.ts _ hs) _ g1) g2 g3 g4 g5 rfl rfl hd (hK _ _ _ _ _ _ e3 A H locs kk n h1 h2 h3 h4 h5)
  · exact ho.elim
theorem ok_putU (hC : xCx X cc own nL d) {ci k i : Nat} {ty : FieldType} {ref ow nm ds : String} {r0 : vw_C} (hd : decode cc pc = .ok (.putfield i, 3)) (hci : ci < 100) (hc : xcl[ci]? = some r0) (hk : k < r0.2.2) (hf : r0.2.1 k = (ow, nm, ds, false)) (hp : parseFieldDescriptor ds = some ty) (hw : Cond.fieldLink own i ref nm ds ∈ xws) (hs : Cond.sameField ref ow nm ds ∈ xws) : xOk X pc (o_put ci k ty (pc + 3)) := by
  intro K hK ls st h rc rs ho A H locs kk n h1 h2 h3 h4 h5
  unfold o_put at ho
  split at ho
  · rename_i v a r
    obtain ⟨fs, e1, e2⟩ := ho
    obtain ⟨f1, f2, e2⟩ := xfit_iff e2
    rw [xfo_iff] at e2
    obtain ⟨h0, r', g1, g2, cell, q1, q2, q3, q4⟩ := x_obj hci (h2 _ _ e1)
    have hr : r' = r0 := Option.some.inj (g1.symm.trans hc)
    subst hr
    obtain ⟨hS, hfc, kC, hkC, hkind⟩ := hC.K.1 ci _ hc
    obtain ⟨cf, kf, fi, f, hi, hsl⟩ := hS k hk
    have hlay := hC.ts _ (xcl_in hc _ (u_in_lay hk))
    unfold u_lay at hlay
    rw [hf] at hlay hi
    rw [if_neg (by simp)] at hlay
    have hst := (u_facts hfc hkC (Or.inl hlay) hi).1
    have h6 := u_store hfc hkC hkind hlay hi hp f1 f2
    refine W.putK hC.x hC.b (f := f) ⟨hC.ow, hC.ts _ hw, ⟨cf, kf, fi, u_same (hC.ts _ hs) _ hi⟩, hst⟩ (by rw [q2]; exact h6) q1 q3 (by rw [hsl]; exact k2_hasslot (q4 k hk)) rfl rfl hd fun H' z1 z2 z3 => ?_
    rw [hsl] at z1 ⊢
    obtain ⟨y1, y2⟩ := x_putBack hC hci hc hk h2 h3 e1 h0 g2 q2 q3 q4 z1 z2 z3
    exact hK _ _ _ _ _ _ e2 A H' _ kk n h1 y1 y2 h4 h5
  · exact ho.elim
/-- a cast of an array to its own class -/
def o_castA (t n : Nat) : xOp := fun K ls st h rc rs => match st with
  | .ref a :: r => ∃ vs : List Value, h a = some (100 + t, vs) ∧ K n ls (.ref a :: r) h rc rs
  | _ => False
theorem ok_castA (hC : xCx X cc own nL d) {i t : Nat} {C : String} {ty : FieldType} (hd : decode cc pc = .ok (.checkcast i, 3)) (ht : t < 100) (hty : xela[t]? = some ty) (hn : "[" ++ ty.toString = C) (hw : Cond.classLink own i C ∈ xws) : xOk X pc (o_castA t (pc + 3)) := by
  intro K hK ls st h rc rs ho A H locs kk n h1 h2 h3 h4 h5
  unfold o_castA at ho
  split at ho
  · rename_i a r
    obtain ⟨vs, e1, e2⟩ := ho
    obtain ⟨q0, q1, q2, q3⟩ := x_arr ht (h2 _ _ e1)
    have hnm : X.s.vm.findClass C = some (X.D.cid (100 + t)) := by
      have k1 := (hC.K.2 t _ hty).2
      rw [← hn]
      cases ty with
      | object C' => obtain ⟨-, -, -, -, -, k4⟩ := k1; exact k4
      | _ => exact k1
    intro T hT Y
    obtain ⟨vm', Y', st⟩ := Y.checkcastYes hC.x hC.ow (hC.ts _ hw) (by rw [hT]; exact q3) rfl hnm (va_asg _ _) (g := F0 X.m pc A (.ref a :: r)) rfl rfl (by rw [hC.b]; exact hd)
    obtain ⟨t', a1, b1⟩ := hK _ _ _ _ _ _ e2 A H locs kk n h1 h2 h3 h4 h5 (T.setVm vm') hT Y'
    exact ⟨t', st t' a1, b1⟩
  · exact ho.elim
/-- the Class object of an array of Objects -/
def o_getC (D : xD) (n : Nat) : xOp := fun K ls st h rc rs => match st with
  | .ref a :: r => ∃ vs : List Value, h a = some (104, vs) ∧ xif (Nat.ble (r.map fun v => v.category).sum 8) (K n ls (D.sv 2000 :: r) h rc rs)
  | _ => False
theorem ok_getC (hC : xCx X cc own nL d) {i : Nat} (h0 : 1 ≤ d) (hd : decode cc pc = .ok (.invokevirtual i, 3)) (hl : Cond.methodLink own i ⟨"java/lang/Object", "getClass", "()Ljava/lang/Class;"⟩ ∈ xws) (hde : Cond.declares ⟨"java/lang/Object", "getClass", "()Ljava/lang/Class;"⟩ ∈ xws) (hse : Cond.selects "[Ljava/lang/Object;" ⟨"java/lang/Object", "getClass", "()Ljava/lang/Class;"⟩ ⟨"java/lang/Object", "getClass", "()Ljava/lang/Class;"⟩ ∈ xws) (hin : Cond.instanceMethod ⟨"java/lang/Object", "getClass", "()Ljava/lang/Class;"⟩ ∈ xws) (hna : Cond.native ⟨"java/lang/Object", "getClass", "()Ljava/lang/Class;"⟩ ∈ xws) : xOk X pc (o_getC X.D (pc + 3)) := by
  intro K hK ls st h rc rs ho A H locs kk n h1 h2 h3 h4 h5
  unfold o_getC at ho
  split at ho
  · rename_i a r
    obtain ⟨vs, e1, e2⟩ := ho
    obtain ⟨e3, e2⟩ := xif_iff e2
    obtain ⟨q0, q1, q2, q3⟩ := x_arr (t := 4) (by decide) (h2 _ _ e1)
    obtain ⟨mi, m1, m2⟩ := hC.E.2.2.2.2
    rw [m1] at e2
    have hnm : X.s.vm.findClass "[Ljava/lang/Object;" = some (X.D.cid 104) := by
      obtain ⟨-, -, -, -, -, k4⟩ := (hC.K.2 4 (.object "java/lang/Object") rfl).2
      exact k4
    refine va_getC hC.x hC.b (by rw [h1.1]) hC.ow (hC.ts _ hl) (hC.ts _ hde) (hC.ts _ hse) (hC.ts _ hin) (hC.ts _ hna) m2 ⟨_, q3, rfl, hnm⟩ (by have := hC.fr; omega) (by have := hC.lo; have := Nat.le_of_ble_eq_true e3; omega) hd (hK _ _ _ _ _ _ e2 A H locs kk n h1 h2 h3 h4 h5)
  · exact ho.elim
def o_ldcM (D : xD) (n : Nat) : xOp := fun K ls st h rc rs => K n ls (D.sv 2000 :: st) h rc rs
theorem ok_ldcM (hC : xCx X cc own nL d) {i : Nat} (hd : decode cc pc = .ok (.ldc i, 2)) (hw : Cond.classLink own i "[Ljava/lang/Object;" ∈ xws) : xOk X pc (o_ldcM X.D (pc + 2)) := by
  intro K hK ls st h rc rs ho A H locs kk n h1 h2 h3 h4 h5
  obtain ⟨mi, m1, m2⟩ := hC.E.2.2.2.2
  unfold o_ldcM at ho
  rw [m1] at ho
  exact va_ldcM hC.x hC.b hC.ow (hC.ts _ hw) m2 hd (hK _ _ _ _ _ _ ho A H locs kk n h1 h2 h3 h4 h5)
/-- String constants: their two fields -/
theorem x_str {D : xD} {U : State} {H : Heap} {a : Nat} {vs : List Value} (h : x_at D U H a (300, vs)) : a < D.sz ∧ xO_RO D U H a vs := by
  unfold x_at at h
  rw [if_neg (by show ¬ 300 < 100; omega), if_neg (by show ¬ 300 < 200; omega), if_neg (by show ¬ 300 < 300; omega)] at h
  exact ⟨h.1, h.2.2⟩
def o_sval (n : Nat) : xOp := fun K ls st h rc rs => match st with
  | .ref a :: r => ∃ v : Nat, h a = some (300, [.ref v]) ∧ K n ls (.ref v :: r) h rc rs
  | _ => False
theorem ok_sval (hC : xCx X cc own nL d) {i : Nat} (hd : decode cc pc = .ok (.getfield i, 3)) (hw : Cond.fieldLink own i "java/lang/String" "value" "[B" ∈ xws) : xOk X pc (o_sval (pc + 3)) := by
  intro K hK ls st h rc rs ho A H locs kk n h1 h2 h3 h4 h5
  unfold o_sval at ho
  split at ho
  · obtain ⟨v, e1, e2⟩ := ho
    obtain ⟨-, v', e3, -, ⟨cf, k, fi, f, cell, g1, g2, g3, g4, g5, -⟩, -⟩ := x_str (h2 _ _ e1)
    cases e3
    exact W.getf hC.x hC.b hC.ow (hC.ts _ hw) g1 g2 g3 g4 g5 rfl rfl hd (hK _ _ _ _ _ _ e2 A H locs kk n h1 h2 h3 h4 h5)
  · exact ho.elim
def o_scod (n : Nat) : xOp := fun K ls st h rc rs => match st with
  | .ref a :: r => ∃ vs : List Value, h a = some (300, vs) ∧ K n ls (.int 0 :: r) h rc rs
  | _ => False
theorem ok_scod (hC : xCx X cc own nL d) {i : Nat} (hd : decode cc pc = .ok (.getfield i, 3)) (hw : Cond.fieldLink own i "java/lang/String" "coder" "B" ∈ xws) : xOk X pc (o_scod (pc + 3)) := by
  intro K hK ls st h rc rs ho A H locs kk n h1 h2 h3 h4 h5
  unfold o_scod at ho
  split at ho
  · obtain ⟨vs, e1, e2⟩ := ho
    obtain ⟨-, v', e3, -, -, ⟨cf, k, fi, f, cell, g1, g2, g3, g4, g5, -⟩⟩ := x_str (h2 _ _ e1)
    exact W.getf hC.x hC.b hC.ow (hC.ts _ hw) g1 g2 g3 g4 g5 rfl rfl hd (hK _ _ _ _ _ _ e2 A H locs kk n h1 h2 h3 h4 h5)
  · exact ho.elim
theorem ok_callStr {bytes : ByteArray} {maxL : Nat} {ret : Option FieldType} (hC : xCx X cc own nL d) (hnh : X.c.exceptionTable.isEmpty = true) {y : MethodName} {d' na i : Nat} (hd : decode cc pc = .ok (.invokevirtual i, 3)) (hdd : d' < d) (hmx : maxL ≤ 11) (hp : xpn y na)
    (hcode : Cond.code y bytes maxL ret ∈ xws) (hini : Cond.initialized y.cls ∈ xws) (hl : Cond.methodLink own i y ∈ xws) (hin : Cond.instanceMethod y ∈ xws) (hse : Cond.selects "java/lang/String" y y ∈ xws) : xOk X pc (o_callV X.l X.D X.P 300 d' (na + 1) y (pc + 3)) := by
  intro K hK ls st h rc rs ho A H locs k n h1 h2 h3 h4 h5
  obtain ⟨av, rest, e1, e2, e3⟩ := xsp_of ho
  rw [List.append_nil] at e3
  split at e3
  · rename_i b as
    obtain ⟨fs, e4, e5⟩ := e3
    obtain ⟨-, v', -, ⟨cellB, r1, r2, r3, -⟩, -⟩ := x_str (h2 _ _ e4)
    refine x_call hC hnh (bytes := bytes) (ret := ret) hdd hmx ⟨[], Or.inl hcode⟩ hini hd hK e5 h1 h2 h3 h4 h5 (fun T hT Y => ?_)
    exact x_invV Y hC.x hC.ow (hC.ts _ hl) (hC.ts _ hin) (hC.ts _ hse) (hC.ts _ hcode) ⟨hp.1, hp.2.1⟩ (by rw [hT]; exact r1) r2 r3 rfl (hp.len (by simpa using e2)) (by show st = _; rw [e1]; simp) (by rw [hC.b]; exact hd)
  · exact e3.elim
end XMORE
/-! THE ABSTRACT MACHINE, 9: System.arraycopy, clone of a byte array -/
def xcpy (vs ws : List Value) (i j k : Nat) : List Value := (List.range ws.length).map (fun q => if j ≤ q ∧ q < j + k then vs.getD (i + (q - j)) .null else ws.getD q .null)
theorem x_arrV (c : ClassId) (ws : List Value) : ({ cls := c, slots := ws.toArray, vm := .none } : Cell) = arrV c ws.length (fun j => ws.getD j .null) := by
  have h : ws.toArray = Array.ofFn (n := ws.length) fun j => ws.getD j.val .null := by
    apply Array.ext
    · simp
    · intro i h1 h2
      have h3 : i < ws.length := by simpa using h1
      simp [List.getD, h3]
  unfold arrV
  rw [h]
theorem x_arrV2 (c : ClassId) (n : Nat) (f : Nat → Value) : arrV c n f = ({ cls := c, slots := ((List.range n).map f).toArray, vm := .none } : Cell) := by
  have h : (Array.ofFn (n := n) fun j => f j.val) = ((List.range n).map f).toArray := by
    apply Array.ext
    · simp
    · intro i h1 h2
      simp
  unfold arrV
  rw [h]
theorem x_nn {j : Nat} (h : j < 2 ^ 31) : (nI j).toInt = (j : Int) := nI_toInt h
section XCPY
variable {X : xX} {cc : ByteArray} {own : String} {nL d pc : Nat}
theorem x_cpyAux (hC : xCx X cc own nL d) (h0 : 1 ≤ d) {i9 t : Nat} {ty : FieldType} (hd : decode cc pc = .ok (.invokestatic i9, 3)) (ht : t < 100) (hty : xela[t]? = some ty) (hl : Cond.methodLink own i9 arraycopyName ∈ xws) (hna : Cond.native arraycopyName ∈ xws) (hst : Cond.static arraycopyName ∈ xws) (hin : Cond.initialized "java/lang/System" ∈ xws)
    {h : xH} {a a0 i j k : Nat} {vs ws r : List Value} (e0 : h a0 = some (100 + t, vs) ∨ h a0 = some (200 + t, vs)) (e1 : h a = some (100 + t, ws)) (hi : i + k ≤ vs.length) (hj : j + k ≤ ws.length) (hr : (r.map fun v => v.category).sum ≤ 8)
    {A : Array Slot} {H : Heap} {locs : List Loc} {kk n : Nat} {ls : xL} (h1 : lv_has A X.c.maxLocals ls) (h2 : x_R X.D X.s h H) (h3 : x_S X.D X.s.heap H locs)
    (hel : ∀ (T : State) (vm₁ : Vm), T.heap = H → X.s.vm.Alike vm₁ → ∀ q, q < k → fits ty (vs.getD (i + q) .null) = true ∧ ∀ (kA : Class) (comp : ClassId), X.s.vm.classes[X.D.cid (100 + t)]? = some kA → kA.kind = .array comp ty → (T.setVm vm₁).takes comp (vs.getD (i + q) .null))
    (kk' : ∀ (H' : Heap) (locs' : List Loc), x_R X.D X.s (xset h a (100 + t, xcpy vs ws i j k)) H' → x_S X.D X.s.heap H' locs' → xW X H' locs' kk n (F0 X.m (pc + 3) A r)) : xW X H locs kk n (F0 X.m pc A (.int (nI k) :: .int (nI j) :: .ref a :: .int (nI i) :: .ref a0 :: r)) := by
  have hel' : xel t = ty := by simp [xel, List.getD, hty]
  obtain ⟨cs, g1, g2, g3, g4, g5⟩ := x_anyarr hC.K h2 ht e0
  obtain ⟨q0, q1, q2, q3⟩ := x_arr ht (h2 _ _ e1)
  rw [hel'] at g2
  obtain ⟨gs, k0, hk0, cm0, hkk0⟩ := g2
  obtain ⟨-, k1, hk1, cm1, hkk1⟩ := (hC.K.2 t _ hty).1 0 (fun _ => .null)
  have ci : (nI i).toNatClampNeg = i := nI_clamp (by omega)
  have cj : (nI j).toNatClampNeg = j := nI_clamp (by omega)
  have ck : (nI k).toNatClampNeg = k := nI_clamp (by omega)
  intro T hT Y
  have hgd : ∀ q, q < k → cs.slots.getD ((nI i).toNatClampNeg + q) .null = vs.getD (i + q) .null := fun q hq => by
    rw [ci, g4, Array.getD_eq_getD_getElem?, List.getElem?_toArray, List.getD_eq_getElem?_getD]
  obtain ⟨vm', Y', step⟩ := Y.arraycopy hC.x hC.ow (hC.ts _ hl) (hC.ts _ hna) (hC.ts _ hst) (hC.ts _ hin) (src := a0) (dst := a) (cs := cs) (cd := { cls := X.D.cid (100 + t), slots := ws.toArray, vm := .none }) (srcPos := nI i) (destPos := nI j) (n := nI k) (by rw [hT]; exact g1) (by rw [hT]; exact q3)
    gs (fun _ z => by cases z) g3 (fun z => by cases z) hk0 hk1 hkk0 hkk1 (by simp) (nI_pos (by omega)) (nI_pos (by omega)) (nI_pos (by omega))
    (by rw [x_nn (by omega), x_nn (by omega), g4, List.size_toArray]; omega)
    (by rw [x_nn (by omega), x_nn (by omega)]; show ¬ _ > (((ws.toArray).size : Nat) : Int); rw [List.size_toArray]; omega)
    (fun vm₁ hal q hq => by
      rw [ck] at hq
      rw [hgd q hq]
      obtain ⟨z1, z2⟩ := hel T vm₁ hT hal q hq
      exact ⟨z1, z2 k1 cm1 hk1 hkk1⟩)
    (g := F0 X.m pc A (.int (nI k) :: .int (nI j) :: .ref a :: .int (nI i) :: .ref a0 :: r)) rfl h1.1 (rest := r) rfl (by rw [hC.b]; exact hd) (by have := hC.fr; omega) (by show 2 * 0 + _ + _ ≤ _; have := hC.lo; have hw : nativeFrameWords "java/lang/System" "arraycopy" 5 ≤ 60 := (by decide); omega)
  have ee : copied cs { cls := X.D.cid (100 + t), slots := ws.toArray, vm := .none } (nI i) (nI j) (nI k) = { cls := X.D.cid (100 + t), slots := (xcpy vs ws i j k).toArray, vm := .none } := by
    show Cell.storeRun _ _ (cs.stretch _ _) = _
    rw [ci, cj, ck, x_arrV]
    have := va_copiedX (fun z : Value => z) cs (X.D.cid (100 + t)) (n0 := vs.length) (n1 := ws.length) (sp := i) (dp := j) (n := k) (fun q => vs.getD q .null) (fun q => ws.getD q .null) (fun q hq => by rw [g4, List.getElem?_toArray]; simp [List.getD, hq]) hi
    rw [this, x_arrV2]
    rfl
  rw [ee] at Y' step
  have hlt : a < H.size := (Array.getElem?_eq_some_iff.mp q3).1
  have oq : ∀ q : Nat, q ≠ a → (H.setIfInBounds a ({ cls := X.D.cid (100 + t), slots := (xcpy vs ws i j k).toArray, vm := .none } : Cell))[q]? = H[q]? := fun q hq => by simp [Array.getElem?_setIfInBounds, Ne.symm hq]
  have hlen : (xcpy vs ws i j k).length = ws.length := by simp [xcpy]
  obtain ⟨t', a1, b1⟩ := kk' (H.setIfInBounds a { cls := X.D.cid (100 + t), slots := (xcpy vs ws i j k).toArray, vm := .none }) _ (h2.set (x_arr_mk ht q0 (by rw [hlen]; exact q1) q2 (by simp [Array.getElem?_setIfInBounds, hlt])) oq)
    ⟨by simp; exact h3.1, fun q hq => (oq q (by omega)).trans (h3.2.1 q hq), fun z hz => by
      rcases List.mem_append.mp hz with y | y
      · exact h3.2.2 z y
      · obtain ⟨x, -, hx⟩ := List.mem_map.mp y
        rw [← hx]
        exact q0⟩ _ (by rw [← hT]; rfl) Y'
  exact ⟨t', step t' a1, b1⟩
/-- bytes are copied -/
def o_cpyB (n : Nat) : xOp := fun K ls st h rc rs => match st with
  | .int c :: .int dp :: .ref a :: .int sp :: .ref a0 :: r => ∃ (vs ws : List Value) (i j k : Nat), (h a0 = some (101, vs) ∨ h a0 = some (201, vs)) ∧ h a = some (101, ws) ∧ c = nI k ∧ sp = nI i ∧ dp = nI j ∧ i + k ≤ vs.length ∧ j + k ≤ ws.length ∧ (∀ v ∈ vs, ∃ x : Int32, v = .int x ∧ fits .byte (.int x) = true) ∧ xif (Nat.ble (r.map fun v => v.category).sum 8) (K n ls r (xset h a (101, xcpy vs ws i j k)) rc rs)
  | _ => False
theorem ok_cpyB (hC : xCx X cc own nL d) (h0 : 1 ≤ d) {i9 : Nat} (hd : decode cc pc = .ok (.invokestatic i9, 3)) (hl : Cond.methodLink own i9 arraycopyName ∈ xws) (hna : Cond.native arraycopyName ∈ xws) (hst : Cond.static arraycopyName ∈ xws) (hin : Cond.initialized "java/lang/System" ∈ xws) : xOk X pc (o_cpyB (pc + 3)) := by
  intro K hK ls st h rc rs ho A H locs kk n h1 h2 h3 h4 h5
  unfold o_cpyB at ho
  split at ho
  · obtain ⟨vs, ws, i, j, k, e0, e1, rfl, rfl, rfl, hi, hj, hb, hx⟩ := ho
    obtain ⟨hx, ho⟩ := xif_iff hx
    refine x_cpyAux (t := 1) (ty := .byte) hC h0 hd (by decide) rfl hl hna hst hin e0 e1 hi hj (Nat.le_of_ble_eq_true hx) h1 h2 h3 (fun T vm₁ _ _ q hq => ?_) (fun H' locs' y1 y2 => hK _ _ _ _ _ _ ho A H' locs' kk n h1 y1 y2 h4 h5)
    have hlt : i + q < vs.length := by omega
    obtain ⟨x, z1, z2⟩ := hb (vs.getD (i + q) .null) (by simp [List.getD, hlt])
    rw [z1]
    exact ⟨z2, fun _ _ _ _ => trivial⟩
  · exact ho.elim
/-- references are copied, between two arrays of Objects -/
def o_cpyQ (n : Nat) : xOp := fun K ls st h rc rs => match st with
  | .int c :: .int dp :: .ref a :: .int sp :: .ref a0 :: r => ∃ (vs ws : List Value) (i j k : Nat), (h a0 = some (104, vs) ∨ h a0 = some (204, vs)) ∧ h a = some (104, ws) ∧ c = nI k ∧ sp = nI i ∧ dp = nI j ∧ i + k ≤ vs.length ∧ j + k ≤ ws.length ∧ (∀ v ∈ vs, v = .null ∨ ∃ (b ci : Nat) (fs : List Value), v = .ref b ∧ h b = some (ci, fs) ∧ xok4 ci = true) ∧ xif (Nat.ble (r.map fun v => v.category).sum 8) (K n ls r (xset h a (104, xcpy vs ws i j k)) rc rs)
  | _ => False
theorem ok_cpyQ (hC : xCx X cc own nL d) (h0 : 1 ≤ d) {i9 : Nat} (hd : decode cc pc = .ok (.invokestatic i9, 3)) (hl : Cond.methodLink own i9 arraycopyName ∈ xws) (hna : Cond.native arraycopyName ∈ xws) (hst : Cond.static arraycopyName ∈ xws) (hin : Cond.initialized "java/lang/System" ∈ xws) : xOk X pc (o_cpyQ (pc + 3)) := by
  intro K hK ls st h rc rs ho A H locs kk n h1 h2 h3 h4 h5
  unfold o_cpyQ at ho
  split at ho
  · obtain ⟨vs, ws, i, j, k, e0, e1, rfl, rfl, rfl, hi, hj, hb, hx⟩ := ho
    obtain ⟨hx, ho⟩ := xif_iff hx
    refine x_cpyAux (t := 4) (ty := .object "java/lang/Object") hC h0 hd (by decide) rfl hl hna hst hin e0 e1 hi hj (Nat.le_of_ble_eq_true hx) h1 h2 h3 (fun T vm₁ hT hal q hq => ?_) (fun H' locs' y1 y2 => hK _ _ _ _ _ _ ho A H' locs' kk n h1 y1 y2 h4 h5)
    have hlt : i + q < vs.length := by omega
    rcases hb (vs.getD (i + q) .null) (by simp [List.getD, hlt]) with z | ⟨b, ci, fs, z1, z2, z3⟩
    · rw [z]; exact ⟨rfl, fun _ _ _ _ => trivial⟩
    · rw [z1]
      refine ⟨rfl, fun kA comp hkA hkind => ?_⟩
      obtain ⟨hci, r0, hc, hcast⟩ := xok4_ok ci z3
      obtain ⟨g0, r', w1, w2, cellV, w3, w4, w5, w6⟩ := x_obj hci (h2 _ _ z2)
      have hr : r' = r0 := Option.some.inj (w1.symm.trans hc)
      subst hr
      have hcls := (hC.K.1 ci _ hc).2
      obtain ⟨kC, hkC, -⟩ := hcls.2
      obtain ⟨kA', comp', k1, k2, k3, -⟩ := (hC.K.2 4 (.object "java/lang/Object") rfl).2
      cases Option.some.inj (hkA.symm.trans k1)
      have hcc : comp = comp' := by rw [k2] at hkind; cases hkind; rfl
      subst hcc
      obtain ⟨kE, hkE⟩ := Vm.classAt_of_findClass k3
      have hasg : X.s.vm.assignable (X.D.cid ci) comp = true := by
        rcases hcast with z | z
        · rw [z] at hcls
          have hcomp : comp = X.D.cid ci := Option.some.inj (k3.symm.trans hcls.1)
          subst hcomp
          exact va_assign hcls
        · obtain ⟨c1, t1, y2, y3, y4⟩ := Cond.castable_spec (hC.ts _ z)
          cases Option.some.inj (hcls.1.symm.trans y2)
          cases Option.some.inj (k3.symm.trans y3)
          exact y4
      obtain ⟨kC', hkC', -⟩ := hal.2.2 _ _ hkC
      obtain ⟨kE', hkE', -⟩ := hal.2.2 _ _ hkE
      refine ⟨cellV, (show T.heap[b]? = some cellV by rw [hT]; exact w3), (fun q h => by rw [w5] at h; cases h), ⟨kC', by rw [w4]; exact hkC'⟩, ⟨kE', hkE'⟩, ?_⟩
      show vm₁.assignable _ _ = true
      rw [hal.assignable, w4]
      exact hasg
  · exact ho.elim
/-- clone of a byte array -/
def o_clone (n : Nat) : xOp := fun K ls st h rc rs => match st with
  | .ref a :: r => ∃ vs : List Value, h a = some (101, vs) ∧ (∀ v ∈ vs, ∃ x : Int32, v = .int x ∧ fits .byte (.int x) = true) ∧ 1 ≤ rc ∧ vs.length ≤ rs ∧ xif (Nat.ble (r.map fun v => v.category).sum 8) (∀ q : Nat, h q = none → K n ls (.ref q :: r) (xset h q (101, vs)) (rc - 1) (rs - vs.length))
  | _ => False
theorem ok_clone (hC : xCx X cc own nL d) (h0 : 1 ≤ d) {i9 : Nat} (hd : decode cc pc = .ok (.invokevirtual i9, 3)) (hl : Cond.methodLink own i9 ⟨"[B", "clone", "()Ljava/lang/Object;"⟩ ∈ xws) (hsa : Cond.sameMethod "[B" "java/lang/Object" "clone" "()Ljava/lang/Object;" ∈ xws) (hna : Cond.native ⟨"java/lang/Object", "clone", "()Ljava/lang/Object;"⟩ ∈ xws) (hin : Cond.instanceMethod ⟨"java/lang/Object", "clone", "()Ljava/lang/Object;"⟩ ∈ xws)
    (hse : Cond.selects "[B" ⟨"[B", "clone", "()Ljava/lang/Object;"⟩ ⟨"java/lang/Object", "clone", "()Ljava/lang/Object;"⟩ ∈ xws) (hca : Cond.castable "[B" "java/lang/Cloneable" ∈ xws) : xOk X pc (o_clone (pc + 3)) := by
  intro K hK ls st h rc rs ho A H locs kk n h1 h2 h3 h4 h5
  unfold o_clone at ho
  split at ho
  · rename_i a r
    obtain ⟨vs, e1, hb, e2, e3, hx⟩ := ho
    obtain ⟨hx, ho⟩ := xif_iff hx
    obtain ⟨q0, q1, q2, q3⟩ := x_arr (t := 1) (by decide) (h2 _ _ e1)
    have hnm : X.s.vm.findClass "[B" = some (X.D.cid 101) := (hC.K.2 1 .byte rfl).2
    obtain ⟨c0, t0', f1, f2, f3⟩ := Cond.castable_spec (hC.ts _ hca)
    cases hnm.symm.trans f1
    have hs1 : X.s.heap.size ≤ H.size := h3.1
    have hsz : X.D.sz ≤ H.size := Nat.le_trans hC.z h3.1
    intro T hT Y
    obtain ⟨-, kA, hkA, comp, hkind⟩ := State.isArrayOf_alike Y.warmed.alike ((hC.K.2 1 .byte rfl).1 0 (fun _ => .null))
    obtain ⟨-, kS, hkS, compS, hkindS⟩ := (hC.K.2 1 .byte rfl).1 0 (fun _ => .null)
    obtain ⟨vm', Y', st⟩ := Y.cloneArray hC.x hC.ow (hC.ts _ hl) (hC.ts _ hsa) (hC.ts _ hna) (hC.ts _ hin) (hC.ts _ hse) (a := a) (cell := { cls := X.D.cid 101, slots := vs.toArray, vm := .none }) (by rw [hT]; exact q3) (fun k z => by cases z) (fun z => by cases z) hnm f2 f3
      (fun i v hv => by
        have hk' : T.vm.classes[X.D.cid 101]? = some kA := hkA
        have hv' : v ∈ vs := by
          have := hv
          rw [List.getElem?_toArray] at this
          exact List.mem_of_getElem? this
        obtain ⟨x, z1, z2⟩ := hb v hv'
        simpa [State.fitsSlot, State.slotType?, hk', hkind, z1] using z2)
      (g := F0 X.m pc A (.ref a :: r)) rfl h1.1 rfl (by rw [hC.b]; exact hd) (by have := hC.fr; omega) (by show 2 * 0 + _ + 14 ≤ _; have := hC.lo; have := Nat.le_of_ble_eq_true hx; omega) (by omega) (by show n + (vs.toArray).size ≤ _; rw [List.size_toArray]; omega) (hloader := Vm.clonesLoader_of_array hkS hkindS)
    have hpush : ((T.setVm vm').pushCell { cls := X.D.cid 101, slots := vs.toArray }).heap = H.push { cls := X.D.cid 101, slots := vs.toArray, vm := .none } := by rw [← hT]; rfl
    obtain ⟨t', b1, b2⟩ := hK _ _ _ _ _ _ (ho H.size h2.fresh) A (H.push { cls := X.D.cid 101, slots := vs.toArray, vm := .none }) locs (kk + 1) (n + vs.length) h1 (h2.push (x_arr_mk (t := 1) (by decide) hsz q1 q2 (by simp)) (fun q hq => by rw [Array.getElem?_push, if_neg (Nat.ne_of_lt hq)])) ⟨by simp; omega, fun q hq => by rw [Array.getElem?_push, if_neg (by omega)]; exact h3.2.1 q hq, h3.2.2⟩ (by omega) (by omega)
      ((T.setVm vm').pushCell { cls := X.D.cid 101, slots := vs.toArray }) hpush (by have := Y'; simp only [List.size_toArray] at this; exact this)
    refine ⟨t', st t' ?_, b2⟩
    rw [hT]
    exact b1
  · exact ho.elim
end XCPY
end
