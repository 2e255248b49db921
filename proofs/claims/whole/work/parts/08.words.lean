def y_Sc_init : MethodName := ⟨"StyleCourt", "<init>", "()V"⟩
def y_Oj_init : MethodName := ⟨"java/lang/Object", "<init>", "()V"⟩
def y_Rd_init : MethodName := ⟨"StyleCourt$Reader", "<init>", "([BI)V"⟩
def y_Ar_copyOf : MethodName := ⟨"java/util/Arrays", "copyOf", "([BI)[B"⟩
def y_aB_clone : MethodName := ⟨"[B", "clone", "()Ljava/lang/Object;"⟩
def y_Oj_clone : MethodName := ⟨"java/lang/Object", "clone", "()Ljava/lang/Object;"⟩
def y_Ma_min : MethodName := ⟨"java/lang/Math", "min", "(II)I"⟩
def y_Sys_arraycopy : MethodName := ⟨"java/lang/System", "arraycopy", "(Ljava/lang/Object;ILjava/lang/Object;II)V"⟩
def y_So_init : MethodName := ⟨"StyleCourt$Source", "<init>", "()V"⟩
def y_AL_init : MethodName := ⟨"java/util/ArrayList", "<init>", "()V"⟩
def y_AB_init : MethodName := ⟨"java/util/AbstractList", "<init>", "()V"⟩
def y_AC_init : MethodName := ⟨"java/util/AbstractCollection", "<init>", "()V"⟩
def y_Sl_init : MethodName := ⟨"StyleCourt$Slice", "<init>", "([BII)V"⟩
def y_El_init : MethodName := ⟨"StyleCourt$Element", "<init>", "(LStyleCourt$Slice;LStyleCourt$Element;II)V"⟩
def y_Nd_init : MethodName := ⟨"StyleCourt$Named", "<init>", "(LStyleCourt$Slice;LStyleCourt$Slice;)V"⟩
def y_AL_add : MethodName := ⟨"java/util/ArrayList", "add", "(Ljava/lang/Object;)Z"⟩
def y_AL_add2 : MethodName := ⟨"java/util/ArrayList", "add", "(Ljava/lang/Object;[Ljava/lang/Object;I)V"⟩
def y_AL_grow : MethodName := ⟨"java/util/ArrayList", "grow", "()[Ljava/lang/Object;"⟩
def y_AL_grow2 : MethodName := ⟨"java/util/ArrayList", "grow", "(I)[Ljava/lang/Object;"⟩
def y_AS_newLength : MethodName := ⟨"jdk/internal/util/ArraysSupport", "newLength", "(III)I"⟩
def y_Ma_max : MethodName := ⟨"java/lang/Math", "max", "(II)I"⟩
def y_AS_hugeLength : MethodName := ⟨"jdk/internal/util/ArraysSupport", "hugeLength", "(II)I"⟩
def y_Ar_copyOf2 : MethodName := ⟨"java/util/Arrays", "copyOf", "([Ljava/lang/Object;I)[Ljava/lang/Object;"⟩
def y_Oj_getClass : MethodName := ⟨"java/lang/Object", "getClass", "()Ljava/lang/Class;"⟩
def y_Ar_copyOf3 : MethodName := ⟨"java/util/Arrays", "copyOf", "([Ljava/lang/Object;ILjava/lang/Class;)[Ljava/lang/Object;"⟩
def y_Sy_init : MethodName := ⟨"StyleCourt$Style", "<init>", "()V"⟩
def y_Sc_place : MethodName := ⟨"StyleCourt", "place", "()I"⟩
def y_Lw_feed : MethodName := ⟨"StyleCourtLaw", "feed", "(LStyleCourt;IIIII[J)I"⟩
def y_Sc_feed : MethodName := ⟨"StyleCourt", "feed", "(IIIII)I"⟩
def y_Rt_init : MethodName := ⟨"java/lang/RuntimeException", "<init>", "()V"⟩
def y_Rt_init2 : MethodName := ⟨"java/lang/RuntimeException", "<init>", "(Ljava/lang/String;)V"⟩
def y_Ex_init : MethodName := ⟨"java/lang/Exception", "<init>", "()V"⟩
def y_Ex_init2 : MethodName := ⟨"java/lang/Exception", "<init>", "(Ljava/lang/String;)V"⟩
def y_Th_init : MethodName := ⟨"java/lang/Throwable", "<init>", "()V"⟩
def y_Th_init2 : MethodName := ⟨"java/lang/Throwable", "<init>", "(Ljava/lang/String;)V"⟩
def y_Th_fillInStackTrace : MethodName := ⟨"java/lang/Throwable", "fillInStackTrace", "(I)Ljava/lang/Throwable;"⟩
def y_Th_fillInStackTrace2 : MethodName := ⟨"java/lang/Throwable", "fillInStackTrace", "()Ljava/lang/Throwable;"⟩
def y_XI_init : MethodName := ⟨"java/lang/IndexOutOfBoundsException", "<init>", "(Ljava/lang/String;)V"⟩
def y_Sc_putOnTape : MethodName := ⟨"StyleCourt", "putOnTape", "(I)V"⟩
def y_Lw_end : MethodName := ⟨"StyleCourtLaw", "end", "(LStyleCourt;I[J)I"⟩
def y_Sc_end : MethodName := ⟨"StyleCourt", "end", "(I)I"⟩
def y_XA_init : MethodName := ⟨"java/lang/IllegalArgumentException", "<init>", "(Ljava/lang/String;)V"⟩
def y_Lw_source : MethodName := ⟨"StyleCourtLaw", "source", "(LStyleCourt;[J)I"⟩
def y_Sc_source : MethodName := ⟨"StyleCourt", "source", "()I"⟩
def y_Sc_takeTape : MethodName := ⟨"StyleCourt", "takeTape", "()LStyleCourt$Reader;"⟩
def y_Rd_here : MethodName := ⟨"StyleCourt$Reader", "here", "()I"⟩
def y_So_readPiece : MethodName := ⟨"StyleCourt$Source", "readPiece", "(LStyleCourt$Reader;)V"⟩
def y_So_readMarkup : MethodName := ⟨"StyleCourt$Source", "readMarkup", "(LStyleCourt$Reader;I)V"⟩
def y_So_readEndOfElement : MethodName := ⟨"StyleCourt$Source", "readEndOfElement", "(LStyleCourt$Reader;)V"⟩
def y_Rd_failAt : MethodName := ⟨"StyleCourt$Reader", "failAt", "(I)V"⟩
def y_XU_init : MethodName := ⟨"java/lang/UnsupportedOperationException", "<init>", "(Ljava/lang/String;)V"⟩
def y_Rd_readName : MethodName := ⟨"StyleCourt$Reader", "readName", "()LStyleCourt$Slice;"⟩
def y_Sc_isSmall : MethodName := ⟨"StyleCourt", "isSmall", "(I)Z"⟩
def y_Sc_isDigit : MethodName := ⟨"StyleCourt", "isDigit", "(I)Z"⟩
def y_Sl_sameAs : MethodName := ⟨"StyleCourt$Slice", "sameAs", "(LStyleCourt$Slice;)Z"⟩
def y_Rd_expectSign : MethodName := ⟨"StyleCourt$Reader", "expectSign", "(C)V"⟩
def y_Rd_nextSign : MethodName := ⟨"StyleCourt$Reader", "nextSign", "()I"⟩
def y_Sc_isBlank : MethodName := ⟨"StyleCourt", "isBlank", "(I)Z"⟩
def y_So_finish : MethodName := ⟨"StyleCourt$Source", "finish", "(LStyleCourt$Element;I)V"⟩
def y_AL_size : MethodName := ⟨"java/util/ArrayList", "size", "()I"⟩
def y_So_readBeginOfElement : MethodName := ⟨"StyleCourt$Source", "readBeginOfElement", "(LStyleCourt$Reader;I)V"⟩
def y_So_readFields : MethodName := ⟨"StyleCourt$Source", "readFields", "(LStyleCourt$Reader;LStyleCourt$Element;)V"⟩
def y_Sc_findNamed : MethodName := ⟨"StyleCourt", "findNamed", "(Ljava/util/ArrayList;LStyleCourt$Slice;)LStyleCourt$Named;"⟩
def y_AL_get : MethodName := ⟨"java/util/ArrayList", "get", "(I)Ljava/lang/Object;"⟩
def y_Ob_checkIndex : MethodName := ⟨"java/util/Objects", "checkIndex", "(II)I"⟩
def y_Pr_checkIndex : MethodName := ⟨"jdk/internal/util/Preconditions", "checkIndex", "(IILjava/util/function/BiFunction;)I"⟩
def y_AL_elementData : MethodName := ⟨"java/util/ArrayList", "elementData", "(I)Ljava/lang/Object;"⟩
def y_Rd_readString : MethodName := ⟨"StyleCourt$Reader", "readString", "()LStyleCourt$Slice;"⟩
def y_Sc_isPrinted : MethodName := ⟨"StyleCourt", "isPrinted", "(I)Z"⟩
def y_Rd_expect : MethodName := ⟨"StyleCourt$Reader", "expect", "(C)V"⟩
def y_Rd_skipComment : MethodName := ⟨"StyleCourt$Reader", "skipComment", "()V"⟩
def y_Rd_commentEndsHere : MethodName := ⟨"StyleCourt$Reader", "commentEndsHere", "()Z"⟩
def y_So_readEntity : MethodName := ⟨"StyleCourt$Source", "readEntity", "(LStyleCourt$Reader;)V"⟩
def y_Sl_holds : MethodName := ⟨"StyleCourt$Slice", "holds", "(I)Z"⟩
def y_So_readReference : MethodName := ⟨"StyleCourt$Source", "readReference", "(LStyleCourt$Reader;)V"⟩
def y_So_addText : MethodName := ⟨"StyleCourt$Source", "addText", "(LStyleCourt$Slice;)V"⟩
def y_So_readText : MethodName := ⟨"StyleCourt$Source", "readText", "(LStyleCourt$Reader;)V"⟩
def y_So_isText : MethodName := ⟨"StyleCourt$Source", "isText", "(I)Z"⟩
def y_Lw_style : MethodName := ⟨"StyleCourtLaw", "style", "(LStyleCourt;[J)I"⟩
def y_Sc_style : MethodName := ⟨"StyleCourt", "style", "()I"⟩
def y_Ru_init : MethodName := ⟨"StyleCourt$Rule", "<init>", "()V"⟩
def y_Sy_readSelectors : MethodName := ⟨"StyleCourt$Style", "readSelectors", "(LStyleCourt$Reader;LStyleCourt$Rule;)V"⟩
def y_Se_init : MethodName := ⟨"StyleCourt$Selector", "<init>", "()V"⟩
def y_Se_readSteps : MethodName := ⟨"StyleCourt$Selector", "readSteps", "(LStyleCourt$Reader;)V"⟩
def y_Sp_init : MethodName := ⟨"StyleCourt$Step", "<init>", "(I)V"⟩
def y_Sp_readFrom : MethodName := ⟨"StyleCourt$Step", "readFrom", "(LStyleCourt$Reader;)V"⟩
def y_Co_init : MethodName := ⟨"StyleCourt$Condition", "<init>", "()V"⟩
def y_Co_readBracket : MethodName := ⟨"StyleCourt$Condition", "readBracket", "(LStyleCourt$Reader;)V"⟩
def y_Co_readColon : MethodName := ⟨"StyleCourt$Condition", "readColon", "(LStyleCourt$Reader;)V"⟩
def y_Sl_spells : MethodName := ⟨"StyleCourt$Slice", "spells", "(Ljava/lang/String;)Z"⟩
def y_Sg_length : MethodName := ⟨"java/lang/String", "length", "()I"⟩
def y_Sg_coder : MethodName := ⟨"java/lang/String", "coder", "()B"⟩
def y_Sg_charAt : MethodName := ⟨"java/lang/String", "charAt", "(I)C"⟩
def y_Sg_isLatin1 : MethodName := ⟨"java/lang/String", "isLatin1", "()Z"⟩
def y_L1_charAt : MethodName := ⟨"java/lang/StringLatin1", "charAt", "([BI)C"⟩
def y_Sg_checkIndex : MethodName := ⟨"java/lang/String", "checkIndex", "(II)V"⟩
def y_U16_charAt : MethodName := ⟨"java/lang/StringUTF16", "charAt", "([BI)C"⟩
def y_U16_checkIndex : MethodName := ⟨"java/lang/StringUTF16", "checkIndex", "(I[B)V"⟩
def y_U16_length : MethodName := ⟨"java/lang/StringUTF16", "length", "([B)I"⟩
def y_U16_getChar : MethodName := ⟨"java/lang/StringUTF16", "getChar", "([BI)C"⟩
def y_Rd_readNumber : MethodName := ⟨"StyleCourt$Reader", "readNumber", "()I"⟩
def y_Sp_ownWeight : MethodName := ⟨"StyleCourt$Step", "ownWeight", "()I"⟩
def y_Sy_readBody : MethodName := ⟨"StyleCourt$Style", "readBody", "(LStyleCourt$Reader;LStyleCourt$Rule;)V"⟩
def y_Sy_readTold : MethodName := ⟨"StyleCourt$Style", "readTold", "(LStyleCourt$Reader;)LStyleCourt$Told;"⟩
def y_Sy_numberOfName : MethodName := ⟨"StyleCourt$Style", "numberOfName", "(LStyleCourt$Slice;)I"⟩
def y_To_init : MethodName := ⟨"StyleCourt$Told", "<init>", "(II)V"⟩
def y_To_readValue : MethodName := ⟨"StyleCourt$Told", "readValue", "(LStyleCourt$Reader;)V"⟩
def y_To_readAmount : MethodName := ⟨"StyleCourt$Told", "readAmount", "(LStyleCourt$Reader;)V"⟩
def y_Lw_property : MethodName := ⟨"StyleCourtLaw", "property", "(LStyleCourt;I[J)I"⟩
def y_Sc_property : MethodName := ⟨"StyleCourt", "property", "(I)I"⟩
def y_Sc_takeName : MethodName := ⟨"StyleCourt", "takeName", "()LStyleCourt$Slice;"⟩
def y_Sc_elementAt : MethodName := ⟨"StyleCourt", "elementAt", "(I)LStyleCourt$Element;"⟩
def y_Sy_countingFor : MethodName := ⟨"StyleCourt$Style", "countingFor", "(LStyleCourt$Element;I[LStyleCourt$Element;)LStyleCourt$Told;"⟩
def y_Ru_leading : MethodName := ⟨"StyleCourt$Rule", "leading", "(I)LStyleCourt$Told;"⟩
def y_Ru_weightFor : MethodName := ⟨"StyleCourt$Rule", "weightFor", "(LStyleCourt$Element;[LStyleCourt$Element;)I"⟩
def y_Se_matches : MethodName := ⟨"StyleCourt$Selector", "matches", "(LStyleCourt$Element;[LStyleCourt$Element;)Z"⟩
def y_Sp_matches : MethodName := ⟨"StyleCourt$Step", "matches", "(LStyleCourt$Element;)Z"⟩
def y_Co_holdsFor : MethodName := ⟨"StyleCourt$Condition", "holdsFor", "(LStyleCourt$Element;)Z"⟩
def y_El_isEmpty : MethodName := ⟨"StyleCourt$Element", "isEmpty", "()Z"⟩
def y_Co_holdsForField : MethodName := ⟨"StyleCourt$Condition", "holdsForField", "(LStyleCourt$Named;)Z"⟩
def y_Se_moveBack : MethodName := ⟨"StyleCourt$Selector", "moveBack", "([LStyleCourt$Element;II)V"⟩
def y_Sy_isAhead : MethodName := ⟨"StyleCourt$Style", "isAhead", "(LStyleCourt$Told;ILStyleCourt$Told;I)Z"⟩
def y_To_leansOnOuter : MethodName := ⟨"StyleCourt$Told", "leansOnOuter", "()Z"⟩
def y_Sc_putValue : MethodName := ⟨"StyleCourt", "putValue", "(LStyleCourt$Told;I)I"⟩
def y_Sc_putSlice : MethodName := ⟨"StyleCourt", "putSlice", "(LStyleCourt$Slice;)I"⟩
def y_Sl_copyTo : MethodName := ⟨"StyleCourt$Slice", "copyTo", "([BI)I"⟩
def y_Ma_min2 : MethodName := ⟨"java/lang/Math", "min", "(JJ)J"⟩
def y_Sc_putNumber : MethodName := ⟨"StyleCourt", "putNumber", "(I)V"⟩
def y_Lw_by : MethodName := ⟨"StyleCourtLaw", "by", "(LStyleCourt;I[J)I"⟩
def y_Sc_by : MethodName := ⟨"StyleCourt", "by", "(I)I"⟩
def y_Lw_select : MethodName := ⟨"StyleCourtLaw", "select", "(LStyleCourt;[J)I"⟩
def y_Sc_select : MethodName := ⟨"StyleCourt", "select", "()I"⟩
def y_Lw_found : MethodName := ⟨"StyleCourtLaw", "found", "(LStyleCourt;I[J)I"⟩
def y_Sc_found : MethodName := ⟨"StyleCourt", "found", "(I)I"⟩
def y_Lw_fits : MethodName := ⟨"StyleCourtLaw", "fits", "(LStyleCourt;II[J)I"⟩
def y_Sc_fits : MethodName := ⟨"StyleCourt", "fits", "(II)I"⟩
def y_Lw_element : MethodName := ⟨"StyleCourtLaw", "element", "(LStyleCourt;II[J)I"⟩
def y_Sc_element : MethodName := ⟨"StyleCourt", "element", "(II)I"⟩
def y_Lw_tell : MethodName := ⟨"StyleCourtLaw", "tell", "(LStyleCourt;II[J)I"⟩
def y_Sc_tell : MethodName := ⟨"StyleCourt", "tell", "(II)I"⟩
def y_Sc_putTexts : MethodName := ⟨"StyleCourt", "putTexts", "(LStyleCourt$Element;)I"⟩
def y_Lw_word : MethodName := ⟨"StyleCourtLaw", "word", "(LStyleCourt;I[J)I"⟩
def y_Sc_word : MethodName := ⟨"StyleCourt", "word", "(I)J"⟩
def y_Lw_count : MethodName := ⟨"StyleCourtLaw", "count", "(LStyleCourt;I[J)I"⟩
def y_Sc_count : MethodName := ⟨"StyleCourt", "count", "(I)I"⟩
def y_Mo_init : MethodName := ⟨"StyleCourtModel", "<init>", "()V"⟩
def y_Mo_thrown : MethodName := ⟨"StyleCourtModel", "thrown", "()I"⟩
def y_Mo_feed : MethodName := ⟨"StyleCourtModel", "feed", "(IIIII)I"⟩
def y_Mo_refuse : MethodName := ⟨"StyleCourtModel", "refuse", "(I)I"⟩
def y_Mo_four : MethodName := ⟨"StyleCourtModel", "four", "(I)V"⟩
def y_Mo_end : MethodName := ⟨"StyleCourtModel", "end", "(I)I"⟩
def y_Mo_in : MethodName := ⟨"StyleCourtModel", "in", "(III)Z"⟩
def y_Mo_source : MethodName := ⟨"StyleCourtModel", "source", "()I"⟩
def y_Mo_take : MethodName := ⟨"StyleCourtModel", "take", "(I)V"⟩
def y_Mo_readSource : MethodName := ⟨"StyleCourtModel", "readSource", "()V"⟩
def y_Mo_byteAt : MethodName := ⟨"StyleCourtModel", "byteAt", "(I)I"⟩
def y_Mo_closed : MethodName := ⟨"StyleCourtModel", "closed", "(I)I"⟩
def y_Mo_wrong : MethodName := ⟨"StyleCourtModel", "wrong", "(I)V"⟩
def y_Mo_nameFrom : MethodName := ⟨"StyleCourtModel", "nameFrom", "(I)I"⟩
def y_Mo_isSmall : MethodName := ⟨"StyleCourtModel", "isSmall", "(I)Z"⟩
def y_Mo_isDigit : MethodName := ⟨"StyleCourtModel", "isDigit", "(I)Z"⟩
def y_Mo_same : MethodName := ⟨"StyleCourtModel", "same", "(IIII)Z"⟩
def y_Mo_blanks : MethodName := ⟨"StyleCourtModel", "blanks", "()V"⟩
def y_Mo_isBlank : MethodName := ⟨"StyleCourtModel", "isBlank", "(I)Z"⟩
def y_Mo_comment : MethodName := ⟨"StyleCourtModel", "comment", "()V"⟩
def y_Mo_defined : MethodName := ⟨"StyleCourtModel", "defined", "()V"⟩
def y_Mo_isFixed : MethodName := ⟨"StyleCourtModel", "isFixed", "(II)Z"⟩
def y_Mo_isWord : MethodName := ⟨"StyleCourtModel", "isWord", "(IIJ)Z"⟩
def y_Mo_entity : MethodName := ⟨"StyleCourtModel", "entity", "(II)I"⟩
def y_Mo_stringFrom : MethodName := ⟨"StyleCourtModel", "stringFrom", "(I)I"⟩
def y_Mo_behindString : MethodName := ⟨"StyleCourtModel", "behindString", "(I)I"⟩
def y_Mo_opened : MethodName := ⟨"StyleCourtModel", "opened", "(I)I"⟩
def y_Mo_field : MethodName := ⟨"StyleCourtModel", "field", "(I)V"⟩
def y_Mo_reference : MethodName := ⟨"StyleCourtModel", "reference", "(I)V"⟩
def y_Mo_piece : MethodName := ⟨"StyleCourtModel", "piece", "(III)V"⟩
def y_Mo_style : MethodName := ⟨"StyleCourtModel", "style", "()I"⟩
def y_Mo_readStyle : MethodName := ⟨"StyleCourtModel", "readStyle", "()V"⟩
def y_Mo_next : MethodName := ⟨"StyleCourtModel", "next", "()V"⟩
def y_Mo_selector : MethodName := ⟨"StyleCourtModel", "selector", "(I)V"⟩
def y_Mo_step : MethodName := ⟨"StyleCourtModel", "step", "(II)V"⟩
def y_Mo_isSign : MethodName := ⟨"StyleCourtModel", "isSign", "(I)Z"⟩
def y_Mo_bracket : MethodName := ⟨"StyleCourtModel", "bracket", "()V"⟩
def y_Mo_needKind : MethodName := ⟨"StyleCourtModel", "needKind", "(I)V"⟩
def y_Mo_need : MethodName := ⟨"StyleCourtModel", "need", "(I)V"⟩
def y_Mo_colon : MethodName := ⟨"StyleCourtModel", "colon", "()V"⟩
def y_Mo_body : MethodName := ⟨"StyleCourtModel", "body", "(I)V"⟩
def y_Mo_known : MethodName := ⟨"StyleCourtModel", "known", "(II)I"⟩
def y_Mo_oneValue : MethodName := ⟨"StyleCourtModel", "oneValue", "()V"⟩
def y_Mo_place : MethodName := ⟨"StyleCourtModel", "place", "()I"⟩
def y_Mo_by : MethodName := ⟨"StyleCourtModel", "by", "(I)I"⟩
def y_Mo_asked : MethodName := ⟨"StyleCourtModel", "asked", "()I"⟩
def y_Mo_isThere : MethodName := ⟨"StyleCourtModel", "isThere", "(I)Z"⟩
def y_Mo_counts : MethodName := ⟨"StyleCourtModel", "counts", "(II)I"⟩
def y_Mo_selectorFits : MethodName := ⟨"StyleCourtModel", "selectorFits", "(II)Z"⟩
def y_Mo_stepFits : MethodName := ⟨"StyleCourtModel", "stepFits", "(II)Z"⟩
def y_Mo_isSo : MethodName := ⟨"StyleCourtModel", "isSo", "(II)Z"⟩
def y_Mo_fieldOf : MethodName := ⟨"StyleCourtModel", "fieldOf", "(III)I"⟩
def y_Mo_among : MethodName := ⟨"StyleCourtModel", "among", "(I)I"⟩
def y_Mo_property : MethodName := ⟨"StyleCourtModel", "property", "(I)I"⟩
def y_Mo_sayNumber : MethodName := ⟨"StyleCourtModel", "sayNumber", "(J)V"⟩
def y_Mo_say : MethodName := ⟨"StyleCourtModel", "say", "(II)V"⟩
def y_Mo_select : MethodName := ⟨"StyleCourtModel", "select", "()I"⟩
def y_Mo_found : MethodName := ⟨"StyleCourtModel", "found", "(I)I"⟩
def y_Mo_fits : MethodName := ⟨"StyleCourtModel", "fits", "(II)I"⟩
def y_Mo_element : MethodName := ⟨"StyleCourtModel", "element", "(II)I"⟩
def y_Mo_tell : MethodName := ⟨"StyleCourtModel", "tell", "(II)I"⟩
def y_Mo_word : MethodName := ⟨"StyleCourtModel", "word", "(I)J"⟩
def y_Mo_count : MethodName := ⟨"StyleCourtModel", "count", "(I)I"⟩
def y_Lw_law : MethodName := ⟨"StyleCourtLaw", "law", "([I)Z"⟩
theorem xA {X : xX} {q : Nat × xOp} {t : List (Nat × xOp)} (h : xOk X q.1 q.2) (ht : xAll X t) : xAll X (q :: t) := ⟨h, ht⟩
theorem xcast_ok {ci : Nat} {C : String} {r0 : vw_C} (hci : ci < 100) (hc : xcl[ci]? = some r0) (hC : r0.1 = C) : ∀ k, Nat.beq ci k = true → k < 100 ∧ ∃ r0, xcl[k]? = some r0 ∧ r0.1 = C := fun k h => by
  have e : ci = k := Nat.eq_of_beq_eq_true h
  subst e
  exact ⟨hci, r0, hc, hC⟩
theorem xoc {a : Cond} {l : List Cond} {P : Cond → Prop} (h : P a) (hl : ∀ b ∈ l, P b) : ∀ b ∈ a :: l, P b := List.forall_mem_cons.mpr ⟨h, hl⟩
theorem wt_1 {w : Cond} (h : w ∈ tables_1_1) : w ∈ lw_tbl := List.mem_append_right _ (List.mem_append_left _ h)
theorem wt_2 {w : Cond} (h : w ∈ tables_1_2) : w ∈ lw_tbl := List.mem_append_right _ (List.mem_append_right _ (List.mem_append_left _ h))
theorem wt_3 {w : Cond} (h : w ∈ tables_1_3) : w ∈ lw_tbl := List.mem_append_right _ (List.mem_append_right _ (List.mem_append_right _ (List.mem_append_left _ h)))
theorem wt_4 {w : Cond} (h : w ∈ tables_1_4) : w ∈ lw_tbl := List.mem_append_right _ (List.mem_append_right _ (List.mem_append_right _ (List.mem_append_right _ (List.mem_append_left _ h))))
theorem wt_5 {w : Cond} (h : w ∈ tables_1_5) : w ∈ lw_tbl := List.mem_append_right _ (List.mem_append_right _ (List.mem_append_right _ (List.mem_append_right _ (List.mem_append_right _ (List.mem_append_left _ h)))))
theorem wt_6 {w : Cond} (h : w ∈ tables_1_6) : w ∈ lw_tbl := List.mem_append_right _ (List.mem_append_right _ (List.mem_append_right _ (List.mem_append_right _ (List.mem_append_right _ (List.mem_append_right _ (List.mem_append_left _ h))))))
theorem wt_7 {w : Cond} (h : w ∈ tables_1_7) : w ∈ lw_tbl := List.mem_append_right _ (List.mem_append_right _ (List.mem_append_right _ (List.mem_append_right _ (List.mem_append_right _ (List.mem_append_right _ (List.mem_append_right _ (h)))))))
theorem w_0 : Cond.selects "java/util/ArrayList" y_AL_add2 y_AL_add2 ∈ xws := xws_at 0 (by decide +kernel) rfl
theorem w_1 : Cond.selects "java/util/ArrayList" y_AL_grow y_AL_grow ∈ xws := xws_at 1 (by decide +kernel) rfl
theorem w_2 : Cond.selects "java/util/ArrayList" y_AL_grow2 y_AL_grow2 ∈ xws := xws_at 2 (by decide +kernel) rfl
theorem w_4 : Cond.selects "StyleCourt" y_Sc_putOnTape y_Sc_putOnTape ∈ xws := xws_at 4 (by decide +kernel) rfl
theorem w_5 : Cond.selects "StyleCourt" y_Sc_takeTape y_Sc_takeTape ∈ xws := xws_at 5 (by decide +kernel) rfl
theorem w_6 : Cond.selects "StyleCourt$Source" y_So_readMarkup y_So_readMarkup ∈ xws := xws_at 6 (by decide +kernel) rfl
theorem w_7 : Cond.selects "StyleCourt$Source" y_So_readEndOfElement y_So_readEndOfElement ∈ xws := xws_at 7 (by decide +kernel) rfl
theorem w_8 : Cond.selects "StyleCourt$Source" y_So_finish y_So_finish ∈ xws := xws_at 8 (by decide +kernel) rfl
theorem w_9 : Cond.selects "StyleCourt$Source" y_So_readBeginOfElement y_So_readBeginOfElement ∈ xws := xws_at 9 (by decide +kernel) rfl
theorem w_10 : Cond.selects "StyleCourt$Source" y_So_readFields y_So_readFields ∈ xws := xws_at 10 (by decide +kernel) rfl
theorem w_11 : Cond.selects "StyleCourt$Reader" y_Rd_commentEndsHere y_Rd_commentEndsHere ∈ xws := xws_at 11 (by decide +kernel) rfl
theorem w_12 : Cond.selects "StyleCourt$Source" y_So_readEntity y_So_readEntity ∈ xws := xws_at 12 (by decide +kernel) rfl
theorem w_13 : Cond.selects "StyleCourt$Source" y_So_readReference y_So_readReference ∈ xws := xws_at 13 (by decide +kernel) rfl
theorem w_14 : Cond.selects "StyleCourt$Source" y_So_addText y_So_addText ∈ xws := xws_at 14 (by decide +kernel) rfl
theorem w_15 : Cond.selects "StyleCourt$Source" y_So_readText y_So_readText ∈ xws := xws_at 15 (by decide +kernel) rfl
theorem w_16 : Cond.selects "StyleCourt$Style" y_Sy_readTold y_Sy_readTold ∈ xws := xws_at 16 (by decide +kernel) rfl
theorem w_17 : Cond.selects "StyleCourt$Told" y_To_readAmount y_To_readAmount ∈ xws := xws_at 17 (by decide +kernel) rfl
theorem w_18 : Cond.selects "StyleCourt" y_Sc_takeName y_Sc_takeName ∈ xws := xws_at 18 (by decide +kernel) rfl
theorem w_19 : Cond.selects "StyleCourt" y_Sc_elementAt y_Sc_elementAt ∈ xws := xws_at 19 (by decide +kernel) rfl
theorem w_20 : Cond.selects "StyleCourt$Condition" y_Co_holdsForField y_Co_holdsForField ∈ xws := xws_at 20 (by decide +kernel) rfl
theorem w_21 : Cond.selects "StyleCourt" y_Sc_putValue y_Sc_putValue ∈ xws := xws_at 21 (by decide +kernel) rfl
theorem w_22 : Cond.selects "StyleCourt" y_Sc_putSlice y_Sc_putSlice ∈ xws := xws_at 22 (by decide +kernel) rfl
theorem w_23 : Cond.selects "StyleCourt" y_Sc_putNumber y_Sc_putNumber ∈ xws := xws_at 23 (by decide +kernel) rfl
theorem w_24 : Cond.selects "StyleCourt" y_Sc_putTexts y_Sc_putTexts ∈ xws := xws_at 24 (by decide +kernel) rfl
theorem w_25 : Cond.selects "StyleCourtModel" y_Mo_refuse y_Mo_refuse ∈ xws := xws_at 25 (by decide +kernel) rfl
theorem w_26 : Cond.selects "StyleCourtModel" y_Mo_four y_Mo_four ∈ xws := xws_at 26 (by decide +kernel) rfl
theorem w_27 : Cond.selects "StyleCourtModel" y_Mo_take y_Mo_take ∈ xws := xws_at 27 (by decide +kernel) rfl
theorem w_28 : Cond.selects "StyleCourtModel" y_Mo_readSource y_Mo_readSource ∈ xws := xws_at 28 (by decide +kernel) rfl
theorem w_29 : Cond.selects "StyleCourtModel" y_Mo_byteAt y_Mo_byteAt ∈ xws := xws_at 29 (by decide +kernel) rfl
theorem w_30 : Cond.selects "StyleCourtModel" y_Mo_closed y_Mo_closed ∈ xws := xws_at 30 (by decide +kernel) rfl
theorem w_31 : Cond.selects "StyleCourtModel" y_Mo_wrong y_Mo_wrong ∈ xws := xws_at 31 (by decide +kernel) rfl
theorem w_32 : Cond.selects "StyleCourtModel" y_Mo_nameFrom y_Mo_nameFrom ∈ xws := xws_at 32 (by decide +kernel) rfl
theorem w_33 : Cond.selects "StyleCourtModel" y_Mo_same y_Mo_same ∈ xws := xws_at 33 (by decide +kernel) rfl
theorem w_34 : Cond.selects "StyleCourtModel" y_Mo_blanks y_Mo_blanks ∈ xws := xws_at 34 (by decide +kernel) rfl
theorem w_35 : Cond.selects "StyleCourtModel" y_Mo_comment y_Mo_comment ∈ xws := xws_at 35 (by decide +kernel) rfl
theorem w_36 : Cond.selects "StyleCourtModel" y_Mo_defined y_Mo_defined ∈ xws := xws_at 36 (by decide +kernel) rfl
theorem w_37 : Cond.selects "StyleCourtModel" y_Mo_isFixed y_Mo_isFixed ∈ xws := xws_at 37 (by decide +kernel) rfl
theorem w_38 : Cond.selects "StyleCourtModel" y_Mo_isWord y_Mo_isWord ∈ xws := xws_at 38 (by decide +kernel) rfl
theorem w_39 : Cond.selects "StyleCourtModel" y_Mo_entity y_Mo_entity ∈ xws := xws_at 39 (by decide +kernel) rfl
theorem w_40 : Cond.selects "StyleCourtModel" y_Mo_stringFrom y_Mo_stringFrom ∈ xws := xws_at 40 (by decide +kernel) rfl
theorem w_41 : Cond.selects "StyleCourtModel" y_Mo_behindString y_Mo_behindString ∈ xws := xws_at 41 (by decide +kernel) rfl
theorem w_42 : Cond.selects "StyleCourtModel" y_Mo_opened y_Mo_opened ∈ xws := xws_at 42 (by decide +kernel) rfl
theorem w_43 : Cond.selects "StyleCourtModel" y_Mo_field y_Mo_field ∈ xws := xws_at 43 (by decide +kernel) rfl
theorem w_44 : Cond.selects "StyleCourtModel" y_Mo_reference y_Mo_reference ∈ xws := xws_at 44 (by decide +kernel) rfl
theorem w_45 : Cond.selects "StyleCourtModel" y_Mo_piece y_Mo_piece ∈ xws := xws_at 45 (by decide +kernel) rfl
theorem w_46 : Cond.selects "StyleCourtModel" y_Mo_readStyle y_Mo_readStyle ∈ xws := xws_at 46 (by decide +kernel) rfl
theorem w_47 : Cond.selects "StyleCourtModel" y_Mo_next y_Mo_next ∈ xws := xws_at 47 (by decide +kernel) rfl
theorem w_48 : Cond.selects "StyleCourtModel" y_Mo_selector y_Mo_selector ∈ xws := xws_at 48 (by decide +kernel) rfl
theorem w_49 : Cond.selects "StyleCourtModel" y_Mo_step y_Mo_step ∈ xws := xws_at 49 (by decide +kernel) rfl
theorem w_50 : Cond.selects "StyleCourtModel" y_Mo_isSign y_Mo_isSign ∈ xws := xws_at 50 (by decide +kernel) rfl
theorem w_51 : Cond.selects "StyleCourtModel" y_Mo_bracket y_Mo_bracket ∈ xws := xws_at 51 (by decide +kernel) rfl
theorem w_52 : Cond.selects "StyleCourtModel" y_Mo_needKind y_Mo_needKind ∈ xws := xws_at 52 (by decide +kernel) rfl
theorem w_53 : Cond.selects "StyleCourtModel" y_Mo_need y_Mo_need ∈ xws := xws_at 53 (by decide +kernel) rfl
theorem w_54 : Cond.selects "StyleCourtModel" y_Mo_colon y_Mo_colon ∈ xws := xws_at 54 (by decide +kernel) rfl
theorem w_55 : Cond.selects "StyleCourtModel" y_Mo_body y_Mo_body ∈ xws := xws_at 55 (by decide +kernel) rfl
theorem w_56 : Cond.selects "StyleCourtModel" y_Mo_known y_Mo_known ∈ xws := xws_at 56 (by decide +kernel) rfl
theorem w_57 : Cond.selects "StyleCourtModel" y_Mo_oneValue y_Mo_oneValue ∈ xws := xws_at 57 (by decide +kernel) rfl
theorem w_58 : Cond.selects "StyleCourtModel" y_Mo_asked y_Mo_asked ∈ xws := xws_at 58 (by decide +kernel) rfl
theorem w_59 : Cond.selects "StyleCourtModel" y_Mo_isThere y_Mo_isThere ∈ xws := xws_at 59 (by decide +kernel) rfl
theorem w_60 : Cond.selects "StyleCourtModel" y_Mo_counts y_Mo_counts ∈ xws := xws_at 60 (by decide +kernel) rfl
theorem w_61 : Cond.selects "StyleCourtModel" y_Mo_selectorFits y_Mo_selectorFits ∈ xws := xws_at 61 (by decide +kernel) rfl
theorem w_62 : Cond.selects "StyleCourtModel" y_Mo_stepFits y_Mo_stepFits ∈ xws := xws_at 62 (by decide +kernel) rfl
theorem w_63 : Cond.selects "StyleCourtModel" y_Mo_isSo y_Mo_isSo ∈ xws := xws_at 63 (by decide +kernel) rfl
theorem w_64 : Cond.selects "StyleCourtModel" y_Mo_fieldOf y_Mo_fieldOf ∈ xws := xws_at 64 (by decide +kernel) rfl
theorem w_65 : Cond.selects "StyleCourtModel" y_Mo_among y_Mo_among ∈ xws := xws_at 65 (by decide +kernel) rfl
theorem w_66 : Cond.selects "StyleCourtModel" y_Mo_sayNumber y_Mo_sayNumber ∈ xws := xws_at 66 (by decide +kernel) rfl
theorem w_67 : Cond.selects "StyleCourtModel" y_Mo_say y_Mo_say ∈ xws := xws_at 67 (by decide +kernel) rfl
set_option maxRecDepth 100000 in
theorem w_68 : Cond.initialized "StyleCourtLaw" ∈ xws := xws_in (wt_1 (List.mem_of_getElem? (i := 0) rfl)) rfl
set_option maxRecDepth 100000 in
theorem w_69 : Cond.initialized "StyleCourt" ∈ xws := xws_in (wt_1 (List.mem_of_getElem? (i := 1) rfl)) rfl
set_option maxRecDepth 100000 in
theorem w_70 : Cond.initialized "StyleCourt$Reader" ∈ xws := xws_in (wt_1 (List.mem_of_getElem? (i := 2) rfl)) rfl
set_option maxRecDepth 100000 in
theorem w_71 : Cond.initialized "java/util/Arrays" ∈ xws := xws_in (wt_1 (List.mem_of_getElem? (i := 3) rfl)) rfl
set_option maxRecDepth 100000 in
theorem w_72 : Cond.initialized "java/lang/Math" ∈ xws := xws_in (wt_1 (List.mem_of_getElem? (i := 4) rfl)) rfl
set_option maxRecDepth 100000 in
theorem w_73 : Cond.initialized "java/lang/System" ∈ xws := xws_in (wt_1 (List.mem_of_getElem? (i := 5) rfl)) rfl
set_option maxRecDepth 100000 in
theorem w_74 : Cond.initialized "StyleCourt$Source" ∈ xws := xws_in (wt_1 (List.mem_of_getElem? (i := 6) rfl)) rfl
set_option maxRecDepth 100000 in
theorem w_75 : Cond.initialized "java/util/AbstractCollection" ∈ xws := xws_in (wt_1 (List.mem_of_getElem? (i := 7) rfl)) rfl
set_option maxRecDepth 100000 in
theorem w_76 : Cond.initialized "java/util/AbstractList" ∈ xws := xws_in (wt_1 (List.mem_of_getElem? (i := 8) rfl)) rfl
set_option maxRecDepth 100000 in
theorem w_77 : Cond.initialized "java/util/ArrayList" ∈ xws := xws_in (wt_1 (List.mem_of_getElem? (i := 9) rfl)) rfl
set_option maxRecDepth 100000 in
theorem w_78 : Cond.initialized "StyleCourt$Element" ∈ xws := xws_in (wt_1 (List.mem_of_getElem? (i := 10) rfl)) rfl
set_option maxRecDepth 100000 in
theorem w_79 : Cond.initialized "StyleCourt$Slice" ∈ xws := xws_in (wt_1 (List.mem_of_getElem? (i := 11) rfl)) rfl
set_option maxRecDepth 100000 in
theorem w_80 : Cond.initialized "StyleCourt$Named" ∈ xws := xws_in (wt_1 (List.mem_of_getElem? (i := 12) rfl)) rfl
set_option maxRecDepth 100000 in
theorem w_81 : Cond.initialized "jdk/internal/util/ArraysSupport" ∈ xws := xws_in (wt_1 (List.mem_of_getElem? (i := 13) rfl)) rfl
set_option maxRecDepth 100000 in
theorem w_82 : Cond.initialized "StyleCourt$Style" ∈ xws := xws_in (wt_1 (List.mem_of_getElem? (i := 14) rfl)) rfl
set_option maxRecDepth 100000 in
theorem w_83 : Cond.initialized "StyleCourtModel" ∈ xws := xws_in (wt_1 (List.mem_of_getElem? (i := 15) rfl)) rfl
set_option maxRecDepth 100000 in
theorem w_84 : Cond.initialized "java/lang/Throwable" ∈ xws := xws_in (wt_1 (List.mem_of_getElem? (i := 16) rfl)) rfl
set_option maxRecDepth 100000 in
theorem w_87 : Cond.initialized "java/lang/IndexOutOfBoundsException" ∈ xws := xws_in (wt_1 (List.mem_of_getElem? (i := 19) rfl)) rfl
set_option maxRecDepth 100000 in
theorem w_88 : Cond.initialized "java/lang/IllegalArgumentException" ∈ xws := xws_in (wt_1 (List.mem_of_getElem? (i := 20) rfl)) rfl
set_option maxRecDepth 100000 in
theorem w_89 : Cond.initialized "java/lang/UnsupportedOperationException" ∈ xws := xws_in (wt_1 (List.mem_of_getElem? (i := 21) rfl)) rfl
set_option maxRecDepth 100000 in
theorem w_90 : Cond.initialized "java/util/Objects" ∈ xws := xws_in (wt_1 (List.mem_of_getElem? (i := 22) rfl)) rfl
set_option maxRecDepth 100000 in
theorem w_91 : Cond.initialized "jdk/internal/util/Preconditions" ∈ xws := xws_in (wt_1 (List.mem_of_getElem? (i := 23) rfl)) rfl
set_option maxRecDepth 100000 in
theorem w_92 : Cond.initialized "StyleCourt$Rule" ∈ xws := xws_in (wt_1 (List.mem_of_getElem? (i := 24) rfl)) rfl
set_option maxRecDepth 100000 in
theorem w_93 : Cond.initialized "StyleCourt$Selector" ∈ xws := xws_in (wt_1 (List.mem_of_getElem? (i := 25) rfl)) rfl
set_option maxRecDepth 100000 in
theorem w_94 : Cond.initialized "StyleCourt$Step" ∈ xws := xws_in (wt_1 (List.mem_of_getElem? (i := 26) rfl)) rfl
set_option maxRecDepth 100000 in
theorem w_95 : Cond.initialized "StyleCourt$Condition" ∈ xws := xws_in (wt_1 (List.mem_of_getElem? (i := 27) rfl)) rfl
set_option maxRecDepth 100000 in
theorem w_96 : Cond.initialized "java/lang/String" ∈ xws := xws_in (wt_1 (List.mem_of_getElem? (i := 28) rfl)) rfl
set_option maxRecDepth 100000 in
theorem w_97 : Cond.initialized "java/lang/StringLatin1" ∈ xws := xws_in (wt_1 (List.mem_of_getElem? (i := 29) rfl)) rfl
set_option maxRecDepth 100000 in
theorem w_98 : Cond.initialized "java/lang/StringUTF16" ∈ xws := xws_in (wt_1 (List.mem_of_getElem? (i := 30) rfl)) rfl
set_option maxRecDepth 100000 in
theorem w_99 : Cond.initialized "StyleCourt$Told" ∈ xws := xws_in (wt_1 (List.mem_of_getElem? (i := 31) rfl)) rfl
set_option maxRecDepth 100000 in
theorem w_100 : Cond.classLink "StyleCourtLaw" 8 "StyleCourt" ∈ xws := xws_in (wt_1 (List.mem_of_getElem? (i := 32) rfl)) rfl
set_option maxRecDepth 100000 in
theorem w_101 : Cond.instantiable "StyleCourt" 12 ∈ xws := xws_in (wt_1 (List.mem_of_getElem? (i := 33) rfl)) rfl
set_option maxRecDepth 100000 in
theorem w_102 : Cond.methodLink "StyleCourtLaw" 59 y_Sc_init ∈ xws := xws_in (wt_1 (List.mem_of_getElem? (i := 34) rfl)) rfl
set_option maxRecDepth 100000 in
theorem w_103 : Cond.instanceMethod y_Sc_init ∈ xws := xws_in (wt_1 (List.mem_of_getElem? (i := 35) rfl)) rfl
set_option maxRecDepth 100000 in
theorem w_104 : Cond.code y_Sc_init prog_1_method_1_code 1 none ∈ xws := xws_in (wt_1 (List.mem_of_getElem? (i := 36) rfl)) rfl
set_option maxRecDepth 100000 in
theorem w_105 : Cond.methodLink "StyleCourt" 1 y_Oj_init ∈ xws := xws_in (wt_1 (List.mem_of_getElem? (i := 37) rfl)) rfl
set_option maxRecDepth 100000 in
theorem w_106 : Cond.instanceMethod y_Oj_init ∈ xws := xws_in (wt_1 (List.mem_of_getElem? (i := 38) rfl)) rfl
set_option maxRecDepth 100000 in
theorem w_107 : Cond.code objectInit ⟨#[0xb1]⟩ 1 none ∈ xws := xws_in (wt_1 (List.mem_of_getElem? (i := 39) rfl)) rfl
set_option maxRecDepth 100000 in
theorem w_108 : Cond.classLink "StyleCourt" 33 "StyleCourt$Reader" ∈ xws := xws_in (wt_1 (List.mem_of_getElem? (i := 40) rfl)) rfl
set_option maxRecDepth 100000 in
theorem w_109 : Cond.instantiable "StyleCourt$Reader" 3 ∈ xws := xws_in (wt_1 (List.mem_of_getElem? (i := 41) rfl)) rfl
set_option maxRecDepth 100000 in
theorem w_110 : Cond.fieldLink "StyleCourt" 35 "StyleCourt" "KNOWN" "[B" ∈ xws := xws_in (wt_1 (List.mem_of_getElem? (i := 42) rfl)) rfl
set_option maxRecDepth 100000 in
theorem w_112 : Cond.methodLink "StyleCourt" 38 y_Rd_init ∈ xws := xws_in (wt_1 (List.mem_of_getElem? (i := 44) rfl)) rfl
set_option maxRecDepth 100000 in
theorem w_113 : Cond.instanceMethod y_Rd_init ∈ xws := xws_in (wt_1 (List.mem_of_getElem? (i := 45) rfl)) rfl
set_option maxRecDepth 100000 in
theorem w_114 : Cond.code y_Rd_init prog_5_method_1_code 3 none ∈ xws := xws_in (wt_1 (List.mem_of_getElem? (i := 46) rfl)) rfl
set_option maxRecDepth 100000 in
theorem w_115 : Cond.methodLink "StyleCourt$Reader" 3 y_Oj_init ∈ xws := xws_in (wt_1 (List.mem_of_getElem? (i := 47) rfl)) rfl
set_option maxRecDepth 100000 in
theorem w_116 : Cond.methodLink "StyleCourt$Reader" 18 y_Ar_copyOf ∈ xws := xws_in (wt_1 (List.mem_of_getElem? (i := 48) rfl)) rfl
set_option maxRecDepth 100000 in
theorem w_117 : Cond.static y_Ar_copyOf ∈ xws := xws_in (wt_1 (List.mem_of_getElem? (i := 49) rfl)) rfl
set_option maxRecDepth 100000 in
theorem w_118 : Cond.code y_Ar_copyOf prog_32_method_121_code 3 (some (.array .byte)) ∈ xws := xws_in (wt_1 (List.mem_of_getElem? (i := 50) rfl)) rfl
set_option maxRecDepth 100000 in
theorem w_119 : Cond.methodLink "java/util/Arrays" 310 y_aB_clone ∈ xws := xws_in (wt_1 (List.mem_of_getElem? (i := 51) rfl)) rfl
set_option maxRecDepth 100000 in
theorem w_120 : Cond.sameMethod "[B" "java/lang/Object" "clone" "()Ljava/lang/Object;" ∈ xws := xws_in (wt_1 (List.mem_of_getElem? (i := 52) rfl)) rfl
set_option maxRecDepth 100000 in
theorem w_121 : Cond.native y_Oj_clone ∈ xws := xws_in (wt_1 (List.mem_of_getElem? (i := 53) rfl)) rfl
set_option maxRecDepth 100000 in
theorem w_122 : Cond.instanceMethod y_Oj_clone ∈ xws := xws_in (wt_1 (List.mem_of_getElem? (i := 54) rfl)) rfl
set_option maxRecDepth 100000 in
theorem w_123 : Cond.selects "[B" y_aB_clone y_Oj_clone ∈ xws := xws_in (wt_1 (List.mem_of_getElem? (i := 55) rfl)) rfl
set_option maxRecDepth 100000 in
theorem w_124 : Cond.castable "[B" "java/lang/Cloneable" ∈ xws := xws_in (wt_1 (List.mem_of_getElem? (i := 56) rfl)) rfl
set_option maxRecDepth 100000 in
theorem w_125 : Cond.classLink "java/util/Arrays" 311 "[B" ∈ xws := xws_in (wt_1 (List.mem_of_getElem? (i := 57) rfl)) rfl
set_option maxRecDepth 100000 in
theorem w_126 : Cond.methodLink "java/util/Arrays" 304 y_Ma_min ∈ xws := xws_in (wt_1 (List.mem_of_getElem? (i := 58) rfl)) rfl
set_option maxRecDepth 100000 in
theorem w_127 : Cond.static y_Ma_min ∈ xws := xws_in (wt_1 (List.mem_of_getElem? (i := 59) rfl)) rfl
set_option maxRecDepth 100000 in
theorem w_128 : Cond.code y_Ma_min prog_21_method_69_code 2 (some .int) ∈ xws := xws_in (wt_1 (List.mem_of_getElem? (i := 60) rfl)) rfl
set_option maxRecDepth 100000 in
theorem w_129 : Cond.methodLink "java/util/Arrays" 150 y_Sys_arraycopy ∈ xws := xws_in (wt_1 (List.mem_of_getElem? (i := 61) rfl)) rfl
set_option maxRecDepth 100000 in
theorem w_130 : Cond.static y_Sys_arraycopy ∈ xws := xws_in (wt_1 (List.mem_of_getElem? (i := 62) rfl)) rfl
set_option maxRecDepth 100000 in
theorem w_131 : Cond.native y_Sys_arraycopy ∈ xws := xws_in (wt_1 (List.mem_of_getElem? (i := 63) rfl)) rfl
set_option maxRecDepth 100000 in
theorem w_132 : Cond.fieldLink "StyleCourt$Reader" 24 "StyleCourt$Reader" "bytes" "[B" ∈ xws := xws_in (wt_1 (List.mem_of_getElem? (i := 64) rfl)) rfl
set_option maxRecDepth 100000 in
theorem w_133 : Cond.fieldLink "StyleCourt$Source" 91 "StyleCourt$Reader" "bytes" "[B" ∈ xws := xws_in (wt_1 (List.mem_of_getElem? (i := 65) rfl)) rfl
set_option maxRecDepth 100000 in
theorem w_134 : Cond.fieldLink "StyleCourt" 88 "StyleCourt$Reader" "bytes" "[B" ∈ xws := xws_in (wt_1 (List.mem_of_getElem? (i := 66) rfl)) rfl
set_option maxRecDepth 100000 in
theorem w_135 : Cond.fieldLink "StyleCourt$Reader" 9 "StyleCourt$Reader" "at" "I" ∈ xws := xws_in (wt_1 (List.mem_of_getElem? (i := 67) rfl)) rfl
set_option maxRecDepth 100000 in
theorem w_136 : Cond.fieldLink "StyleCourt$Source" 54 "StyleCourt$Reader" "at" "I" ∈ xws := xws_in (wt_1 (List.mem_of_getElem? (i := 68) rfl)) rfl
set_option maxRecDepth 100000 in
theorem w_137 : Cond.fieldLink "StyleCourt$Step" 32 "StyleCourt$Reader" "at" "I" ∈ xws := xws_in (wt_1 (List.mem_of_getElem? (i := 69) rfl)) rfl
set_option maxRecDepth 100000 in
theorem w_138 : Cond.fieldLink "StyleCourt$Selector" 28 "StyleCourt$Reader" "at" "I" ∈ xws := xws_in (wt_1 (List.mem_of_getElem? (i := 70) rfl)) rfl
set_option maxRecDepth 100000 in
theorem w_139 : Cond.fieldLink "StyleCourt$Condition" 35 "StyleCourt$Reader" "at" "I" ∈ xws := xws_in (wt_1 (List.mem_of_getElem? (i := 71) rfl)) rfl
set_option maxRecDepth 100000 in
theorem w_140 : Cond.fieldLink "StyleCourt$Style" 37 "StyleCourt$Reader" "at" "I" ∈ xws := xws_in (wt_1 (List.mem_of_getElem? (i := 72) rfl)) rfl
set_option maxRecDepth 100000 in
theorem w_141 : Cond.fieldLink "StyleCourt$Told" 56 "StyleCourt$Reader" "at" "I" ∈ xws := xws_in (wt_1 (List.mem_of_getElem? (i := 73) rfl)) rfl
set_option maxRecDepth 100000 in
theorem w_142 : Cond.fieldLink "StyleCourt" 178 "StyleCourt$Reader" "at" "I" ∈ xws := xws_in (wt_1 (List.mem_of_getElem? (i := 74) rfl)) rfl
set_option maxRecDepth 100000 in
theorem w_143 : Cond.fieldLink "StyleCourt$Reader" 15 "StyleCourt$Reader" "brokenAt" "I" ∈ xws := xws_in (wt_1 (List.mem_of_getElem? (i := 75) rfl)) rfl
set_option maxRecDepth 100000 in
theorem w_144 : Cond.fieldLink "StyleCourt" 134 "StyleCourt$Reader" "brokenAt" "I" ∈ xws := xws_in (wt_1 (List.mem_of_getElem? (i := 76) rfl)) rfl
set_option maxRecDepth 100000 in
theorem w_152 : Cond.arrayClass .byte ∈ xws := xws_in (wt_1 (List.mem_of_getElem? (i := 84) rfl)) rfl
set_option maxRecDepth 100000 in
theorem w_153 : Cond.arrayClass .int ∈ xws := xws_in (wt_1 (List.mem_of_getElem? (i := 85) rfl)) rfl
set_option maxRecDepth 100000 in
theorem w_154 : Cond.classLink "StyleCourt" 45 "StyleCourt$Source" ∈ xws := xws_in (wt_1 (List.mem_of_getElem? (i := 86) rfl)) rfl
set_option maxRecDepth 100000 in
theorem w_155 : Cond.instantiable "StyleCourt$Source" 5 ∈ xws := xws_in (wt_1 (List.mem_of_getElem? (i := 87) rfl)) rfl
set_option maxRecDepth 100000 in
theorem w_156 : Cond.methodLink "StyleCourt" 47 y_So_init ∈ xws := xws_in (wt_1 (List.mem_of_getElem? (i := 88) rfl)) rfl
set_option maxRecDepth 100000 in
theorem w_157 : Cond.instanceMethod y_So_init ∈ xws := xws_in (wt_1 (List.mem_of_getElem? (i := 89) rfl)) rfl
set_option maxRecDepth 100000 in
theorem w_158 : Cond.code y_So_init prog_9_method_1_code 1 none ∈ xws := xws_in (wt_1 (List.mem_of_getElem? (i := 90) rfl)) rfl
set_option maxRecDepth 100000 in
theorem w_159 : Cond.methodLink "StyleCourt$Source" 3 y_Oj_init ∈ xws := xws_in (wt_1 (List.mem_of_getElem? (i := 91) rfl)) rfl
set_option maxRecDepth 100000 in
theorem w_160 : Cond.classLink "StyleCourt$Source" 9 "java/util/ArrayList" ∈ xws := xws_in (wt_1 (List.mem_of_getElem? (i := 92) rfl)) rfl
set_option maxRecDepth 100000 in
theorem w_161 : Cond.instantiable "java/util/ArrayList" 3 ∈ xws := xws_in (wt_1 (List.mem_of_getElem? (i := 93) rfl)) rfl
set_option maxRecDepth 100000 in
theorem w_162 : Cond.methodLink "StyleCourt$Source" 11 y_AL_init ∈ xws := xws_in (wt_1 (List.mem_of_getElem? (i := 94) rfl)) rfl
set_option maxRecDepth 100000 in
theorem w_163 : Cond.instanceMethod y_AL_init ∈ xws := xws_in (wt_1 (List.mem_of_getElem? (i := 95) rfl)) rfl
set_option maxRecDepth 100000 in
theorem w_164 : Cond.code y_AL_init prog_31_method_2_code 1 none ∈ xws := xws_in (wt_1 (List.mem_of_getElem? (i := 96) rfl)) rfl
set_option maxRecDepth 100000 in
theorem w_165 : Cond.methodLink "java/util/ArrayList" 1 y_AB_init ∈ xws := xws_in (wt_1 (List.mem_of_getElem? (i := 97) rfl)) rfl
set_option maxRecDepth 100000 in
theorem w_166 : Cond.instanceMethod y_AB_init ∈ xws := xws_in (wt_1 (List.mem_of_getElem? (i := 98) rfl)) rfl
set_option maxRecDepth 100000 in
theorem w_167 : Cond.code y_AB_init prog_30_method_1_code 1 none ∈ xws := xws_in (wt_1 (List.mem_of_getElem? (i := 99) rfl)) rfl
set_option maxRecDepth 100000 in
theorem w_168 : Cond.methodLink "java/util/AbstractList" 1 y_AC_init ∈ xws := xws_in (wt_1 (List.mem_of_getElem? (i := 100) rfl)) rfl
set_option maxRecDepth 100000 in
theorem w_169 : Cond.instanceMethod y_AC_init ∈ xws := xws_in (wt_1 (List.mem_of_getElem? (i := 101) rfl)) rfl
set_option maxRecDepth 100000 in
theorem w_170 : Cond.code y_AC_init prog_29_method_1_code 1 none ∈ xws := xws_in (wt_1 (List.mem_of_getElem? (i := 102) rfl)) rfl
set_option maxRecDepth 100000 in
theorem w_171 : Cond.methodLink "java/util/AbstractCollection" 1 y_Oj_init ∈ xws := xws_in (wt_1 (List.mem_of_getElem? (i := 103) rfl)) rfl
set_option maxRecDepth 100000 in
theorem w_172 : Cond.fieldLink "java/util/ArrayList" 39 "java/util/ArrayList" "DEFAULTCAPACITY_EMPTY_ELEMENTDATA" "[Ljava/lang/Object;" ∈ xws := xws_in (wt_1 (List.mem_of_getElem? (i := 104) rfl)) rfl
set_option maxRecDepth 100000 in
theorem w_174 : Cond.fieldLink "java/util/ArrayList" 9 "java/util/ArrayList" "elementData" "[Ljava/lang/Object;" ∈ xws := xws_in (wt_1 (List.mem_of_getElem? (i := 106) rfl)) rfl
set_option maxRecDepth 100000 in
theorem w_175 : Cond.fieldLink "java/util/ArrayList" 48 "java/util/ArrayList" "size" "I" ∈ xws := xws_in (wt_1 (List.mem_of_getElem? (i := 107) rfl)) rfl
set_option maxRecDepth 100000 in
theorem w_176 : Cond.fieldLink "java/util/AbstractList" 7 "java/util/AbstractList" "modCount" "I" ∈ xws := xws_in (wt_1 (List.mem_of_getElem? (i := 108) rfl)) rfl
set_option maxRecDepth 100000 in
theorem w_177 : Cond.fieldLink "java/util/ArrayList" 63 "java/util/ArrayList" "modCount" "I" ∈ xws := xws_in (wt_1 (List.mem_of_getElem? (i := 109) rfl)) rfl
set_option maxRecDepth 100000 in
theorem w_178 : Cond.sameField "java/util/ArrayList" "java/util/AbstractList" "modCount" "I" ∈ xws := xws_in (wt_1 (List.mem_of_getElem? (i := 110) rfl)) rfl
set_option maxRecDepth 100000 in
theorem w_186 : Cond.classLink "StyleCourt$Source" 24 "StyleCourt$Element" ∈ xws := xws_in (wt_1 (List.mem_of_getElem? (i := 118) rfl)) rfl
set_option maxRecDepth 100000 in
theorem w_187 : Cond.instantiable "StyleCourt$Element" 15 ∈ xws := xws_in (wt_1 (List.mem_of_getElem? (i := 119) rfl)) rfl
set_option maxRecDepth 100000 in
theorem w_188 : Cond.classLink "StyleCourt$Source" 26 "StyleCourt$Slice" ∈ xws := xws_in (wt_1 (List.mem_of_getElem? (i := 120) rfl)) rfl
set_option maxRecDepth 100000 in
theorem w_189 : Cond.instantiable "StyleCourt$Slice" 3 ∈ xws := xws_in (wt_1 (List.mem_of_getElem? (i := 121) rfl)) rfl
set_option maxRecDepth 100000 in
theorem w_190 : Cond.fieldLinkNest "StyleCourt$Source" 28 "StyleCourt" "KNOWN" "[B" "StyleCourt" ∈ xws := xws_in (wt_1 (List.mem_of_getElem? (i := 122) rfl)) rfl
set_option maxRecDepth 100000 in
theorem w_191 : Cond.methodLink "StyleCourt$Source" 32 y_Sl_init ∈ xws := xws_in (wt_1 (List.mem_of_getElem? (i := 123) rfl)) rfl
set_option maxRecDepth 100000 in
theorem w_192 : Cond.instanceMethod y_Sl_init ∈ xws := xws_in (wt_1 (List.mem_of_getElem? (i := 124) rfl)) rfl
set_option maxRecDepth 100000 in
theorem w_193 : Cond.code y_Sl_init prog_8_method_1_code 4 none ∈ xws := xws_in (wt_1 (List.mem_of_getElem? (i := 125) rfl)) rfl
set_option maxRecDepth 100000 in
theorem w_194 : Cond.methodLink "StyleCourt$Slice" 1 y_Oj_init ∈ xws := xws_in (wt_1 (List.mem_of_getElem? (i := 126) rfl)) rfl
set_option maxRecDepth 100000 in
theorem w_195 : Cond.fieldLink "StyleCourt$Slice" 7 "StyleCourt$Slice" "bytes" "[B" ∈ xws := xws_in (wt_1 (List.mem_of_getElem? (i := 127) rfl)) rfl
set_option maxRecDepth 100000 in
theorem w_196 : Cond.fieldLink "StyleCourt$Slice" 13 "StyleCourt$Slice" "from" "I" ∈ xws := xws_in (wt_1 (List.mem_of_getElem? (i := 128) rfl)) rfl
set_option maxRecDepth 100000 in
theorem w_197 : Cond.fieldLink "StyleCourt$Condition" 64 "StyleCourt$Slice" "from" "I" ∈ xws := xws_in (wt_1 (List.mem_of_getElem? (i := 129) rfl)) rfl
set_option maxRecDepth 100000 in
theorem w_198 : Cond.fieldLink "StyleCourt$Style" 77 "StyleCourt$Slice" "from" "I" ∈ xws := xws_in (wt_1 (List.mem_of_getElem? (i := 130) rfl)) rfl
set_option maxRecDepth 100000 in
theorem w_199 : Cond.fieldLink "StyleCourt$Source" 117 "StyleCourt$Slice" "from" "I" ∈ xws := xws_in (wt_1 (List.mem_of_getElem? (i := 131) rfl)) rfl
set_option maxRecDepth 100000 in
theorem w_200 : Cond.fieldLink "StyleCourt$Slice" 17 "StyleCourt$Slice" "length" "I" ∈ xws := xws_in (wt_1 (List.mem_of_getElem? (i := 132) rfl)) rfl
set_option maxRecDepth 100000 in
theorem w_201 : Cond.fieldLink "StyleCourt$Source" 124 "StyleCourt$Slice" "length" "I" ∈ xws := xws_in (wt_1 (List.mem_of_getElem? (i := 133) rfl)) rfl
set_option maxRecDepth 100000 in
theorem w_202 : Cond.fieldLink "StyleCourt" 290 "StyleCourt$Slice" "length" "I" ∈ xws := xws_in (wt_1 (List.mem_of_getElem? (i := 134) rfl)) rfl
set_option maxRecDepth 100000 in
theorem w_210 : Cond.methodLink "StyleCourt$Source" 35 y_El_init ∈ xws := xws_in (wt_1 (List.mem_of_getElem? (i := 142) rfl)) rfl
set_option maxRecDepth 100000 in
theorem w_211 : Cond.instanceMethod y_El_init ∈ xws := xws_in (wt_1 (List.mem_of_getElem? (i := 143) rfl)) rfl
set_option maxRecDepth 100000 in
theorem w_212 : Cond.code y_El_init prog_3_method_1_code 5 none ∈ xws := xws_in (wt_1 (List.mem_of_getElem? (i := 144) rfl)) rfl
set_option maxRecDepth 100000 in
theorem w_213 : Cond.methodLink "StyleCourt$Element" 1 y_Oj_init ∈ xws := xws_in (wt_1 (List.mem_of_getElem? (i := 145) rfl)) rfl
set_option maxRecDepth 100000 in
theorem w_214 : Cond.classLink "StyleCourt$Element" 7 "java/util/ArrayList" ∈ xws := xws_in (wt_1 (List.mem_of_getElem? (i := 146) rfl)) rfl
set_option maxRecDepth 100000 in
theorem w_215 : Cond.methodLink "StyleCourt$Element" 9 y_AL_init ∈ xws := xws_in (wt_1 (List.mem_of_getElem? (i := 147) rfl)) rfl
set_option maxRecDepth 100000 in
theorem w_216 : Cond.fieldLink "StyleCourt$Element" 40 "StyleCourt$Element" "name" "LStyleCourt$Slice;" ∈ xws := xws_in (wt_1 (List.mem_of_getElem? (i := 148) rfl)) rfl
set_option maxRecDepth 100000 in
theorem w_217 : Cond.fieldLink "StyleCourt$Step" 60 "StyleCourt$Element" "name" "LStyleCourt$Slice;" ∈ xws := xws_in (wt_1 (List.mem_of_getElem? (i := 149) rfl)) rfl
set_option maxRecDepth 100000 in
theorem w_218 : Cond.fieldLink "StyleCourt$Condition" 82 "StyleCourt$Element" "name" "LStyleCourt$Slice;" ∈ xws := xws_in (wt_1 (List.mem_of_getElem? (i := 150) rfl)) rfl
set_option maxRecDepth 100000 in
theorem w_219 : Cond.fieldLink "StyleCourt$Source" 178 "StyleCourt$Element" "name" "LStyleCourt$Slice;" ∈ xws := xws_in (wt_1 (List.mem_of_getElem? (i := 151) rfl)) rfl
set_option maxRecDepth 100000 in
theorem w_220 : Cond.fieldLink "StyleCourt" 229 "StyleCourt$Element" "name" "LStyleCourt$Slice;" ∈ xws := xws_in (wt_1 (List.mem_of_getElem? (i := 152) rfl)) rfl
set_option maxRecDepth 100000 in
theorem w_221 : Cond.fieldLink "StyleCourt$Element" 44 "StyleCourt$Element" "parent" "LStyleCourt$Element;" ∈ xws := xws_in (wt_1 (List.mem_of_getElem? (i := 153) rfl)) rfl
set_option maxRecDepth 100000 in
theorem w_222 : Cond.fieldLink "StyleCourt$Selector" 83 "StyleCourt$Element" "parent" "LStyleCourt$Element;" ∈ xws := xws_in (wt_1 (List.mem_of_getElem? (i := 154) rfl)) rfl
set_option maxRecDepth 100000 in
theorem w_223 : Cond.fieldLink "StyleCourt$Style" 98 "StyleCourt$Element" "parent" "LStyleCourt$Element;" ∈ xws := xws_in (wt_1 (List.mem_of_getElem? (i := 155) rfl)) rfl
set_option maxRecDepth 100000 in
theorem w_224 : Cond.fieldLink "StyleCourt" 162 "StyleCourt$Element" "parent" "LStyleCourt$Element;" ∈ xws := xws_in (wt_1 (List.mem_of_getElem? (i := 156) rfl)) rfl
set_option maxRecDepth 100000 in
theorem w_225 : Cond.fieldLink "StyleCourt$Source" 185 "StyleCourt$Element" "parent" "LStyleCourt$Element;" ∈ xws := xws_in (wt_1 (List.mem_of_getElem? (i := 157) rfl)) rfl
set_option maxRecDepth 100000 in
theorem w_226 : Cond.fieldLink "StyleCourt$Element" 47 "StyleCourt$Element" "before" "LStyleCourt$Element;" ∈ xws := xws_in (wt_1 (List.mem_of_getElem? (i := 158) rfl)) rfl
set_option maxRecDepth 100000 in
theorem w_227 : Cond.fieldLink "StyleCourt$Selector" 79 "StyleCourt$Element" "before" "LStyleCourt$Element;" ∈ xws := xws_in (wt_1 (List.mem_of_getElem? (i := 159) rfl)) rfl
set_option maxRecDepth 100000 in
theorem w_228 : Cond.fieldLink "StyleCourt$Source" 162 "StyleCourt$Element" "before" "LStyleCourt$Element;" ∈ xws := xws_in (wt_1 (List.mem_of_getElem? (i := 160) rfl)) rfl
set_option maxRecDepth 100000 in
theorem w_229 : Cond.fieldLink "StyleCourt" 200 "StyleCourt$Element" "before" "LStyleCourt$Element;" ∈ xws := xws_in (wt_1 (List.mem_of_getElem? (i := 161) rfl)) rfl
set_option maxRecDepth 100000 in
theorem w_230 : Cond.fieldLink "StyleCourt$Element" 50 "StyleCourt$Element" "index" "I" ∈ xws := xws_in (wt_1 (List.mem_of_getElem? (i := 162) rfl)) rfl
set_option maxRecDepth 100000 in
theorem w_231 : Cond.fieldLink "StyleCourt" 199 "StyleCourt$Element" "index" "I" ∈ xws := xws_in (wt_1 (List.mem_of_getElem? (i := 163) rfl)) rfl
set_option maxRecDepth 100000 in
theorem w_232 : Cond.fieldLink "StyleCourt$Element" 53 "StyleCourt$Element" "number" "I" ∈ xws := xws_in (wt_1 (List.mem_of_getElem? (i := 164) rfl)) rfl
set_option maxRecDepth 100000 in
theorem w_233 : Cond.fieldLink "StyleCourt$Condition" 71 "StyleCourt$Element" "number" "I" ∈ xws := xws_in (wt_1 (List.mem_of_getElem? (i := 165) rfl)) rfl
set_option maxRecDepth 100000 in
theorem w_234 : Cond.fieldLink "StyleCourt" 196 "StyleCourt$Element" "number" "I" ∈ xws := xws_in (wt_1 (List.mem_of_getElem? (i := 166) rfl)) rfl
set_option maxRecDepth 100000 in
theorem w_235 : Cond.fieldLink "StyleCourt$Element" 56 "StyleCourt$Element" "depth" "I" ∈ xws := xws_in (wt_1 (List.mem_of_getElem? (i := 167) rfl)) rfl
set_option maxRecDepth 100000 in
theorem w_236 : Cond.fieldLink "StyleCourt$Selector" 61 "StyleCourt$Element" "depth" "I" ∈ xws := xws_in (wt_1 (List.mem_of_getElem? (i := 168) rfl)) rfl
set_option maxRecDepth 100000 in
theorem w_237 : Cond.fieldLink "StyleCourt$Source" 146 "StyleCourt$Element" "depth" "I" ∈ xws := xws_in (wt_1 (List.mem_of_getElem? (i := 169) rfl)) rfl
set_option maxRecDepth 100000 in
theorem w_238 : Cond.fieldLink "StyleCourt" 206 "StyleCourt$Element" "depth" "I" ∈ xws := xws_in (wt_1 (List.mem_of_getElem? (i := 170) rfl)) rfl
set_option maxRecDepth 100000 in
theorem w_239 : Cond.fieldLink "StyleCourt$Element" 59 "StyleCourt$Element" "begin" "I" ∈ xws := xws_in (wt_1 (List.mem_of_getElem? (i := 171) rfl)) rfl
set_option maxRecDepth 100000 in
theorem w_240 : Cond.fieldLink "StyleCourt" 215 "StyleCourt$Element" "begin" "I" ∈ xws := xws_in (wt_1 (List.mem_of_getElem? (i := 172) rfl)) rfl
set_option maxRecDepth 100000 in
theorem w_241 : Cond.fieldLink "StyleCourt$Element" 10 "StyleCourt$Element" "fields" "Ljava/util/ArrayList;" ∈ xws := xws_in (wt_1 (List.mem_of_getElem? (i := 173) rfl)) rfl
set_option maxRecDepth 100000 in
theorem w_242 : Cond.fieldLink "StyleCourt$Condition" 87 "StyleCourt$Element" "fields" "Ljava/util/ArrayList;" ∈ xws := xws_in (wt_1 (List.mem_of_getElem? (i := 174) rfl)) rfl
set_option maxRecDepth 100000 in
theorem w_243 : Cond.fieldLink "StyleCourt$Source" 175 "StyleCourt$Element" "fields" "Ljava/util/ArrayList;" ∈ xws := xws_in (wt_1 (List.mem_of_getElem? (i := 175) rfl)) rfl
set_option maxRecDepth 100000 in
theorem w_244 : Cond.fieldLink "StyleCourt" 209 "StyleCourt$Element" "fields" "Ljava/util/ArrayList;" ∈ xws := xws_in (wt_1 (List.mem_of_getElem? (i := 176) rfl)) rfl
set_option maxRecDepth 100000 in
theorem w_245 : Cond.fieldLink "StyleCourt$Element" 16 "StyleCourt$Element" "lastChild" "LStyleCourt$Element;" ∈ xws := xws_in (wt_1 (List.mem_of_getElem? (i := 177) rfl)) rfl
set_option maxRecDepth 100000 in
theorem w_246 : Cond.fieldLink "StyleCourt$Source" 156 "StyleCourt$Element" "lastChild" "LStyleCourt$Element;" ∈ xws := xws_in (wt_1 (List.mem_of_getElem? (i := 178) rfl)) rfl
set_option maxRecDepth 100000 in
theorem w_247 : Cond.fieldLink "StyleCourt$Element" 20 "StyleCourt$Element" "children" "I" ∈ xws := xws_in (wt_1 (List.mem_of_getElem? (i := 179) rfl)) rfl
set_option maxRecDepth 100000 in
theorem w_248 : Cond.fieldLink "StyleCourt$Source" 159 "StyleCourt$Element" "children" "I" ∈ xws := xws_in (wt_1 (List.mem_of_getElem? (i := 180) rfl)) rfl
set_option maxRecDepth 100000 in
theorem w_249 : Cond.fieldLink "StyleCourt" 203 "StyleCourt$Element" "children" "I" ∈ xws := xws_in (wt_1 (List.mem_of_getElem? (i := 181) rfl)) rfl
set_option maxRecDepth 100000 in
theorem w_250 : Cond.fieldLink "StyleCourt$Element" 24 "StyleCourt$Element" "followed" "Z" ∈ xws := xws_in (wt_1 (List.mem_of_getElem? (i := 182) rfl)) rfl
set_option maxRecDepth 100000 in
theorem w_251 : Cond.fieldLink "StyleCourt$Condition" 74 "StyleCourt$Element" "followed" "Z" ∈ xws := xws_in (wt_1 (List.mem_of_getElem? (i := 183) rfl)) rfl
set_option maxRecDepth 100000 in
theorem w_252 : Cond.fieldLink "StyleCourt$Source" 165 "StyleCourt$Element" "followed" "Z" ∈ xws := xws_in (wt_1 (List.mem_of_getElem? (i := 184) rfl)) rfl
set_option maxRecDepth 100000 in
theorem w_253 : Cond.fieldLink "StyleCourt$Element" 28 "StyleCourt$Element" "hasText" "Z" ∈ xws := xws_in (wt_1 (List.mem_of_getElem? (i := 185) rfl)) rfl
set_option maxRecDepth 100000 in
theorem w_254 : Cond.fieldLink "StyleCourt$Source" 127 "StyleCourt$Element" "hasText" "Z" ∈ xws := xws_in (wt_1 (List.mem_of_getElem? (i := 186) rfl)) rfl
set_option maxRecDepth 100000 in
theorem w_255 : Cond.fieldLink "StyleCourt$Element" 31 "StyleCourt$Element" "end" "I" ∈ xws := xws_in (wt_1 (List.mem_of_getElem? (i := 187) rfl)) rfl
set_option maxRecDepth 100000 in
theorem w_256 : Cond.fieldLink "StyleCourt$Source" 188 "StyleCourt$Element" "end" "I" ∈ xws := xws_in (wt_1 (List.mem_of_getElem? (i := 188) rfl)) rfl
set_option maxRecDepth 100000 in
theorem w_257 : Cond.fieldLink "StyleCourt" 218 "StyleCourt$Element" "end" "I" ∈ xws := xws_in (wt_1 (List.mem_of_getElem? (i := 189) rfl)) rfl
set_option maxRecDepth 100000 in
theorem w_258 : Cond.fieldLink "StyleCourt$Element" 34 "StyleCourt$Element" "firstText" "I" ∈ xws := xws_in (wt_1 (List.mem_of_getElem? (i := 190) rfl)) rfl
set_option maxRecDepth 100000 in
theorem w_259 : Cond.fieldLink "StyleCourt$Source" 153 "StyleCourt$Element" "firstText" "I" ∈ xws := xws_in (wt_1 (List.mem_of_getElem? (i := 191) rfl)) rfl
set_option maxRecDepth 100000 in
theorem w_260 : Cond.fieldLink "StyleCourt" 287 "StyleCourt$Element" "firstText" "I" ∈ xws := xws_in (wt_1 (List.mem_of_getElem? (i := 192) rfl)) rfl
set_option maxRecDepth 100000 in
theorem w_261 : Cond.fieldLink "StyleCourt$Element" 37 "StyleCourt$Element" "endText" "I" ∈ xws := xws_in (wt_1 (List.mem_of_getElem? (i := 193) rfl)) rfl
set_option maxRecDepth 100000 in
theorem w_262 : Cond.fieldLink "StyleCourt$Source" 191 "StyleCourt$Element" "endText" "I" ∈ xws := xws_in (wt_1 (List.mem_of_getElem? (i := 194) rfl)) rfl
set_option maxRecDepth 100000 in
theorem w_263 : Cond.fieldLink "StyleCourt" 281 "StyleCourt$Element" "endText" "I" ∈ xws := xws_in (wt_1 (List.mem_of_getElem? (i := 195) rfl)) rfl
set_option maxRecDepth 100000 in
theorem w_295 : Cond.classLink "StyleCourt$Source" 45 "StyleCourt$Named" ∈ xws := xws_in (wt_1 (List.mem_of_getElem? (i := 227) rfl)) rfl
set_option maxRecDepth 100000 in
theorem w_296 : Cond.instantiable "StyleCourt$Named" 2 ∈ xws := xws_in (wt_1 (List.mem_of_getElem? (i := 228) rfl)) rfl
set_option maxRecDepth 100000 in
theorem w_297 : Cond.methodLink "StyleCourt$Source" 47 y_Nd_init ∈ xws := xws_in (wt_1 (List.mem_of_getElem? (i := 229) rfl)) rfl
set_option maxRecDepth 100000 in
theorem w_298 : Cond.instanceMethod y_Nd_init ∈ xws := xws_in (wt_1 (List.mem_of_getElem? (i := 230) rfl)) rfl
set_option maxRecDepth 100000 in
theorem w_299 : Cond.code y_Nd_init prog_4_method_1_code 3 none ∈ xws := xws_in (wt_1 (List.mem_of_getElem? (i := 231) rfl)) rfl
set_option maxRecDepth 100000 in
theorem w_300 : Cond.methodLink "StyleCourt$Named" 1 y_Oj_init ∈ xws := xws_in (wt_1 (List.mem_of_getElem? (i := 232) rfl)) rfl
set_option maxRecDepth 100000 in
theorem w_301 : Cond.fieldLink "StyleCourt$Named" 7 "StyleCourt$Named" "name" "LStyleCourt$Slice;" ∈ xws := xws_in (wt_1 (List.mem_of_getElem? (i := 233) rfl)) rfl
set_option maxRecDepth 100000 in
theorem w_302 : Cond.fieldLink "StyleCourt" 238 "StyleCourt$Named" "name" "LStyleCourt$Slice;" ∈ xws := xws_in (wt_1 (List.mem_of_getElem? (i := 234) rfl)) rfl
set_option maxRecDepth 100000 in
theorem w_303 : Cond.fieldLink "StyleCourt$Named" 13 "StyleCourt$Named" "text" "LStyleCourt$Slice;" ∈ xws := xws_in (wt_1 (List.mem_of_getElem? (i := 235) rfl)) rfl
set_option maxRecDepth 100000 in
theorem w_304 : Cond.fieldLink "StyleCourt$Condition" 99 "StyleCourt$Named" "text" "LStyleCourt$Slice;" ∈ xws := xws_in (wt_1 (List.mem_of_getElem? (i := 236) rfl)) rfl
set_option maxRecDepth 100000 in
theorem w_305 : Cond.fieldLink "StyleCourt$Source" 120 "StyleCourt$Named" "text" "LStyleCourt$Slice;" ∈ xws := xws_in (wt_1 (List.mem_of_getElem? (i := 237) rfl)) rfl
set_option maxRecDepth 100000 in
theorem w_306 : Cond.fieldLink "StyleCourt" 239 "StyleCourt$Named" "text" "LStyleCourt$Slice;" ∈ xws := xws_in (wt_1 (List.mem_of_getElem? (i := 238) rfl)) rfl
set_option maxRecDepth 100000 in
theorem w_312 : Cond.methodLink "StyleCourt$Source" 50 y_AL_add ∈ xws := xws_in (wt_2 (List.mem_of_getElem? (i := 4) rfl)) rfl
set_option maxRecDepth 100000 in
theorem w_313 : Cond.instanceMethod y_AL_add ∈ xws := xws_in (wt_2 (List.mem_of_getElem? (i := 5) rfl)) rfl
set_option maxRecDepth 100000 in
theorem w_314 : Cond.selects "java/util/ArrayList" y_AL_add y_AL_add ∈ xws := xws_in (wt_2 (List.mem_of_getElem? (i := 6) rfl)) rfl
set_option maxRecDepth 100000 in
theorem w_315 : Cond.code y_AL_add prog_31_method_25_code 2 (some .boolean) ∈ xws := xws_in (wt_2 (List.mem_of_getElem? (i := 7) rfl)) rfl
set_option maxRecDepth 100000 in
theorem w_316 : Cond.methodLink "java/util/ArrayList" 131 y_AL_add2 ∈ xws := xws_in (wt_2 (List.mem_of_getElem? (i := 8) rfl)) rfl
set_option maxRecDepth 100000 in
theorem w_318 : Cond.instanceMethod y_AL_add2 ∈ xws := xws_in (wt_2 (List.mem_of_getElem? (i := 10) rfl)) rfl
set_option maxRecDepth 100000 in
theorem w_319 : Cond.code y_AL_add2 prog_31_method_24_code 4 none ∈ xws := xws_in (wt_2 (List.mem_of_getElem? (i := 11) rfl)) rfl
set_option maxRecDepth 100000 in
theorem w_320 : Cond.methodLink "java/util/ArrayList" 129 y_AL_grow ∈ xws := xws_in (wt_2 (List.mem_of_getElem? (i := 12) rfl)) rfl
set_option maxRecDepth 100000 in
theorem w_322 : Cond.instanceMethod y_AL_grow ∈ xws := xws_in (wt_2 (List.mem_of_getElem? (i := 14) rfl)) rfl
set_option maxRecDepth 100000 in
theorem w_323 : Cond.code y_AL_grow prog_31_method_7_code 1 (some (.array (.object "java/lang/Object"))) ∈ xws := xws_in (wt_2 (List.mem_of_getElem? (i := 15) rfl)) rfl
set_option maxRecDepth 100000 in
theorem w_324 : Cond.methodLink "java/util/ArrayList" 69 y_AL_grow2 ∈ xws := xws_in (wt_2 (List.mem_of_getElem? (i := 16) rfl)) rfl
set_option maxRecDepth 100000 in
theorem w_326 : Cond.instanceMethod y_AL_grow2 ∈ xws := xws_in (wt_2 (List.mem_of_getElem? (i := 18) rfl)) rfl
set_option maxRecDepth 100000 in
theorem w_327 : Cond.code y_AL_grow2 prog_31_method_6_code 4 (some (.array (.object "java/lang/Object"))) ∈ xws := xws_in (wt_2 (List.mem_of_getElem? (i := 19) rfl)) rfl
set_option maxRecDepth 100000 in
theorem w_328 : Cond.methodLink "java/util/ArrayList" 73 y_AS_newLength ∈ xws := xws_in (wt_2 (List.mem_of_getElem? (i := 20) rfl)) rfl
set_option maxRecDepth 100000 in
theorem w_329 : Cond.static y_AS_newLength ∈ xws := xws_in (wt_2 (List.mem_of_getElem? (i := 21) rfl)) rfl
set_option maxRecDepth 100000 in
theorem w_330 : Cond.code y_AS_newLength prog_38_method_27_code 4 (some .int) ∈ xws := xws_in (wt_2 (List.mem_of_getElem? (i := 22) rfl)) rfl
set_option maxRecDepth 100000 in
theorem w_331 : Cond.methodLink "jdk/internal/util/ArraysSupport" 194 y_Ma_max ∈ xws := xws_in (wt_2 (List.mem_of_getElem? (i := 23) rfl)) rfl
set_option maxRecDepth 100000 in
theorem w_332 : Cond.static y_Ma_max ∈ xws := xws_in (wt_2 (List.mem_of_getElem? (i := 24) rfl)) rfl
set_option maxRecDepth 100000 in
theorem w_333 : Cond.code y_Ma_max prog_21_method_65_code 2 (some .int) ∈ xws := xws_in (wt_2 (List.mem_of_getElem? (i := 25) rfl)) rfl
set_option maxRecDepth 100000 in
theorem w_334 : Cond.constant "jdk/internal/util/ArraysSupport" 200 2147483639 ∈ xws := xws_in (wt_2 (List.mem_of_getElem? (i := 26) rfl)) rfl
set_option maxRecDepth 100000 in
theorem w_335 : Cond.methodLink "jdk/internal/util/ArraysSupport" 201 y_AS_hugeLength ∈ xws := xws_in (wt_2 (List.mem_of_getElem? (i := 27) rfl)) rfl
set_option maxRecDepth 100000 in
theorem w_336 : Cond.static y_AS_hugeLength ∈ xws := xws_in (wt_2 (List.mem_of_getElem? (i := 28) rfl)) rfl
set_option maxRecDepth 100000 in
theorem w_337 : Cond.code y_AS_hugeLength prog_38_method_28_code 3 (some .int) ∈ xws := xws_in (wt_2 (List.mem_of_getElem? (i := 29) rfl)) rfl
set_option maxRecDepth 100000 in
theorem w_338 : Cond.methodLink "java/util/ArrayList" 66 y_Ar_copyOf2 ∈ xws := xws_in (wt_2 (List.mem_of_getElem? (i := 30) rfl)) rfl
set_option maxRecDepth 100000 in
theorem w_339 : Cond.static y_Ar_copyOf2 ∈ xws := xws_in (wt_2 (List.mem_of_getElem? (i := 31) rfl)) rfl
set_option maxRecDepth 100000 in
theorem w_340 : Cond.code y_Ar_copyOf2 prog_32_method_119_code 2 (some (.array (.object "java/lang/Object"))) ∈ xws := xws_in (wt_2 (List.mem_of_getElem? (i := 32) rfl)) rfl
set_option maxRecDepth 100000 in
theorem w_341 : Cond.methodLink "java/util/Arrays" 86 y_Oj_getClass ∈ xws := xws_in (wt_2 (List.mem_of_getElem? (i := 33) rfl)) rfl
set_option maxRecDepth 100000 in
theorem w_342 : Cond.instanceMethod y_Oj_getClass ∈ xws := xws_in (wt_2 (List.mem_of_getElem? (i := 34) rfl)) rfl
set_option maxRecDepth 100000 in
theorem w_361 : Cond.native y_Oj_getClass ∈ xws := xws_in (wt_2 (List.mem_of_getElem? (i := 53) rfl)) rfl
set_option maxRecDepth 100000 in
theorem w_362 : Cond.methodLink "java/util/Arrays" 300 y_Ar_copyOf3 ∈ xws := xws_in (wt_2 (List.mem_of_getElem? (i := 54) rfl)) rfl
set_option maxRecDepth 100000 in
theorem w_363 : Cond.static y_Ar_copyOf3 ∈ xws := xws_in (wt_2 (List.mem_of_getElem? (i := 55) rfl)) rfl
set_option maxRecDepth 100000 in
theorem w_364 : Cond.code y_Ar_copyOf3 prog_32_method_120_code 4 (some (.array (.object "java/lang/Object"))) ∈ xws := xws_in (wt_2 (List.mem_of_getElem? (i := 56) rfl)) rfl
set_option maxRecDepth 100000 in
theorem w_365 : Cond.classLink "java/util/Arrays" 110 "[Ljava/lang/Object;" ∈ xws := xws_in (wt_2 (List.mem_of_getElem? (i := 57) rfl)) rfl
set_option maxRecDepth 100000 in
theorem w_366 : Cond.arrayOver (.object "java/lang/Object") ∈ xws := xws_in (wt_2 (List.mem_of_getElem? (i := 58) rfl)) rfl
set_option maxRecDepth 100000 in
theorem w_367 : Cond.classLink "java/util/Arrays" 2 "java/lang/Object" ∈ xws := xws_in (wt_2 (List.mem_of_getElem? (i := 59) rfl)) rfl
set_option maxRecDepth 100000 in
theorem w_368 : Cond.methodLink "java/util/ArrayList" 79 y_Ma_max ∈ xws := xws_in (wt_2 (List.mem_of_getElem? (i := 60) rfl)) rfl
set_option maxRecDepth 100000 in
theorem w_369 : Cond.classLink "java/util/ArrayList" 7 "java/lang/Object" ∈ xws := xws_in (wt_2 (List.mem_of_getElem? (i := 61) rfl)) rfl
set_option maxRecDepth 100000 in
theorem w_370 : Cond.fieldLink "StyleCourt$Source" 12 "StyleCourt$Source" "elements" "Ljava/util/ArrayList;" ∈ xws := xws_in (wt_2 (List.mem_of_getElem? (i := 62) rfl)) rfl
set_option maxRecDepth 100000 in
theorem w_371 : Cond.fieldLink "StyleCourt" 109 "StyleCourt$Source" "elements" "Ljava/util/ArrayList;" ∈ xws := xws_in (wt_2 (List.mem_of_getElem? (i := 63) rfl)) rfl
set_option maxRecDepth 100000 in
theorem w_372 : Cond.fieldLink "StyleCourt$Source" 18 "StyleCourt$Source" "texts" "Ljava/util/ArrayList;" ∈ xws := xws_in (wt_2 (List.mem_of_getElem? (i := 64) rfl)) rfl
set_option maxRecDepth 100000 in
theorem w_373 : Cond.fieldLink "StyleCourt" 278 "StyleCourt$Source" "texts" "Ljava/util/ArrayList;" ∈ xws := xws_in (wt_2 (List.mem_of_getElem? (i := 65) rfl)) rfl
set_option maxRecDepth 100000 in
theorem w_374 : Cond.fieldLink "StyleCourt$Source" 21 "StyleCourt$Source" "entities" "Ljava/util/ArrayList;" ∈ xws := xws_in (wt_2 (List.mem_of_getElem? (i := 66) rfl)) rfl
set_option maxRecDepth 100000 in
theorem w_375 : Cond.fieldLink "StyleCourt$Source" 38 "StyleCourt$Source" "root" "LStyleCourt$Element;" ∈ xws := xws_in (wt_2 (List.mem_of_getElem? (i := 67) rfl)) rfl
set_option maxRecDepth 100000 in
theorem w_376 : Cond.fieldLink "StyleCourt" 103 "StyleCourt$Source" "root" "LStyleCourt$Element;" ∈ xws := xws_in (wt_2 (List.mem_of_getElem? (i := 68) rfl)) rfl
set_option maxRecDepth 100000 in
theorem w_377 : Cond.fieldLink "StyleCourt$Source" 42 "StyleCourt$Source" "open" "LStyleCourt$Element;" ∈ xws := xws_in (wt_2 (List.mem_of_getElem? (i := 69) rfl)) rfl
set_option maxRecDepth 100000 in
theorem w_378 : Cond.fieldLink "StyleCourt" 99 "StyleCourt$Source" "open" "LStyleCourt$Element;" ∈ xws := xws_in (wt_2 (List.mem_of_getElem? (i := 70) rfl)) rfl
set_option maxRecDepth 100000 in
theorem w_390 : Cond.classLink "StyleCourt" 52 "StyleCourt$Style" ∈ xws := xws_in (wt_2 (List.mem_of_getElem? (i := 82) rfl)) rfl
set_option maxRecDepth 100000 in
theorem w_391 : Cond.instantiable "StyleCourt$Style" 4 ∈ xws := xws_in (wt_2 (List.mem_of_getElem? (i := 83) rfl)) rfl
set_option maxRecDepth 100000 in
theorem w_392 : Cond.methodLinkNest "StyleCourt" 54 y_Sy_init "StyleCourt" ∈ xws := xws_in (wt_2 (List.mem_of_getElem? (i := 84) rfl)) rfl
set_option maxRecDepth 100000 in
theorem w_393 : Cond.instanceMethod y_Sy_init ∈ xws := xws_in (wt_2 (List.mem_of_getElem? (i := 85) rfl)) rfl
set_option maxRecDepth 100000 in
theorem w_394 : Cond.code y_Sy_init prog_11_method_1_code 1 none ∈ xws := xws_in (wt_2 (List.mem_of_getElem? (i := 86) rfl)) rfl
set_option maxRecDepth 100000 in
theorem w_395 : Cond.methodLink "StyleCourt$Style" 3 y_Oj_init ∈ xws := xws_in (wt_2 (List.mem_of_getElem? (i := 87) rfl)) rfl
set_option maxRecDepth 100000 in
theorem w_396 : Cond.classLink "StyleCourt$Style" 9 "java/util/ArrayList" ∈ xws := xws_in (wt_2 (List.mem_of_getElem? (i := 88) rfl)) rfl
set_option maxRecDepth 100000 in
theorem w_397 : Cond.methodLink "StyleCourt$Style" 11 y_AL_init ∈ xws := xws_in (wt_2 (List.mem_of_getElem? (i := 89) rfl)) rfl
set_option maxRecDepth 100000 in
theorem w_398 : Cond.fieldLink "StyleCourt$Style" 12 "StyleCourt$Style" "rules" "Ljava/util/ArrayList;" ∈ xws := xws_in (wt_2 (List.mem_of_getElem? (i := 90) rfl)) rfl
set_option maxRecDepth 100000 in
theorem w_399 : Cond.fieldLink "StyleCourt$Style" 18 "StyleCourt$Style" "selectors" "Ljava/util/ArrayList;" ∈ xws := xws_in (wt_2 (List.mem_of_getElem? (i := 91) rfl)) rfl
set_option maxRecDepth 100000 in
theorem w_400 : Cond.fieldLink "StyleCourt" 131 "StyleCourt$Style" "selectors" "Ljava/util/ArrayList;" ∈ xws := xws_in (wt_2 (List.mem_of_getElem? (i := 92) rfl)) rfl
set_option maxRecDepth 100000 in
theorem w_401 : Cond.fieldLink "StyleCourt$Style" 21 "StyleCourt$Style" "names" "Ljava/util/ArrayList;" ∈ xws := xws_in (wt_2 (List.mem_of_getElem? (i := 93) rfl)) rfl
set_option maxRecDepth 100000 in
theorem w_402 : Cond.fieldLink "StyleCourt$Style" 24 "StyleCourt$Style" "toldCount" "I" ∈ xws := xws_in (wt_2 (List.mem_of_getElem? (i := 94) rfl)) rfl
set_option maxRecDepth 100000 in
theorem w_403 : Cond.fieldLink "StyleCourt" 244 "StyleCourt$Style" "toldCount" "I" ∈ xws := xws_in (wt_2 (List.mem_of_getElem? (i := 95) rfl)) rfl
set_option maxRecDepth 100000 in
theorem w_413 : Cond.classLink "StyleCourt" 59 "StyleCourt$Element" ∈ xws := xws_in (wt_2 (List.mem_of_getElem? (i := 105) rfl)) rfl
set_option maxRecDepth 100000 in
theorem w_414 : Cond.arrayOver (.object "StyleCourt$Element") ∈ xws := xws_in (wt_2 (List.mem_of_getElem? (i := 106) rfl)) rfl
set_option maxRecDepth 100000 in
theorem w_415 : Cond.fieldLink "StyleCourt" 9 "StyleCourt" "tape" "[B" ∈ xws := xws_in (wt_2 (List.mem_of_getElem? (i := 107) rfl)) rfl
set_option maxRecDepth 100000 in
theorem w_416 : Cond.fieldLink "StyleCourt" 13 "StyleCourt" "tapeLength" "I" ∈ xws := xws_in (wt_2 (List.mem_of_getElem? (i := 108) rfl)) rfl
set_option maxRecDepth 100000 in
theorem w_417 : Cond.fieldLink "StyleCourt" 17 "StyleCourt" "out" "[B" ∈ xws := xws_in (wt_2 (List.mem_of_getElem? (i := 109) rfl)) rfl
set_option maxRecDepth 100000 in
theorem w_418 : Cond.fieldLink "StyleCourt" 20 "StyleCourt" "outLength" "I" ∈ xws := xws_in (wt_2 (List.mem_of_getElem? (i := 110) rfl)) rfl
set_option maxRecDepth 100000 in
theorem w_419 : Cond.fieldLink "StyleCourt" 23 "StyleCourt" "foundOnes" "[I" ∈ xws := xws_in (wt_2 (List.mem_of_getElem? (i := 111) rfl)) rfl
set_option maxRecDepth 100000 in
theorem w_420 : Cond.fieldLink "StyleCourt" 27 "StyleCourt" "foundCount" "I" ∈ xws := xws_in (wt_2 (List.mem_of_getElem? (i := 112) rfl)) rfl
set_option maxRecDepth 100000 in
theorem w_421 : Cond.fieldLink "StyleCourt" 30 "StyleCourt" "askedWeight" "I" ∈ xws := xws_in (wt_2 (List.mem_of_getElem? (i := 113) rfl)) rfl
set_option maxRecDepth 100000 in
theorem w_422 : Cond.fieldLink "StyleCourt" 41 "StyleCourt" "latestReader" "LStyleCourt$Reader;" ∈ xws := xws_in (wt_2 (List.mem_of_getElem? (i := 114) rfl)) rfl
set_option maxRecDepth 100000 in
theorem w_423 : Cond.fieldLink "StyleCourt" 48 "StyleCourt" "latestSource" "LStyleCourt$Source;" ∈ xws := xws_in (wt_2 (List.mem_of_getElem? (i := 115) rfl)) rfl
set_option maxRecDepth 100000 in
theorem w_424 : Cond.fieldLink "StyleCourt" 55 "StyleCourt" "latestStyle" "LStyleCourt$Style;" ∈ xws := xws_in (wt_2 (List.mem_of_getElem? (i := 116) rfl)) rfl
set_option maxRecDepth 100000 in
theorem w_425 : Cond.fieldLink "StyleCourt" 61 "StyleCourt" "reach" "[LStyleCourt$Element;" ∈ xws := xws_in (wt_2 (List.mem_of_getElem? (i := 117) rfl)) rfl
set_option maxRecDepth 100000 in
theorem w_426 : Cond.fieldLink "StyleCourt" 65 "StyleCourt" "shares" "[I" ∈ xws := xws_in (wt_2 (List.mem_of_getElem? (i := 118) rfl)) rfl
set_option maxRecDepth 100000 in
theorem w_452 : Cond.methodLink "StyleCourtLaw" 83 y_Sc_place ∈ xws := xws_in (wt_2 (List.mem_of_getElem? (i := 144) rfl)) rfl
set_option maxRecDepth 100000 in
theorem w_453 : Cond.instanceMethod y_Sc_place ∈ xws := xws_in (wt_2 (List.mem_of_getElem? (i := 145) rfl)) rfl
set_option maxRecDepth 100000 in
theorem w_454 : Cond.selects "StyleCourt" y_Sc_place y_Sc_place ∈ xws := xws_in (wt_2 (List.mem_of_getElem? (i := 146) rfl)) rfl
set_option maxRecDepth 100000 in
theorem w_455 : Cond.code y_Sc_place prog_1_method_6_code 1 (some .int) ∈ xws := xws_in (wt_2 (List.mem_of_getElem? (i := 147) rfl)) rfl
set_option maxRecDepth 100000 in
theorem w_456 : Cond.methodLink "StyleCourtLaw" 63 y_Lw_feed ∈ xws := xws_in (wt_2 (List.mem_of_getElem? (i := 148) rfl)) rfl
set_option maxRecDepth 100000 in
theorem w_457 : Cond.static y_Lw_feed ∈ xws := xws_in (wt_2 (List.mem_of_getElem? (i := 149) rfl)) rfl
set_option maxRecDepth 100000 in
theorem w_458 : Cond.codeWith y_Lw_feed method_3_code 8 (some .int) [((0 : Nat), (16 : Nat), (19 : Nat), (13 : Nat))] ∈ xws := xws_in (wt_2 (List.mem_of_getElem? (i := 150) rfl)) rfl
set_option maxRecDepth 100000 in
theorem w_460 : Cond.methodLink "StyleCourtLaw" 7 y_Sc_feed ∈ xws := xws_in (wt_2 (List.mem_of_getElem? (i := 152) rfl)) rfl
set_option maxRecDepth 100000 in
theorem w_461 : Cond.instanceMethod y_Sc_feed ∈ xws := xws_in (wt_2 (List.mem_of_getElem? (i := 153) rfl)) rfl
set_option maxRecDepth 100000 in
theorem w_462 : Cond.selects "StyleCourt" y_Sc_feed y_Sc_feed ∈ xws := xws_in (wt_2 (List.mem_of_getElem? (i := 154) rfl)) rfl
set_option maxRecDepth 100000 in
theorem w_463 : Cond.code y_Sc_feed prog_1_method_2_code 6 (some .int) ∈ xws := xws_in (wt_2 (List.mem_of_getElem? (i := 155) rfl)) rfl
set_option maxRecDepth 100000 in
theorem w_464 : Cond.classLink "StyleCourt" 68 "java/lang/IndexOutOfBoundsException" ∈ xws := xws_in (wt_2 (List.mem_of_getElem? (i := 156) rfl)) rfl
set_option maxRecDepth 100000 in
theorem w_465 : Cond.instantiable "java/lang/IndexOutOfBoundsException" 6 ∈ xws := xws_in (wt_2 (List.mem_of_getElem? (i := 157) rfl)) rfl
set_option maxRecDepth 100000 in
theorem w_466 : Cond.castable "java/lang/IndexOutOfBoundsException" "java/lang/IndexOutOfBoundsException" ∈ xws := xws_in (wt_2 (List.mem_of_getElem? (i := 158) rfl)) rfl
set_option maxRecDepth 100000 in
theorem w_468 : Cond.declares y_Rt_init2 ∈ xws := xws_in (wt_2 (List.mem_of_getElem? (i := 160) rfl)) rfl
set_option maxRecDepth 100000 in
theorem w_470 : Cond.declares y_Ex_init2 ∈ xws := xws_in (wt_2 (List.mem_of_getElem? (i := 162) rfl)) rfl
set_option maxRecDepth 100000 in
theorem w_472 : Cond.declares y_Th_init2 ∈ xws := xws_in (wt_2 (List.mem_of_getElem? (i := 164) rfl)) rfl
set_option maxRecDepth 100000 in
theorem w_473 : Cond.selects "java/lang/IndexOutOfBoundsException" y_Th_fillInStackTrace y_Th_fillInStackTrace ∈ xws := xws_in (wt_2 (List.mem_of_getElem? (i := 165) rfl)) rfl
set_option maxRecDepth 100000 in
theorem w_474 : Cond.selects "java/lang/IndexOutOfBoundsException" y_Th_fillInStackTrace2 y_Th_fillInStackTrace2 ∈ xws := xws_in (wt_2 (List.mem_of_getElem? (i := 166) rfl)) rfl
set_option maxRecDepth 100000 in
theorem w_475 : Cond.lays "java/lang/IndexOutOfBoundsException" "java/lang/Throwable" "cause" "Ljava/lang/Throwable;" ∈ xws := xws_in (wt_2 (List.mem_of_getElem? (i := 167) rfl)) rfl
set_option maxRecDepth 100000 in
theorem w_476 : Cond.lays "java/lang/Throwable" "java/lang/Throwable" "cause" "Ljava/lang/Throwable;" ∈ xws := xws_in (wt_2 (List.mem_of_getElem? (i := 168) rfl)) rfl
set_option maxRecDepth 100000 in
theorem w_477 : Cond.lays "java/lang/IndexOutOfBoundsException" "java/lang/Throwable" "stackTrace" "[Ljava/lang/StackTraceElement;" ∈ xws := xws_in (wt_2 (List.mem_of_getElem? (i := 169) rfl)) rfl
set_option maxRecDepth 100000 in
theorem w_478 : Cond.lays "java/lang/Throwable" "java/lang/Throwable" "stackTrace" "[Ljava/lang/StackTraceElement;" ∈ xws := xws_in (wt_2 (List.mem_of_getElem? (i := 170) rfl)) rfl
set_option maxRecDepth 100000 in
theorem w_479 : Cond.lays "java/lang/IndexOutOfBoundsException" "java/lang/Throwable" "suppressedExceptions" "Ljava/util/List;" ∈ xws := xws_in (wt_2 (List.mem_of_getElem? (i := 171) rfl)) rfl
set_option maxRecDepth 100000 in
theorem w_480 : Cond.lays "java/lang/Throwable" "java/lang/Throwable" "suppressedExceptions" "Ljava/util/List;" ∈ xws := xws_in (wt_2 (List.mem_of_getElem? (i := 172) rfl)) rfl
set_option maxRecDepth 100000 in
theorem w_481 : Cond.lays "java/lang/IndexOutOfBoundsException" "java/lang/Throwable" "detailMessage" "Ljava/lang/String;" ∈ xws := xws_in (wt_2 (List.mem_of_getElem? (i := 173) rfl)) rfl
set_option maxRecDepth 100000 in
theorem w_482 : Cond.lays "java/lang/Throwable" "java/lang/Throwable" "detailMessage" "Ljava/lang/String;" ∈ xws := xws_in (wt_2 (List.mem_of_getElem? (i := 174) rfl)) rfl
set_option maxRecDepth 100000 in
theorem w_483 : Cond.lays "java/lang/IndexOutOfBoundsException" "java/lang/Throwable" "backtrace" "Ljava/lang/Object;" ∈ xws := xws_in (wt_2 (List.mem_of_getElem? (i := 175) rfl)) rfl
set_option maxRecDepth 100000 in
theorem w_484 : Cond.lays "java/lang/Throwable" "java/lang/Throwable" "backtrace" "Ljava/lang/Object;" ∈ xws := xws_in (wt_2 (List.mem_of_getElem? (i := 176) rfl)) rfl
set_option maxRecDepth 100000 in
theorem w_485 : Cond.fieldLink "java/lang/Throwable" 198 "java/lang/Throwable" "backtrace" "Ljava/lang/Object;" ∈ xws := xws_in (wt_2 (List.mem_of_getElem? (i := 177) rfl)) rfl
set_option maxRecDepth 100000 in
theorem w_486 : Cond.superclass "java/lang/Throwable" "java/lang/Object" ∈ xws := xws_in (wt_2 (List.mem_of_getElem? (i := 178) rfl)) rfl
set_option maxRecDepth 100000 in
theorem w_487 : Cond.instanceMethod y_Th_init ∈ xws := xws_in (wt_2 (List.mem_of_getElem? (i := 179) rfl)) rfl
set_option maxRecDepth 100000 in
theorem w_488 : Cond.code y_Th_init prog_27_method_1_code 1 none ∈ xws := xws_in (wt_2 (List.mem_of_getElem? (i := 180) rfl)) rfl
set_option maxRecDepth 100000 in
theorem w_489 : Cond.methodLink "java/lang/Throwable" 1 y_Oj_init ∈ xws := xws_in (wt_2 (List.mem_of_getElem? (i := 181) rfl)) rfl
set_option maxRecDepth 100000 in
theorem w_490 : Cond.fieldLink "java/lang/Throwable" 13 "java/lang/Throwable" "UNASSIGNED_STACK" "[Ljava/lang/StackTraceElement;" ∈ xws := xws_in (wt_2 (List.mem_of_getElem? (i := 182) rfl)) rfl
set_option maxRecDepth 100000 in
theorem w_492 : Cond.fieldLink "java/lang/Throwable" 20 "java/lang/Throwable" "SUPPRESSED_SENTINEL" "Ljava/util/List;" ∈ xws := xws_in (wt_2 (List.mem_of_getElem? (i := 184) rfl)) rfl
set_option maxRecDepth 100000 in
theorem w_494 : Cond.methodLink "java/lang/Throwable" 27 y_Th_fillInStackTrace2 ∈ xws := xws_in (wt_2 (List.mem_of_getElem? (i := 186) rfl)) rfl
set_option maxRecDepth 100000 in
theorem w_495 : Cond.instanceMethod y_Th_fillInStackTrace2 ∈ xws := xws_in (wt_2 (List.mem_of_getElem? (i := 187) rfl)) rfl
set_option maxRecDepth 100000 in
theorem w_497 : Cond.selects "java/lang/IllegalArgumentException" y_Th_fillInStackTrace2 y_Th_fillInStackTrace2 ∈ xws := xws_in (wt_2 (List.mem_of_getElem? (i := 189) rfl)) rfl
set_option maxRecDepth 100000 in
theorem w_498 : Cond.selects "java/lang/UnsupportedOperationException" y_Th_fillInStackTrace2 y_Th_fillInStackTrace2 ∈ xws := xws_in (wt_2 (List.mem_of_getElem? (i := 190) rfl)) rfl
set_option maxRecDepth 100000 in
theorem w_499 : Cond.codeSync y_Th_fillInStackTrace2 prog_27_method_18_code 1 (some (.object "java/lang/Throwable")) ∈ xws := xws_in (wt_2 (List.mem_of_getElem? (i := 191) rfl)) rfl
set_option maxRecDepth 100000 in
theorem w_500 : Cond.methodLink "java/lang/Throwable" 202 y_Th_fillInStackTrace ∈ xws := xws_in (wt_2 (List.mem_of_getElem? (i := 192) rfl)) rfl
set_option maxRecDepth 100000 in
theorem w_502 : Cond.instanceMethod y_Th_fillInStackTrace ∈ xws := xws_in (wt_2 (List.mem_of_getElem? (i := 194) rfl)) rfl
set_option maxRecDepth 100000 in
theorem w_504 : Cond.native y_Th_fillInStackTrace ∈ xws := xws_in (wt_2 (List.mem_of_getElem? (i := 196) rfl)) rfl
set_option maxRecDepth 100000 in
theorem w_506 : Cond.methodLink "StyleCourt" 72 y_XI_init ∈ xws := xws_in (wt_2 (List.mem_of_getElem? (i := 198) rfl)) rfl
set_option maxRecDepth 100000 in
theorem w_507 : Cond.instanceMethod y_XI_init ∈ xws := xws_in (wt_2 (List.mem_of_getElem? (i := 199) rfl)) rfl
set_option maxRecDepth 100000 in
theorem w_508 : Cond.code y_XI_init prog_19_method_2_code 2 none ∈ xws := xws_in (wt_2 (List.mem_of_getElem? (i := 200) rfl)) rfl
set_option maxRecDepth 100000 in
theorem w_509 : Cond.methodLink "java/lang/IndexOutOfBoundsException" 7 y_Rt_init2 ∈ xws := xws_in (wt_2 (List.mem_of_getElem? (i := 201) rfl)) rfl
set_option maxRecDepth 100000 in
theorem w_510 : Cond.instanceMethod y_Rt_init2 ∈ xws := xws_in (wt_2 (List.mem_of_getElem? (i := 202) rfl)) rfl
set_option maxRecDepth 100000 in
theorem w_511 : Cond.code y_Rt_init2 prog_22_method_2_code 2 none ∈ xws := xws_in (wt_2 (List.mem_of_getElem? (i := 203) rfl)) rfl
set_option maxRecDepth 100000 in
theorem w_512 : Cond.methodLink "java/lang/RuntimeException" 7 y_Ex_init2 ∈ xws := xws_in (wt_2 (List.mem_of_getElem? (i := 204) rfl)) rfl
set_option maxRecDepth 100000 in
theorem w_513 : Cond.instanceMethod y_Ex_init2 ∈ xws := xws_in (wt_2 (List.mem_of_getElem? (i := 205) rfl)) rfl
set_option maxRecDepth 100000 in
theorem w_514 : Cond.code y_Ex_init2 prog_17_method_2_code 2 none ∈ xws := xws_in (wt_2 (List.mem_of_getElem? (i := 206) rfl)) rfl
set_option maxRecDepth 100000 in
theorem w_515 : Cond.methodLink "java/lang/Exception" 7 y_Th_init2 ∈ xws := xws_in (wt_2 (List.mem_of_getElem? (i := 207) rfl)) rfl
set_option maxRecDepth 100000 in
theorem w_516 : Cond.instanceMethod y_Th_init2 ∈ xws := xws_in (wt_2 (List.mem_of_getElem? (i := 208) rfl)) rfl
set_option maxRecDepth 100000 in
theorem w_517 : Cond.code y_Th_init2 prog_27_method_2_code 2 none ∈ xws := xws_in (wt_2 (List.mem_of_getElem? (i := 209) rfl)) rfl
set_option maxRecDepth 100000 in
theorem w_519 : Cond.fieldLink "java/lang/Throwable" 31 "java/lang/Throwable" "detailMessage" "Ljava/lang/String;" ∈ xws := xws_in (wt_2 (List.mem_of_getElem? (i := 211) rfl)) rfl
set_option maxRecDepth 100000 in
theorem w_520 : Cond.fieldLink "java/lang/Throwable" 7 "java/lang/Throwable" "cause" "Ljava/lang/Throwable;" ∈ xws := xws_in (wt_2 (List.mem_of_getElem? (i := 212) rfl)) rfl
set_option maxRecDepth 100000 in
theorem w_521 : Cond.fieldLink "java/lang/Throwable" 17 "java/lang/Throwable" "stackTrace" "[Ljava/lang/StackTraceElement;" ∈ xws := xws_in (wt_2 (List.mem_of_getElem? (i := 213) rfl)) rfl
set_option maxRecDepth 100000 in
theorem w_522 : Cond.fieldLink "java/lang/Throwable" 24 "java/lang/Throwable" "suppressedExceptions" "Ljava/util/List;" ∈ xws := xws_in (wt_2 (List.mem_of_getElem? (i := 214) rfl)) rfl
set_option maxRecDepth 100000 in
theorem w_531 : Cond.methodLink "StyleCourt" 75 y_Sc_putOnTape ∈ xws := xws_in (wt_2 (List.mem_of_getElem? (i := 223) rfl)) rfl
set_option maxRecDepth 100000 in
theorem w_533 : Cond.instanceMethod y_Sc_putOnTape ∈ xws := xws_in (wt_2 (List.mem_of_getElem? (i := 225) rfl)) rfl
set_option maxRecDepth 100000 in
theorem w_534 : Cond.code y_Sc_putOnTape prog_1_method_16_code 3 none ∈ xws := xws_in (wt_2 (List.mem_of_getElem? (i := 226) rfl)) rfl
set_option maxRecDepth 100000 in
theorem w_535 : Cond.methodLink "StyleCourtLaw" 72 y_Lw_end ∈ xws := xws_in (wt_2 (List.mem_of_getElem? (i := 227) rfl)) rfl
set_option maxRecDepth 100000 in
theorem w_536 : Cond.static y_Lw_end ∈ xws := xws_in (wt_2 (List.mem_of_getElem? (i := 228) rfl)) rfl
set_option maxRecDepth 100000 in
theorem w_537 : Cond.codeWith y_Lw_end method_4_code 4 (some .int) [((0 : Nat), (9 : Nat), (12 : Nat), (19 : Nat))] ∈ xws := xws_in (wt_2 (List.mem_of_getElem? (i := 229) rfl)) rfl
set_option maxRecDepth 100000 in
theorem w_539 : Cond.methodLink "StyleCourtLaw" 15 y_Sc_end ∈ xws := xws_in (wt_2 (List.mem_of_getElem? (i := 231) rfl)) rfl
set_option maxRecDepth 100000 in
theorem w_540 : Cond.instanceMethod y_Sc_end ∈ xws := xws_in (wt_2 (List.mem_of_getElem? (i := 232) rfl)) rfl
set_option maxRecDepth 100000 in
theorem w_541 : Cond.selects "StyleCourt" y_Sc_end y_Sc_end ∈ xws := xws_in (wt_2 (List.mem_of_getElem? (i := 233) rfl)) rfl
set_option maxRecDepth 100000 in
theorem w_542 : Cond.code y_Sc_end prog_1_method_3_code 2 (some .int) ∈ xws := xws_in (wt_2 (List.mem_of_getElem? (i := 234) rfl)) rfl
set_option maxRecDepth 100000 in
theorem w_543 : Cond.classLink "StyleCourt" 79 "java/lang/IllegalArgumentException" ∈ xws := xws_in (wt_2 (List.mem_of_getElem? (i := 235) rfl)) rfl
set_option maxRecDepth 100000 in
theorem w_544 : Cond.instantiable "java/lang/IllegalArgumentException" 6 ∈ xws := xws_in (wt_2 (List.mem_of_getElem? (i := 236) rfl)) rfl
set_option maxRecDepth 100000 in
theorem w_545 : Cond.castable "java/lang/IllegalArgumentException" "java/lang/IllegalArgumentException" ∈ xws := xws_in (wt_2 (List.mem_of_getElem? (i := 237) rfl)) rfl
set_option maxRecDepth 100000 in
theorem w_546 : Cond.selects "java/lang/IllegalArgumentException" y_Th_fillInStackTrace y_Th_fillInStackTrace ∈ xws := xws_in (wt_2 (List.mem_of_getElem? (i := 238) rfl)) rfl
set_option maxRecDepth 100000 in
theorem w_547 : Cond.lays "java/lang/IllegalArgumentException" "java/lang/Throwable" "cause" "Ljava/lang/Throwable;" ∈ xws := xws_in (wt_2 (List.mem_of_getElem? (i := 239) rfl)) rfl
set_option maxRecDepth 100000 in
theorem w_548 : Cond.lays "java/lang/IllegalArgumentException" "java/lang/Throwable" "stackTrace" "[Ljava/lang/StackTraceElement;" ∈ xws := xws_in (wt_3 (List.mem_of_getElem? (i := 0) rfl)) rfl
set_option maxRecDepth 100000 in
theorem w_549 : Cond.lays "java/lang/IllegalArgumentException" "java/lang/Throwable" "suppressedExceptions" "Ljava/util/List;" ∈ xws := xws_in (wt_3 (List.mem_of_getElem? (i := 1) rfl)) rfl
set_option maxRecDepth 100000 in
theorem w_550 : Cond.lays "java/lang/IllegalArgumentException" "java/lang/Throwable" "detailMessage" "Ljava/lang/String;" ∈ xws := xws_in (wt_3 (List.mem_of_getElem? (i := 2) rfl)) rfl
set_option maxRecDepth 100000 in
theorem w_551 : Cond.lays "java/lang/IllegalArgumentException" "java/lang/Throwable" "backtrace" "Ljava/lang/Object;" ∈ xws := xws_in (wt_3 (List.mem_of_getElem? (i := 3) rfl)) rfl
set_option maxRecDepth 100000 in
theorem w_553 : Cond.methodLink "StyleCourt" 83 y_XA_init ∈ xws := xws_in (wt_3 (List.mem_of_getElem? (i := 5) rfl)) rfl
set_option maxRecDepth 100000 in
theorem w_554 : Cond.instanceMethod y_XA_init ∈ xws := xws_in (wt_3 (List.mem_of_getElem? (i := 6) rfl)) rfl
set_option maxRecDepth 100000 in
theorem w_555 : Cond.code y_XA_init prog_18_method_2_code 2 none ∈ xws := xws_in (wt_3 (List.mem_of_getElem? (i := 7) rfl)) rfl
set_option maxRecDepth 100000 in
theorem w_556 : Cond.methodLink "java/lang/IllegalArgumentException" 7 y_Rt_init2 ∈ xws := xws_in (wt_3 (List.mem_of_getElem? (i := 8) rfl)) rfl
set_option maxRecDepth 100000 in
theorem w_559 : Cond.methodLink "StyleCourtLaw" 76 y_Lw_source ∈ xws := xws_in (wt_3 (List.mem_of_getElem? (i := 11) rfl)) rfl
set_option maxRecDepth 100000 in
theorem w_560 : Cond.static y_Lw_source ∈ xws := xws_in (wt_3 (List.mem_of_getElem? (i := 12) rfl)) rfl
set_option maxRecDepth 100000 in
theorem w_561 : Cond.codeWith y_Lw_source method_5_code 3 (some .int) [((0 : Nat), (8 : Nat), (11 : Nat), (25 : Nat))] ∈ xws := xws_in (wt_3 (List.mem_of_getElem? (i := 13) rfl)) rfl
set_option maxRecDepth 100000 in
theorem w_563 : Cond.methodLink "StyleCourtLaw" 21 y_Sc_source ∈ xws := xws_in (wt_3 (List.mem_of_getElem? (i := 15) rfl)) rfl
set_option maxRecDepth 100000 in
theorem w_564 : Cond.instanceMethod y_Sc_source ∈ xws := xws_in (wt_3 (List.mem_of_getElem? (i := 16) rfl)) rfl
set_option maxRecDepth 100000 in
theorem w_565 : Cond.selects "StyleCourt" y_Sc_source y_Sc_source ∈ xws := xws_in (wt_3 (List.mem_of_getElem? (i := 17) rfl)) rfl
set_option maxRecDepth 100000 in
theorem w_566 : Cond.code y_Sc_source prog_1_method_4_code 4 (some .int) ∈ xws := xws_in (wt_3 (List.mem_of_getElem? (i := 18) rfl)) rfl
set_option maxRecDepth 100000 in
theorem w_567 : Cond.methodLink "StyleCourt" 84 y_Sc_takeTape ∈ xws := xws_in (wt_3 (List.mem_of_getElem? (i := 19) rfl)) rfl
set_option maxRecDepth 100000 in
theorem w_569 : Cond.instanceMethod y_Sc_takeTape ∈ xws := xws_in (wt_3 (List.mem_of_getElem? (i := 21) rfl)) rfl
set_option maxRecDepth 100000 in
theorem w_570 : Cond.code y_Sc_takeTape prog_1_method_17_code 1 (some (.object "StyleCourt$Reader")) ∈ xws := xws_in (wt_3 (List.mem_of_getElem? (i := 22) rfl)) rfl
set_option maxRecDepth 100000 in
theorem w_571 : Cond.methodLink "StyleCourt" 91 y_Rd_here ∈ xws := xws_in (wt_3 (List.mem_of_getElem? (i := 23) rfl)) rfl
set_option maxRecDepth 100000 in
theorem w_572 : Cond.instanceMethod y_Rd_here ∈ xws := xws_in (wt_3 (List.mem_of_getElem? (i := 24) rfl)) rfl
set_option maxRecDepth 100000 in
theorem w_573 : Cond.selects "StyleCourt$Reader" y_Rd_here y_Rd_here ∈ xws := xws_in (wt_3 (List.mem_of_getElem? (i := 25) rfl)) rfl
set_option maxRecDepth 100000 in
theorem w_574 : Cond.code y_Rd_here prog_5_method_3_code 1 (some .int) ∈ xws := xws_in (wt_3 (List.mem_of_getElem? (i := 26) rfl)) rfl
set_option maxRecDepth 100000 in
theorem w_575 : Cond.methodLink "StyleCourt" 95 y_So_readPiece ∈ xws := xws_in (wt_3 (List.mem_of_getElem? (i := 27) rfl)) rfl
set_option maxRecDepth 100000 in
theorem w_576 : Cond.instanceMethod y_So_readPiece ∈ xws := xws_in (wt_3 (List.mem_of_getElem? (i := 28) rfl)) rfl
set_option maxRecDepth 100000 in
theorem w_577 : Cond.selects "StyleCourt$Source" y_So_readPiece y_So_readPiece ∈ xws := xws_in (wt_3 (List.mem_of_getElem? (i := 29) rfl)) rfl
set_option maxRecDepth 100000 in
theorem w_578 : Cond.code y_So_readPiece prog_9_method_2_code 4 none ∈ xws := xws_in (wt_3 (List.mem_of_getElem? (i := 30) rfl)) rfl
set_option maxRecDepth 100000 in
theorem w_579 : Cond.methodLink "StyleCourt$Source" 60 y_Rd_here ∈ xws := xws_in (wt_3 (List.mem_of_getElem? (i := 31) rfl)) rfl
set_option maxRecDepth 100000 in
theorem w_580 : Cond.methodLink "StyleCourt$Source" 64 y_So_readMarkup ∈ xws := xws_in (wt_3 (List.mem_of_getElem? (i := 32) rfl)) rfl
set_option maxRecDepth 100000 in
theorem w_582 : Cond.instanceMethod y_So_readMarkup ∈ xws := xws_in (wt_3 (List.mem_of_getElem? (i := 34) rfl)) rfl
set_option maxRecDepth 100000 in
theorem w_583 : Cond.code y_So_readMarkup prog_9_method_3_code 4 none ∈ xws := xws_in (wt_3 (List.mem_of_getElem? (i := 35) rfl)) rfl
set_option maxRecDepth 100000 in
theorem w_584 : Cond.methodLink "StyleCourt$Source" 75 y_So_readEndOfElement ∈ xws := xws_in (wt_3 (List.mem_of_getElem? (i := 36) rfl)) rfl
set_option maxRecDepth 100000 in
theorem w_586 : Cond.instanceMethod y_So_readEndOfElement ∈ xws := xws_in (wt_3 (List.mem_of_getElem? (i := 38) rfl)) rfl
set_option maxRecDepth 100000 in
theorem w_587 : Cond.code y_So_readEndOfElement prog_9_method_11_code 3 none ∈ xws := xws_in (wt_3 (List.mem_of_getElem? (i := 39) rfl)) rfl
set_option maxRecDepth 100000 in
theorem w_588 : Cond.methodLink "StyleCourt$Source" 98 y_Rd_failAt ∈ xws := xws_in (wt_3 (List.mem_of_getElem? (i := 40) rfl)) rfl
set_option maxRecDepth 100000 in
theorem w_589 : Cond.instanceMethod y_Rd_failAt ∈ xws := xws_in (wt_3 (List.mem_of_getElem? (i := 41) rfl)) rfl
set_option maxRecDepth 100000 in
theorem w_590 : Cond.selects "StyleCourt$Reader" y_Rd_failAt y_Rd_failAt ∈ xws := xws_in (wt_3 (List.mem_of_getElem? (i := 42) rfl)) rfl
set_option maxRecDepth 100000 in
theorem w_591 : Cond.code y_Rd_failAt prog_5_method_2_code 2 none ∈ xws := xws_in (wt_3 (List.mem_of_getElem? (i := 43) rfl)) rfl
set_option maxRecDepth 100000 in
theorem w_592 : Cond.classLink "StyleCourt$Reader" 28 "java/lang/UnsupportedOperationException" ∈ xws := xws_in (wt_3 (List.mem_of_getElem? (i := 44) rfl)) rfl
set_option maxRecDepth 100000 in
theorem w_593 : Cond.instantiable "java/lang/UnsupportedOperationException" 6 ∈ xws := xws_in (wt_3 (List.mem_of_getElem? (i := 45) rfl)) rfl
set_option maxRecDepth 100000 in
theorem w_594 : Cond.castable "java/lang/UnsupportedOperationException" "java/lang/UnsupportedOperationException" ∈ xws := xws_in (wt_3 (List.mem_of_getElem? (i := 46) rfl)) rfl
set_option maxRecDepth 100000 in
theorem w_595 : Cond.selects "java/lang/UnsupportedOperationException" y_Th_fillInStackTrace y_Th_fillInStackTrace ∈ xws := xws_in (wt_3 (List.mem_of_getElem? (i := 47) rfl)) rfl
set_option maxRecDepth 100000 in
theorem w_596 : Cond.lays "java/lang/UnsupportedOperationException" "java/lang/Throwable" "cause" "Ljava/lang/Throwable;" ∈ xws := xws_in (wt_3 (List.mem_of_getElem? (i := 48) rfl)) rfl
set_option maxRecDepth 100000 in
theorem w_597 : Cond.lays "java/lang/UnsupportedOperationException" "java/lang/Throwable" "stackTrace" "[Ljava/lang/StackTraceElement;" ∈ xws := xws_in (wt_3 (List.mem_of_getElem? (i := 49) rfl)) rfl
set_option maxRecDepth 100000 in
theorem w_598 : Cond.lays "java/lang/UnsupportedOperationException" "java/lang/Throwable" "suppressedExceptions" "Ljava/util/List;" ∈ xws := xws_in (wt_3 (List.mem_of_getElem? (i := 50) rfl)) rfl
set_option maxRecDepth 100000 in
theorem w_599 : Cond.lays "java/lang/UnsupportedOperationException" "java/lang/Throwable" "detailMessage" "Ljava/lang/String;" ∈ xws := xws_in (wt_3 (List.mem_of_getElem? (i := 51) rfl)) rfl
set_option maxRecDepth 100000 in
theorem w_600 : Cond.lays "java/lang/UnsupportedOperationException" "java/lang/Throwable" "backtrace" "Ljava/lang/Object;" ∈ xws := xws_in (wt_3 (List.mem_of_getElem? (i := 52) rfl)) rfl
set_option maxRecDepth 100000 in
theorem w_602 : Cond.methodLink "StyleCourt$Reader" 32 y_XU_init ∈ xws := xws_in (wt_3 (List.mem_of_getElem? (i := 54) rfl)) rfl
set_option maxRecDepth 100000 in
theorem w_603 : Cond.instanceMethod y_XU_init ∈ xws := xws_in (wt_3 (List.mem_of_getElem? (i := 55) rfl)) rfl
set_option maxRecDepth 100000 in
theorem w_604 : Cond.code y_XU_init prog_28_method_2_code 2 none ∈ xws := xws_in (wt_3 (List.mem_of_getElem? (i := 56) rfl)) rfl
set_option maxRecDepth 100000 in
theorem w_605 : Cond.methodLink "java/lang/UnsupportedOperationException" 7 y_Rt_init2 ∈ xws := xws_in (wt_3 (List.mem_of_getElem? (i := 57) rfl)) rfl
set_option maxRecDepth 100000 in
theorem w_608 : Cond.methodLink "StyleCourt$Source" 109 y_Rd_readName ∈ xws := xws_in (wt_3 (List.mem_of_getElem? (i := 60) rfl)) rfl
set_option maxRecDepth 100000 in
theorem w_609 : Cond.instanceMethod y_Rd_readName ∈ xws := xws_in (wt_3 (List.mem_of_getElem? (i := 61) rfl)) rfl
set_option maxRecDepth 100000 in
theorem w_610 : Cond.selects "StyleCourt$Reader" y_Rd_readName y_Rd_readName ∈ xws := xws_in (wt_3 (List.mem_of_getElem? (i := 62) rfl)) rfl
set_option maxRecDepth 100000 in
theorem w_611 : Cond.code y_Rd_readName prog_5_method_7_code 2 (some (.object "StyleCourt$Slice")) ∈ xws := xws_in (wt_3 (List.mem_of_getElem? (i := 63) rfl)) rfl
set_option maxRecDepth 100000 in
theorem w_612 : Cond.methodLink "StyleCourt$Reader" 39 y_Rd_here ∈ xws := xws_in (wt_3 (List.mem_of_getElem? (i := 64) rfl)) rfl
set_option maxRecDepth 100000 in
theorem w_613 : Cond.methodLinkNest "StyleCourt$Reader" 50 y_Sc_isSmall "StyleCourt" ∈ xws := xws_in (wt_3 (List.mem_of_getElem? (i := 65) rfl)) rfl
set_option maxRecDepth 100000 in
theorem w_614 : Cond.static y_Sc_isSmall ∈ xws := xws_in (wt_3 (List.mem_of_getElem? (i := 66) rfl)) rfl
set_option maxRecDepth 100000 in
theorem w_615 : Cond.code y_Sc_isSmall prog_1_method_24_code 1 (some .boolean) ∈ xws := xws_in (wt_3 (List.mem_of_getElem? (i := 67) rfl)) rfl
set_option maxRecDepth 100000 in
theorem w_616 : Cond.methodLink "StyleCourt$Reader" 43 y_Rd_failAt ∈ xws := xws_in (wt_3 (List.mem_of_getElem? (i := 68) rfl)) rfl
set_option maxRecDepth 100000 in
theorem w_617 : Cond.methodLinkNest "StyleCourt$Reader" 53 y_Sc_isDigit "StyleCourt" ∈ xws := xws_in (wt_3 (List.mem_of_getElem? (i := 69) rfl)) rfl
set_option maxRecDepth 100000 in
theorem w_618 : Cond.static y_Sc_isDigit ∈ xws := xws_in (wt_3 (List.mem_of_getElem? (i := 70) rfl)) rfl
set_option maxRecDepth 100000 in
theorem w_619 : Cond.code y_Sc_isDigit prog_1_method_25_code 1 (some .boolean) ∈ xws := xws_in (wt_3 (List.mem_of_getElem? (i := 71) rfl)) rfl
set_option maxRecDepth 100000 in
theorem w_620 : Cond.classLink "StyleCourt$Reader" 56 "StyleCourt$Slice" ∈ xws := xws_in (wt_3 (List.mem_of_getElem? (i := 72) rfl)) rfl
set_option maxRecDepth 100000 in
theorem w_621 : Cond.methodLink "StyleCourt$Reader" 58 y_Sl_init ∈ xws := xws_in (wt_3 (List.mem_of_getElem? (i := 73) rfl)) rfl
set_option maxRecDepth 100000 in
theorem w_622 : Cond.methodLink "StyleCourt$Source" 181 y_Sl_sameAs ∈ xws := xws_in (wt_3 (List.mem_of_getElem? (i := 74) rfl)) rfl
set_option maxRecDepth 100000 in
theorem w_623 : Cond.instanceMethod y_Sl_sameAs ∈ xws := xws_in (wt_3 (List.mem_of_getElem? (i := 75) rfl)) rfl
set_option maxRecDepth 100000 in
theorem w_624 : Cond.selects "StyleCourt$Slice" y_Sl_sameAs y_Sl_sameAs ∈ xws := xws_in (wt_3 (List.mem_of_getElem? (i := 76) rfl)) rfl
set_option maxRecDepth 100000 in
theorem w_625 : Cond.code y_Sl_sameAs prog_8_method_2_code 3 (some .boolean) ∈ xws := xws_in (wt_3 (List.mem_of_getElem? (i := 77) rfl)) rfl
set_option maxRecDepth 100000 in
theorem w_626 : Cond.methodLink "StyleCourt$Source" 143 y_Rd_expectSign ∈ xws := xws_in (wt_3 (List.mem_of_getElem? (i := 78) rfl)) rfl
set_option maxRecDepth 100000 in
theorem w_627 : Cond.instanceMethod y_Rd_expectSign ∈ xws := xws_in (wt_3 (List.mem_of_getElem? (i := 79) rfl)) rfl
set_option maxRecDepth 100000 in
theorem w_628 : Cond.selects "StyleCourt$Reader" y_Rd_expectSign y_Rd_expectSign ∈ xws := xws_in (wt_3 (List.mem_of_getElem? (i := 80) rfl)) rfl
set_option maxRecDepth 100000 in
theorem w_629 : Cond.code y_Rd_expectSign prog_5_method_6_code 2 none ∈ xws := xws_in (wt_3 (List.mem_of_getElem? (i := 81) rfl)) rfl
set_option maxRecDepth 100000 in
theorem w_630 : Cond.methodLink "StyleCourt$Reader" 47 y_Rd_nextSign ∈ xws := xws_in (wt_3 (List.mem_of_getElem? (i := 82) rfl)) rfl
set_option maxRecDepth 100000 in
theorem w_631 : Cond.instanceMethod y_Rd_nextSign ∈ xws := xws_in (wt_3 (List.mem_of_getElem? (i := 83) rfl)) rfl
set_option maxRecDepth 100000 in
theorem w_632 : Cond.selects "StyleCourt$Reader" y_Rd_nextSign y_Rd_nextSign ∈ xws := xws_in (wt_3 (List.mem_of_getElem? (i := 84) rfl)) rfl
set_option maxRecDepth 100000 in
theorem w_633 : Cond.code y_Rd_nextSign prog_5_method_4_code 1 (some .int) ∈ xws := xws_in (wt_3 (List.mem_of_getElem? (i := 85) rfl)) rfl
set_option maxRecDepth 100000 in
theorem w_634 : Cond.methodLinkNest "StyleCourt$Reader" 35 y_Sc_isBlank "StyleCourt" ∈ xws := xws_in (wt_3 (List.mem_of_getElem? (i := 86) rfl)) rfl
set_option maxRecDepth 100000 in
theorem w_635 : Cond.static y_Sc_isBlank ∈ xws := xws_in (wt_3 (List.mem_of_getElem? (i := 87) rfl)) rfl
set_option maxRecDepth 100000 in
theorem w_636 : Cond.code y_Sc_isBlank prog_1_method_26_code 1 (some .boolean) ∈ xws := xws_in (wt_3 (List.mem_of_getElem? (i := 88) rfl)) rfl
set_option maxRecDepth 100000 in
theorem w_637 : Cond.methodLink "StyleCourt$Source" 168 y_So_finish ∈ xws := xws_in (wt_3 (List.mem_of_getElem? (i := 89) rfl)) rfl
set_option maxRecDepth 100000 in
theorem w_639 : Cond.instanceMethod y_So_finish ∈ xws := xws_in (wt_3 (List.mem_of_getElem? (i := 91) rfl)) rfl
set_option maxRecDepth 100000 in
theorem w_640 : Cond.code y_So_finish prog_9_method_12_code 3 none ∈ xws := xws_in (wt_3 (List.mem_of_getElem? (i := 92) rfl)) rfl
set_option maxRecDepth 100000 in
theorem w_641 : Cond.methodLink "StyleCourt$Source" 131 y_AL_size ∈ xws := xws_in (wt_3 (List.mem_of_getElem? (i := 93) rfl)) rfl
set_option maxRecDepth 100000 in
theorem w_642 : Cond.instanceMethod y_AL_size ∈ xws := xws_in (wt_3 (List.mem_of_getElem? (i := 94) rfl)) rfl
set_option maxRecDepth 100000 in
theorem w_643 : Cond.selects "java/util/ArrayList" y_AL_size y_AL_size ∈ xws := xws_in (wt_3 (List.mem_of_getElem? (i := 95) rfl)) rfl
set_option maxRecDepth 100000 in
theorem w_644 : Cond.code y_AL_size prog_31_method_8_code 1 (some .int) ∈ xws := xws_in (wt_3 (List.mem_of_getElem? (i := 96) rfl)) rfl
set_option maxRecDepth 100000 in
theorem w_645 : Cond.methodLink "StyleCourt$Source" 78 y_So_readBeginOfElement ∈ xws := xws_in (wt_3 (List.mem_of_getElem? (i := 97) rfl)) rfl
set_option maxRecDepth 100000 in
theorem w_647 : Cond.instanceMethod y_So_readBeginOfElement ∈ xws := xws_in (wt_3 (List.mem_of_getElem? (i := 99) rfl)) rfl
set_option maxRecDepth 100000 in
theorem w_648 : Cond.code y_So_readBeginOfElement prog_9_method_9_code 5 none ∈ xws := xws_in (wt_3 (List.mem_of_getElem? (i := 100) rfl)) rfl
set_option maxRecDepth 100000 in
theorem w_649 : Cond.methodLink "StyleCourt$Source" 149 y_So_readFields ∈ xws := xws_in (wt_3 (List.mem_of_getElem? (i := 101) rfl)) rfl
set_option maxRecDepth 100000 in
theorem w_651 : Cond.instanceMethod y_So_readFields ∈ xws := xws_in (wt_3 (List.mem_of_getElem? (i := 103) rfl)) rfl
set_option maxRecDepth 100000 in
theorem w_652 : Cond.code y_So_readFields prog_9_method_10_code 6 none ∈ xws := xws_in (wt_3 (List.mem_of_getElem? (i := 104) rfl)) rfl
set_option maxRecDepth 100000 in
theorem w_653 : Cond.methodLink "StyleCourt$Source" 134 y_Rd_nextSign ∈ xws := xws_in (wt_3 (List.mem_of_getElem? (i := 105) rfl)) rfl
set_option maxRecDepth 100000 in
theorem w_654 : Cond.methodLinkNest "StyleCourt$Source" 172 y_Sc_isSmall "StyleCourt" ∈ xws := xws_in (wt_3 (List.mem_of_getElem? (i := 106) rfl)) rfl
set_option maxRecDepth 100000 in
theorem w_655 : Cond.methodLinkNest "StyleCourt$Source" 113 y_Sc_findNamed "StyleCourt" ∈ xws := xws_in (wt_3 (List.mem_of_getElem? (i := 107) rfl)) rfl
set_option maxRecDepth 100000 in
theorem w_656 : Cond.static y_Sc_findNamed ∈ xws := xws_in (wt_3 (List.mem_of_getElem? (i := 108) rfl)) rfl
set_option maxRecDepth 100000 in
theorem w_657 : Cond.code y_Sc_findNamed prog_1_method_28_code 3 (some (.object "StyleCourt$Named")) ∈ xws := xws_in (wt_3 (List.mem_of_getElem? (i := 109) rfl)) rfl
set_option maxRecDepth 100000 in
theorem w_658 : Cond.methodLink "StyleCourt" 113 y_AL_size ∈ xws := xws_in (wt_3 (List.mem_of_getElem? (i := 110) rfl)) rfl
set_option maxRecDepth 100000 in
theorem w_659 : Cond.methodLink "StyleCourt" 184 y_AL_get ∈ xws := xws_in (wt_3 (List.mem_of_getElem? (i := 111) rfl)) rfl
set_option maxRecDepth 100000 in
theorem w_660 : Cond.instanceMethod y_AL_get ∈ xws := xws_in (wt_3 (List.mem_of_getElem? (i := 112) rfl)) rfl
set_option maxRecDepth 100000 in
theorem w_661 : Cond.selects "java/util/ArrayList" y_AL_get y_AL_get ∈ xws := xws_in (wt_3 (List.mem_of_getElem? (i := 113) rfl)) rfl
set_option maxRecDepth 100000 in
theorem w_662 : Cond.code y_AL_get prog_31_method_20_code 2 (some (.object "java/lang/Object")) ∈ xws := xws_in (wt_3 (List.mem_of_getElem? (i := 114) rfl)) rfl
set_option maxRecDepth 100000 in
theorem w_663 : Cond.methodLink "java/util/ArrayList" 118 y_Ob_checkIndex ∈ xws := xws_in (wt_3 (List.mem_of_getElem? (i := 115) rfl)) rfl
set_option maxRecDepth 100000 in
theorem w_664 : Cond.static y_Ob_checkIndex ∈ xws := xws_in (wt_3 (List.mem_of_getElem? (i := 116) rfl)) rfl
set_option maxRecDepth 100000 in
theorem w_665 : Cond.code y_Ob_checkIndex prog_35_method_17_code 2 (some .int) ∈ xws := xws_in (wt_3 (List.mem_of_getElem? (i := 117) rfl)) rfl
set_option maxRecDepth 100000 in
theorem w_666 : Cond.methodLink "java/util/Objects" 105 y_Pr_checkIndex ∈ xws := xws_in (wt_3 (List.mem_of_getElem? (i := 118) rfl)) rfl
set_option maxRecDepth 100000 in
theorem w_667 : Cond.static y_Pr_checkIndex ∈ xws := xws_in (wt_3 (List.mem_of_getElem? (i := 119) rfl)) rfl
set_option maxRecDepth 100000 in
theorem w_668 : Cond.code y_Pr_checkIndex prog_39_method_11_code 3 (some .int) ∈ xws := xws_in (wt_3 (List.mem_of_getElem? (i := 120) rfl)) rfl
set_option maxRecDepth 100000 in
theorem w_669 : Cond.methodLink "java/util/ArrayList" 123 y_AL_elementData ∈ xws := xws_in (wt_3 (List.mem_of_getElem? (i := 121) rfl)) rfl
set_option maxRecDepth 100000 in
theorem w_670 : Cond.instanceMethod y_AL_elementData ∈ xws := xws_in (wt_3 (List.mem_of_getElem? (i := 122) rfl)) rfl
set_option maxRecDepth 100000 in
theorem w_671 : Cond.selects "java/util/ArrayList" y_AL_elementData y_AL_elementData ∈ xws := xws_in (wt_3 (List.mem_of_getElem? (i := 123) rfl)) rfl
set_option maxRecDepth 100000 in
theorem w_672 : Cond.code y_AL_elementData prog_31_method_18_code 2 (some (.object "java/lang/Object")) ∈ xws := xws_in (wt_3 (List.mem_of_getElem? (i := 124) rfl)) rfl
set_option maxRecDepth 100000 in
theorem w_673 : Cond.classLink "StyleCourt" 236 "StyleCourt$Named" ∈ xws := xws_in (wt_3 (List.mem_of_getElem? (i := 125) rfl)) rfl
set_option maxRecDepth 100000 in
theorem w_674 : Cond.methodLink "StyleCourt" 295 y_Sl_sameAs ∈ xws := xws_in (wt_3 (List.mem_of_getElem? (i := 126) rfl)) rfl
set_option maxRecDepth 100000 in
theorem w_675 : Cond.methodLink "StyleCourt$Source" 137 y_Rd_readString ∈ xws := xws_in (wt_3 (List.mem_of_getElem? (i := 127) rfl)) rfl
set_option maxRecDepth 100000 in
theorem w_676 : Cond.instanceMethod y_Rd_readString ∈ xws := xws_in (wt_3 (List.mem_of_getElem? (i := 128) rfl)) rfl
set_option maxRecDepth 100000 in
theorem w_677 : Cond.selects "StyleCourt$Reader" y_Rd_readString y_Rd_readString ∈ xws := xws_in (wt_3 (List.mem_of_getElem? (i := 129) rfl)) rfl
set_option maxRecDepth 100000 in
theorem w_678 : Cond.code y_Rd_readString prog_5_method_9_code 2 (some (.object "StyleCourt$Slice")) ∈ xws := xws_in (wt_3 (List.mem_of_getElem? (i := 130) rfl)) rfl
set_option maxRecDepth 100000 in
theorem w_679 : Cond.methodLinkNest "StyleCourt$Reader" 61 y_Sc_isPrinted "StyleCourt" ∈ xws := xws_in (wt_3 (List.mem_of_getElem? (i := 131) rfl)) rfl
set_option maxRecDepth 100000 in
theorem w_680 : Cond.static y_Sc_isPrinted ∈ xws := xws_in (wt_3 (List.mem_of_getElem? (i := 132) rfl)) rfl
set_option maxRecDepth 100000 in
theorem w_681 : Cond.code y_Sc_isPrinted prog_1_method_27_code 1 (some .boolean) ∈ xws := xws_in (wt_3 (List.mem_of_getElem? (i := 133) rfl)) rfl
set_option maxRecDepth 100000 in
theorem w_682 : Cond.methodLink "StyleCourt$Source" 81 y_Rd_expect ∈ xws := xws_in (wt_3 (List.mem_of_getElem? (i := 134) rfl)) rfl
set_option maxRecDepth 100000 in
theorem w_683 : Cond.instanceMethod y_Rd_expect ∈ xws := xws_in (wt_3 (List.mem_of_getElem? (i := 135) rfl)) rfl
set_option maxRecDepth 100000 in
theorem w_684 : Cond.selects "StyleCourt$Reader" y_Rd_expect y_Rd_expect ∈ xws := xws_in (wt_3 (List.mem_of_getElem? (i := 136) rfl)) rfl
set_option maxRecDepth 100000 in
theorem w_685 : Cond.code y_Rd_expect prog_5_method_5_code 2 none ∈ xws := xws_in (wt_3 (List.mem_of_getElem? (i := 137) rfl)) rfl
set_option maxRecDepth 100000 in
theorem w_686 : Cond.methodLink "StyleCourt$Source" 85 y_Rd_skipComment ∈ xws := xws_in (wt_3 (List.mem_of_getElem? (i := 138) rfl)) rfl
set_option maxRecDepth 100000 in
theorem w_687 : Cond.instanceMethod y_Rd_skipComment ∈ xws := xws_in (wt_3 (List.mem_of_getElem? (i := 139) rfl)) rfl
set_option maxRecDepth 100000 in
theorem w_688 : Cond.selects "StyleCourt$Reader" y_Rd_skipComment y_Rd_skipComment ∈ xws := xws_in (wt_3 (List.mem_of_getElem? (i := 140) rfl)) rfl
set_option maxRecDepth 100000 in
theorem w_689 : Cond.code y_Rd_skipComment prog_5_method_10_code 1 none ∈ xws := xws_in (wt_3 (List.mem_of_getElem? (i := 141) rfl)) rfl
set_option maxRecDepth 100000 in
theorem w_690 : Cond.methodLink "StyleCourt$Reader" 64 y_Rd_commentEndsHere ∈ xws := xws_in (wt_3 (List.mem_of_getElem? (i := 142) rfl)) rfl
set_option maxRecDepth 100000 in
theorem w_692 : Cond.instanceMethod y_Rd_commentEndsHere ∈ xws := xws_in (wt_3 (List.mem_of_getElem? (i := 144) rfl)) rfl
set_option maxRecDepth 100000 in
theorem w_693 : Cond.code y_Rd_commentEndsHere prog_5_method_11_code 1 (some .boolean) ∈ xws := xws_in (wt_3 (List.mem_of_getElem? (i := 145) rfl)) rfl
set_option maxRecDepth 100000 in
theorem w_694 : Cond.methodLink "StyleCourt$Source" 88 y_So_readEntity ∈ xws := xws_in (wt_3 (List.mem_of_getElem? (i := 146) rfl)) rfl
set_option maxRecDepth 100000 in
theorem w_696 : Cond.instanceMethod y_So_readEntity ∈ xws := xws_in (wt_3 (List.mem_of_getElem? (i := 148) rfl)) rfl
set_option maxRecDepth 100000 in
theorem w_697 : Cond.code y_So_readEntity prog_9_method_8_code 6 none ∈ xws := xws_in (wt_3 (List.mem_of_getElem? (i := 149) rfl)) rfl
set_option maxRecDepth 100000 in
theorem w_698 : Cond.methodLink "StyleCourt$Source" 140 y_Sl_holds ∈ xws := xws_in (wt_3 (List.mem_of_getElem? (i := 150) rfl)) rfl
set_option maxRecDepth 100000 in
theorem w_699 : Cond.instanceMethod y_Sl_holds ∈ xws := xws_in (wt_3 (List.mem_of_getElem? (i := 151) rfl)) rfl
set_option maxRecDepth 100000 in
theorem w_700 : Cond.selects "StyleCourt$Slice" y_Sl_holds y_Sl_holds ∈ xws := xws_in (wt_3 (List.mem_of_getElem? (i := 152) rfl)) rfl
set_option maxRecDepth 100000 in
theorem w_701 : Cond.code y_Sl_holds prog_8_method_4_code 3 (some .boolean) ∈ xws := xws_in (wt_3 (List.mem_of_getElem? (i := 153) rfl)) rfl
set_option maxRecDepth 100000 in
theorem w_702 : Cond.methodLink "StyleCourt$Source" 68 y_So_readReference ∈ xws := xws_in (wt_3 (List.mem_of_getElem? (i := 154) rfl)) rfl
set_option maxRecDepth 100000 in
theorem w_704 : Cond.instanceMethod y_So_readReference ∈ xws := xws_in (wt_3 (List.mem_of_getElem? (i := 156) rfl)) rfl
set_option maxRecDepth 100000 in
theorem w_705 : Cond.code y_So_readReference prog_9_method_6_code 4 none ∈ xws := xws_in (wt_3 (List.mem_of_getElem? (i := 157) rfl)) rfl
set_option maxRecDepth 100000 in
theorem w_706 : Cond.methodLink "StyleCourt$Source" 102 y_So_addText ∈ xws := xws_in (wt_3 (List.mem_of_getElem? (i := 158) rfl)) rfl
set_option maxRecDepth 100000 in
theorem w_708 : Cond.instanceMethod y_So_addText ∈ xws := xws_in (wt_3 (List.mem_of_getElem? (i := 160) rfl)) rfl
set_option maxRecDepth 100000 in
theorem w_709 : Cond.code y_So_addText prog_9_method_7_code 2 none ∈ xws := xws_in (wt_3 (List.mem_of_getElem? (i := 161) rfl)) rfl
set_option maxRecDepth 100000 in
theorem w_710 : Cond.methodLink "StyleCourt$Source" 72 y_So_readText ∈ xws := xws_in (wt_3 (List.mem_of_getElem? (i := 162) rfl)) rfl
set_option maxRecDepth 100000 in
theorem w_712 : Cond.instanceMethod y_So_readText ∈ xws := xws_in (wt_3 (List.mem_of_getElem? (i := 164) rfl)) rfl
set_option maxRecDepth 100000 in
theorem w_713 : Cond.code y_So_readText prog_9_method_4_code 3 none ∈ xws := xws_in (wt_3 (List.mem_of_getElem? (i := 165) rfl)) rfl
set_option maxRecDepth 100000 in
theorem w_714 : Cond.methodLink "StyleCourt$Source" 94 y_So_isText ∈ xws := xws_in (wt_3 (List.mem_of_getElem? (i := 166) rfl)) rfl
set_option maxRecDepth 100000 in
theorem w_715 : Cond.static y_So_isText ∈ xws := xws_in (wt_3 (List.mem_of_getElem? (i := 167) rfl)) rfl
set_option maxRecDepth 100000 in
theorem w_716 : Cond.code y_So_isText prog_9_method_5_code 1 (some .boolean) ∈ xws := xws_in (wt_3 (List.mem_of_getElem? (i := 168) rfl)) rfl
set_option maxRecDepth 100000 in
theorem w_717 : Cond.methodLinkNest "StyleCourt$Source" 106 y_Sc_isPrinted "StyleCourt" ∈ xws := xws_in (wt_3 (List.mem_of_getElem? (i := 169) rfl)) rfl
set_option maxRecDepth 100000 in
theorem w_718 : Cond.methodLink "StyleCourt" 106 y_Rd_failAt ∈ xws := xws_in (wt_3 (List.mem_of_getElem? (i := 170) rfl)) rfl
set_option maxRecDepth 100000 in
theorem w_719 : Cond.methodLink "StyleCourtLaw" 80 y_Lw_style ∈ xws := xws_in (wt_3 (List.mem_of_getElem? (i := 171) rfl)) rfl
set_option maxRecDepth 100000 in
theorem w_720 : Cond.static y_Lw_style ∈ xws := xws_in (wt_3 (List.mem_of_getElem? (i := 172) rfl)) rfl
set_option maxRecDepth 100000 in
theorem w_721 : Cond.codeWith y_Lw_style method_6_code 3 (some .int) [((0 : Nat), (8 : Nat), (11 : Nat), (25 : Nat))] ∈ xws := xws_in (wt_3 (List.mem_of_getElem? (i := 173) rfl)) rfl
set_option maxRecDepth 100000 in
theorem w_722 : Cond.methodLink "StyleCourtLaw" 27 y_Sc_style ∈ xws := xws_in (wt_3 (List.mem_of_getElem? (i := 174) rfl)) rfl
set_option maxRecDepth 100000 in
theorem w_723 : Cond.instanceMethod y_Sc_style ∈ xws := xws_in (wt_3 (List.mem_of_getElem? (i := 175) rfl)) rfl
set_option maxRecDepth 100000 in
theorem w_724 : Cond.selects "StyleCourt" y_Sc_style y_Sc_style ∈ xws := xws_in (wt_3 (List.mem_of_getElem? (i := 176) rfl)) rfl
set_option maxRecDepth 100000 in
theorem w_725 : Cond.code y_Sc_style prog_1_method_5_code 5 (some .int) ∈ xws := xws_in (wt_3 (List.mem_of_getElem? (i := 177) rfl)) rfl
set_option maxRecDepth 100000 in
theorem w_726 : Cond.methodLink "StyleCourt" 118 y_Rd_nextSign ∈ xws := xws_in (wt_3 (List.mem_of_getElem? (i := 178) rfl)) rfl
set_option maxRecDepth 100000 in
theorem w_727 : Cond.classLink "StyleCourt" 121 "StyleCourt$Rule" ∈ xws := xws_in (wt_3 (List.mem_of_getElem? (i := 179) rfl)) rfl
set_option maxRecDepth 100000 in
theorem w_728 : Cond.instantiable "StyleCourt$Rule" 2 ∈ xws := xws_in (wt_3 (List.mem_of_getElem? (i := 180) rfl)) rfl
set_option maxRecDepth 100000 in
theorem w_729 : Cond.methodLinkNest "StyleCourt" 123 y_Ru_init "StyleCourt" ∈ xws := xws_in (wt_3 (List.mem_of_getElem? (i := 181) rfl)) rfl
set_option maxRecDepth 100000 in
theorem w_730 : Cond.instanceMethod y_Ru_init ∈ xws := xws_in (wt_3 (List.mem_of_getElem? (i := 182) rfl)) rfl
set_option maxRecDepth 100000 in
theorem w_731 : Cond.code y_Ru_init prog_6_method_1_code 1 none ∈ xws := xws_in (wt_3 (List.mem_of_getElem? (i := 183) rfl)) rfl
set_option maxRecDepth 100000 in
theorem w_732 : Cond.methodLink "StyleCourt$Rule" 1 y_Oj_init ∈ xws := xws_in (wt_3 (List.mem_of_getElem? (i := 184) rfl)) rfl
set_option maxRecDepth 100000 in
theorem w_733 : Cond.classLink "StyleCourt$Rule" 7 "java/util/ArrayList" ∈ xws := xws_in (wt_3 (List.mem_of_getElem? (i := 185) rfl)) rfl
set_option maxRecDepth 100000 in
theorem w_734 : Cond.methodLink "StyleCourt$Rule" 9 y_AL_init ∈ xws := xws_in (wt_3 (List.mem_of_getElem? (i := 186) rfl)) rfl
set_option maxRecDepth 100000 in
theorem w_735 : Cond.fieldLink "StyleCourt$Rule" 10 "StyleCourt$Rule" "selectors" "Ljava/util/ArrayList;" ∈ xws := xws_in (wt_3 (List.mem_of_getElem? (i := 187) rfl)) rfl
set_option maxRecDepth 100000 in
theorem w_736 : Cond.fieldLink "StyleCourt$Style" 55 "StyleCourt$Rule" "selectors" "Ljava/util/ArrayList;" ∈ xws := xws_in (wt_3 (List.mem_of_getElem? (i := 188) rfl)) rfl
set_option maxRecDepth 100000 in
theorem w_737 : Cond.fieldLink "StyleCourt$Rule" 16 "StyleCourt$Rule" "allTold" "Ljava/util/ArrayList;" ∈ xws := xws_in (wt_3 (List.mem_of_getElem? (i := 189) rfl)) rfl
set_option maxRecDepth 100000 in
theorem w_738 : Cond.fieldLink "StyleCourt$Style" 62 "StyleCourt$Rule" "allTold" "Ljava/util/ArrayList;" ∈ xws := xws_in (wt_3 (List.mem_of_getElem? (i := 190) rfl)) rfl
set_option maxRecDepth 100000 in
theorem w_744 : Cond.methodLink "StyleCourt" 124 y_Sy_readSelectors ∈ xws := xws_in (wt_3 (List.mem_of_getElem? (i := 196) rfl)) rfl
set_option maxRecDepth 100000 in
theorem w_745 : Cond.instanceMethod y_Sy_readSelectors ∈ xws := xws_in (wt_3 (List.mem_of_getElem? (i := 197) rfl)) rfl
set_option maxRecDepth 100000 in
theorem w_746 : Cond.selects "StyleCourt$Style" y_Sy_readSelectors y_Sy_readSelectors ∈ xws := xws_in (wt_3 (List.mem_of_getElem? (i := 198) rfl)) rfl
set_option maxRecDepth 100000 in
theorem w_747 : Cond.code y_Sy_readSelectors prog_11_method_2_code 5 none ∈ xws := xws_in (wt_3 (List.mem_of_getElem? (i := 199) rfl)) rfl
set_option maxRecDepth 100000 in
theorem w_748 : Cond.methodLink "StyleCourt$Style" 28 y_Rd_nextSign ∈ xws := xws_in (wt_3 (List.mem_of_getElem? (i := 200) rfl)) rfl
set_option maxRecDepth 100000 in
theorem w_749 : Cond.methodLink "StyleCourt$Style" 34 y_AL_size ∈ xws := xws_in (wt_3 (List.mem_of_getElem? (i := 201) rfl)) rfl
set_option maxRecDepth 100000 in
theorem w_750 : Cond.methodLink "StyleCourt$Style" 40 y_Rd_failAt ∈ xws := xws_in (wt_3 (List.mem_of_getElem? (i := 202) rfl)) rfl
set_option maxRecDepth 100000 in
theorem w_751 : Cond.classLink "StyleCourt$Style" 44 "StyleCourt$Selector" ∈ xws := xws_in (wt_3 (List.mem_of_getElem? (i := 203) rfl)) rfl
set_option maxRecDepth 100000 in
theorem w_752 : Cond.instantiable "StyleCourt$Selector" 2 ∈ xws := xws_in (wt_3 (List.mem_of_getElem? (i := 204) rfl)) rfl
set_option maxRecDepth 100000 in
theorem w_753 : Cond.methodLinkNest "StyleCourt$Style" 46 y_Se_init "StyleCourt" ∈ xws := xws_in (wt_3 (List.mem_of_getElem? (i := 205) rfl)) rfl
set_option maxRecDepth 100000 in
theorem w_754 : Cond.instanceMethod y_Se_init ∈ xws := xws_in (wt_3 (List.mem_of_getElem? (i := 206) rfl)) rfl
set_option maxRecDepth 100000 in
theorem w_755 : Cond.code y_Se_init prog_7_method_1_code 1 none ∈ xws := xws_in (wt_3 (List.mem_of_getElem? (i := 207) rfl)) rfl
set_option maxRecDepth 100000 in
theorem w_756 : Cond.methodLink "StyleCourt$Selector" 3 y_Oj_init ∈ xws := xws_in (wt_3 (List.mem_of_getElem? (i := 208) rfl)) rfl
set_option maxRecDepth 100000 in
theorem w_757 : Cond.classLink "StyleCourt$Selector" 9 "java/util/ArrayList" ∈ xws := xws_in (wt_3 (List.mem_of_getElem? (i := 209) rfl)) rfl
set_option maxRecDepth 100000 in
theorem w_758 : Cond.methodLink "StyleCourt$Selector" 11 y_AL_init ∈ xws := xws_in (wt_3 (List.mem_of_getElem? (i := 210) rfl)) rfl
set_option maxRecDepth 100000 in
theorem w_759 : Cond.fieldLink "StyleCourt$Selector" 12 "StyleCourt$Selector" "steps" "Ljava/util/ArrayList;" ∈ xws := xws_in (wt_3 (List.mem_of_getElem? (i := 211) rfl)) rfl
set_option maxRecDepth 100000 in
theorem w_760 : Cond.fieldLink "StyleCourt$Selector" 18 "StyleCourt$Selector" "weight" "I" ∈ xws := xws_in (wt_3 (List.mem_of_getElem? (i := 212) rfl)) rfl
set_option maxRecDepth 100000 in
theorem w_761 : Cond.fieldLink "StyleCourt$Rule" 29 "StyleCourt$Selector" "weight" "I" ∈ xws := xws_in (wt_3 (List.mem_of_getElem? (i := 213) rfl)) rfl
set_option maxRecDepth 100000 in
theorem w_762 : Cond.fieldLink "StyleCourt" 181 "StyleCourt$Selector" "weight" "I" ∈ xws := xws_in (wt_3 (List.mem_of_getElem? (i := 214) rfl)) rfl
set_option maxRecDepth 100000 in
theorem w_768 : Cond.methodLink "StyleCourt$Style" 47 y_Se_readSteps ∈ xws := xws_in (wt_3 (List.mem_of_getElem? (i := 220) rfl)) rfl
set_option maxRecDepth 100000 in
theorem w_769 : Cond.instanceMethod y_Se_readSteps ∈ xws := xws_in (wt_3 (List.mem_of_getElem? (i := 221) rfl)) rfl
set_option maxRecDepth 100000 in
theorem w_770 : Cond.selects "StyleCourt$Selector" y_Se_readSteps y_Se_readSteps ∈ xws := xws_in (wt_3 (List.mem_of_getElem? (i := 222) rfl)) rfl
set_option maxRecDepth 100000 in
theorem w_771 : Cond.code y_Se_readSteps prog_7_method_2_code 5 none ∈ xws := xws_in (wt_3 (List.mem_of_getElem? (i := 223) rfl)) rfl
set_option maxRecDepth 100000 in
theorem w_772 : Cond.methodLink "StyleCourt$Selector" 22 y_Rd_nextSign ∈ xws := xws_in (wt_3 (List.mem_of_getElem? (i := 224) rfl)) rfl
set_option maxRecDepth 100000 in
theorem w_773 : Cond.methodLink "StyleCourt$Selector" 31 y_Rd_failAt ∈ xws := xws_in (wt_3 (List.mem_of_getElem? (i := 225) rfl)) rfl
set_option maxRecDepth 100000 in
theorem w_774 : Cond.classLink "StyleCourt$Selector" 35 "StyleCourt$Step" ∈ xws := xws_in (wt_3 (List.mem_of_getElem? (i := 226) rfl)) rfl
set_option maxRecDepth 100000 in
theorem w_775 : Cond.instantiable "StyleCourt$Step" 3 ∈ xws := xws_in (wt_3 (List.mem_of_getElem? (i := 227) rfl)) rfl
set_option maxRecDepth 100000 in
theorem w_776 : Cond.methodLink "StyleCourt$Selector" 37 y_Sp_init ∈ xws := xws_in (wt_3 (List.mem_of_getElem? (i := 228) rfl)) rfl
set_option maxRecDepth 100000 in
theorem w_777 : Cond.instanceMethod y_Sp_init ∈ xws := xws_in (wt_3 (List.mem_of_getElem? (i := 229) rfl)) rfl
set_option maxRecDepth 100000 in
theorem w_778 : Cond.code y_Sp_init prog_10_method_1_code 2 none ∈ xws := xws_in (wt_3 (List.mem_of_getElem? (i := 230) rfl)) rfl
set_option maxRecDepth 100000 in
theorem w_779 : Cond.methodLink "StyleCourt$Step" 3 y_Oj_init ∈ xws := xws_in (wt_3 (List.mem_of_getElem? (i := 231) rfl)) rfl
set_option maxRecDepth 100000 in
theorem w_780 : Cond.classLink "StyleCourt$Step" 15 "java/util/ArrayList" ∈ xws := xws_in (wt_3 (List.mem_of_getElem? (i := 232) rfl)) rfl
set_option maxRecDepth 100000 in
theorem w_781 : Cond.methodLink "StyleCourt$Step" 17 y_AL_init ∈ xws := xws_in (wt_3 (List.mem_of_getElem? (i := 233) rfl)) rfl
set_option maxRecDepth 100000 in
theorem w_782 : Cond.fieldLink "StyleCourt$Step" 22 "StyleCourt$Step" "link" "I" ∈ xws := xws_in (wt_3 (List.mem_of_getElem? (i := 234) rfl)) rfl
set_option maxRecDepth 100000 in
theorem w_783 : Cond.fieldLink "StyleCourt$Selector" 72 "StyleCourt$Step" "link" "I" ∈ xws := xws_in (wt_3 (List.mem_of_getElem? (i := 235) rfl)) rfl
set_option maxRecDepth 100000 in
theorem w_784 : Cond.fieldLink "StyleCourt$Step" 9 "StyleCourt$Step" "name" "LStyleCourt$Slice;" ∈ xws := xws_in (wt_3 (List.mem_of_getElem? (i := 236) rfl)) rfl
set_option maxRecDepth 100000 in
theorem w_785 : Cond.fieldLink "StyleCourt$Step" 18 "StyleCourt$Step" "conditions" "Ljava/util/ArrayList;" ∈ xws := xws_in (wt_3 (List.mem_of_getElem? (i := 237) rfl)) rfl
set_option maxRecDepth 100000 in
theorem w_793 : Cond.methodLink "StyleCourt$Selector" 39 y_Sp_readFrom ∈ xws := xws_in (wt_4 (List.mem_of_getElem? (i := 5) rfl)) rfl
set_option maxRecDepth 100000 in
theorem w_794 : Cond.instanceMethod y_Sp_readFrom ∈ xws := xws_in (wt_4 (List.mem_of_getElem? (i := 6) rfl)) rfl
set_option maxRecDepth 100000 in
theorem w_795 : Cond.selects "StyleCourt$Step" y_Sp_readFrom y_Sp_readFrom ∈ xws := xws_in (wt_4 (List.mem_of_getElem? (i := 7) rfl)) rfl
set_option maxRecDepth 100000 in
theorem w_796 : Cond.code y_Sp_readFrom prog_10_method_2_code 5 none ∈ xws := xws_in (wt_4 (List.mem_of_getElem? (i := 8) rfl)) rfl
set_option maxRecDepth 100000 in
theorem w_797 : Cond.methodLink "StyleCourt$Step" 26 y_Rd_nextSign ∈ xws := xws_in (wt_4 (List.mem_of_getElem? (i := 9) rfl)) rfl
set_option maxRecDepth 100000 in
theorem w_798 : Cond.methodLink "StyleCourt$Step" 35 y_Rd_readName ∈ xws := xws_in (wt_4 (List.mem_of_getElem? (i := 10) rfl)) rfl
set_option maxRecDepth 100000 in
theorem w_799 : Cond.methodLink "StyleCourt$Step" 39 y_Rd_failAt ∈ xws := xws_in (wt_4 (List.mem_of_getElem? (i := 11) rfl)) rfl
set_option maxRecDepth 100000 in
theorem w_800 : Cond.classLink "StyleCourt$Step" 43 "StyleCourt$Condition" ∈ xws := xws_in (wt_4 (List.mem_of_getElem? (i := 12) rfl)) rfl
set_option maxRecDepth 100000 in
theorem w_801 : Cond.instantiable "StyleCourt$Condition" 4 ∈ xws := xws_in (wt_4 (List.mem_of_getElem? (i := 13) rfl)) rfl
set_option maxRecDepth 100000 in
theorem w_802 : Cond.methodLinkNest "StyleCourt$Step" 45 y_Co_init "StyleCourt" ∈ xws := xws_in (wt_4 (List.mem_of_getElem? (i := 14) rfl)) rfl
set_option maxRecDepth 100000 in
theorem w_803 : Cond.instanceMethod y_Co_init ∈ xws := xws_in (wt_4 (List.mem_of_getElem? (i := 15) rfl)) rfl
set_option maxRecDepth 100000 in
theorem w_804 : Cond.code y_Co_init prog_2_method_1_code 1 none ∈ xws := xws_in (wt_4 (List.mem_of_getElem? (i := 16) rfl)) rfl
set_option maxRecDepth 100000 in
theorem w_805 : Cond.methodLink "StyleCourt$Condition" 3 y_Oj_init ∈ xws := xws_in (wt_4 (List.mem_of_getElem? (i := 17) rfl)) rfl
set_option maxRecDepth 100000 in
theorem w_806 : Cond.fieldLink "StyleCourt$Condition" 9 "StyleCourt$Condition" "kind" "I" ∈ xws := xws_in (wt_4 (List.mem_of_getElem? (i := 18) rfl)) rfl
set_option maxRecDepth 100000 in
theorem w_807 : Cond.fieldLink "StyleCourt$Condition" 15 "StyleCourt$Condition" "name" "LStyleCourt$Slice;" ∈ xws := xws_in (wt_4 (List.mem_of_getElem? (i := 19) rfl)) rfl
set_option maxRecDepth 100000 in
theorem w_808 : Cond.fieldLink "StyleCourt$Condition" 19 "StyleCourt$Condition" "text" "LStyleCourt$Slice;" ∈ xws := xws_in (wt_4 (List.mem_of_getElem? (i := 20) rfl)) rfl
set_option maxRecDepth 100000 in
theorem w_809 : Cond.fieldLink "StyleCourt$Condition" 22 "StyleCourt$Condition" "number" "I" ∈ xws := xws_in (wt_4 (List.mem_of_getElem? (i := 21) rfl)) rfl
set_option maxRecDepth 100000 in
theorem w_819 : Cond.methodLink "StyleCourt$Step" 46 y_Co_readBracket ∈ xws := xws_in (wt_4 (List.mem_of_getElem? (i := 31) rfl)) rfl
set_option maxRecDepth 100000 in
theorem w_820 : Cond.instanceMethod y_Co_readBracket ∈ xws := xws_in (wt_4 (List.mem_of_getElem? (i := 32) rfl)) rfl
set_option maxRecDepth 100000 in
theorem w_821 : Cond.selects "StyleCourt$Condition" y_Co_readBracket y_Co_readBracket ∈ xws := xws_in (wt_4 (List.mem_of_getElem? (i := 33) rfl)) rfl
set_option maxRecDepth 100000 in
theorem w_822 : Cond.code y_Co_readBracket prog_2_method_2_code 2 none ∈ xws := xws_in (wt_4 (List.mem_of_getElem? (i := 34) rfl)) rfl
set_option maxRecDepth 100000 in
theorem w_823 : Cond.methodLink "StyleCourt$Condition" 25 y_Rd_nextSign ∈ xws := xws_in (wt_4 (List.mem_of_getElem? (i := 35) rfl)) rfl
set_option maxRecDepth 100000 in
theorem w_824 : Cond.methodLink "StyleCourt$Condition" 31 y_Rd_readName ∈ xws := xws_in (wt_4 (List.mem_of_getElem? (i := 36) rfl)) rfl
set_option maxRecDepth 100000 in
theorem w_825 : Cond.methodLink "StyleCourt$Condition" 38 y_Rd_readString ∈ xws := xws_in (wt_4 (List.mem_of_getElem? (i := 37) rfl)) rfl
set_option maxRecDepth 100000 in
theorem w_826 : Cond.methodLink "StyleCourt$Condition" 41 y_Rd_expectSign ∈ xws := xws_in (wt_4 (List.mem_of_getElem? (i := 38) rfl)) rfl
set_option maxRecDepth 100000 in
theorem w_827 : Cond.methodLink "StyleCourt$Step" 50 y_Co_readColon ∈ xws := xws_in (wt_4 (List.mem_of_getElem? (i := 39) rfl)) rfl
set_option maxRecDepth 100000 in
theorem w_828 : Cond.instanceMethod y_Co_readColon ∈ xws := xws_in (wt_4 (List.mem_of_getElem? (i := 40) rfl)) rfl
set_option maxRecDepth 100000 in
theorem w_829 : Cond.selects "StyleCourt$Condition" y_Co_readColon y_Co_readColon ∈ xws := xws_in (wt_4 (List.mem_of_getElem? (i := 41) rfl)) rfl
set_option maxRecDepth 100000 in
theorem w_830 : Cond.code y_Co_readColon prog_2_method_3_code 3 none ∈ xws := xws_in (wt_4 (List.mem_of_getElem? (i := 42) rfl)) rfl
set_option maxRecDepth 100000 in
theorem w_832 : Cond.methodLink "StyleCourt$Condition" 47 y_Sl_spells ∈ xws := xws_in (wt_4 (List.mem_of_getElem? (i := 44) rfl)) rfl
set_option maxRecDepth 100000 in
theorem w_833 : Cond.instanceMethod y_Sl_spells ∈ xws := xws_in (wt_4 (List.mem_of_getElem? (i := 45) rfl)) rfl
set_option maxRecDepth 100000 in
theorem w_834 : Cond.selects "StyleCourt$Slice" y_Sl_spells y_Sl_spells ∈ xws := xws_in (wt_4 (List.mem_of_getElem? (i := 46) rfl)) rfl
set_option maxRecDepth 100000 in
theorem w_835 : Cond.code y_Sl_spells prog_8_method_3_code 3 (some .boolean) ∈ xws := xws_in (wt_4 (List.mem_of_getElem? (i := 47) rfl)) rfl
set_option maxRecDepth 100000 in
theorem w_836 : Cond.methodLink "StyleCourt$Slice" 20 y_Sg_length ∈ xws := xws_in (wt_4 (List.mem_of_getElem? (i := 48) rfl)) rfl
set_option maxRecDepth 100000 in
theorem w_837 : Cond.instanceMethod y_Sg_length ∈ xws := xws_in (wt_4 (List.mem_of_getElem? (i := 49) rfl)) rfl
set_option maxRecDepth 100000 in
theorem w_838 : Cond.selects "java/lang/String" y_Sg_length y_Sg_length ∈ xws := xws_in (wt_4 (List.mem_of_getElem? (i := 50) rfl)) rfl
set_option maxRecDepth 100000 in
theorem w_839 : Cond.code y_Sg_length prog_23_method_54_code 1 (some .int) ∈ xws := xws_in (wt_4 (List.mem_of_getElem? (i := 51) rfl)) rfl
set_option maxRecDepth 100000 in
theorem w_840 : Cond.methodLink "java/lang/String" 335 y_Sg_coder ∈ xws := xws_in (wt_4 (List.mem_of_getElem? (i := 52) rfl)) rfl
set_option maxRecDepth 100000 in
theorem w_841 : Cond.instanceMethod y_Sg_coder ∈ xws := xws_in (wt_4 (List.mem_of_getElem? (i := 53) rfl)) rfl
set_option maxRecDepth 100000 in
theorem w_842 : Cond.selects "java/lang/String" y_Sg_coder y_Sg_coder ∈ xws := xws_in (wt_4 (List.mem_of_getElem? (i := 54) rfl)) rfl
set_option maxRecDepth 100000 in
theorem w_843 : Cond.code y_Sg_coder prog_23_method_152_code 1 (some .byte) ∈ xws := xws_in (wt_4 (List.mem_of_getElem? (i := 55) rfl)) rfl
set_option maxRecDepth 100000 in
theorem w_844 : Cond.fieldLink "java/lang/String" 38 "java/lang/String" "COMPACT_STRINGS" "Z" ∈ xws := xws_in (wt_4 (List.mem_of_getElem? (i := 56) rfl)) rfl
set_option maxRecDepth 100000 in
theorem w_846 : Cond.methodLink "StyleCourt$Slice" 25 y_Sg_charAt ∈ xws := xws_in (wt_4 (List.mem_of_getElem? (i := 58) rfl)) rfl
set_option maxRecDepth 100000 in
theorem w_847 : Cond.instanceMethod y_Sg_charAt ∈ xws := xws_in (wt_4 (List.mem_of_getElem? (i := 59) rfl)) rfl
set_option maxRecDepth 100000 in
theorem w_848 : Cond.selects "java/lang/String" y_Sg_charAt y_Sg_charAt ∈ xws := xws_in (wt_4 (List.mem_of_getElem? (i := 60) rfl)) rfl
set_option maxRecDepth 100000 in
theorem w_849 : Cond.code y_Sg_charAt prog_23_method_56_code 2 (some .char) ∈ xws := xws_in (wt_4 (List.mem_of_getElem? (i := 61) rfl)) rfl
set_option maxRecDepth 100000 in
theorem w_850 : Cond.methodLink "java/lang/String" 492 y_Sg_isLatin1 ∈ xws := xws_in (wt_4 (List.mem_of_getElem? (i := 62) rfl)) rfl
set_option maxRecDepth 100000 in
theorem w_851 : Cond.instanceMethod y_Sg_isLatin1 ∈ xws := xws_in (wt_4 (List.mem_of_getElem? (i := 63) rfl)) rfl
set_option maxRecDepth 100000 in
theorem w_852 : Cond.selects "java/lang/String" y_Sg_isLatin1 y_Sg_isLatin1 ∈ xws := xws_in (wt_4 (List.mem_of_getElem? (i := 64) rfl)) rfl
set_option maxRecDepth 100000 in
theorem w_853 : Cond.code y_Sg_isLatin1 prog_23_method_154_code 1 (some .boolean) ∈ xws := xws_in (wt_4 (List.mem_of_getElem? (i := 65) rfl)) rfl
set_option maxRecDepth 100000 in
theorem w_854 : Cond.methodLink "java/lang/String" 495 y_L1_charAt ∈ xws := xws_in (wt_4 (List.mem_of_getElem? (i := 66) rfl)) rfl
set_option maxRecDepth 100000 in
theorem w_855 : Cond.static y_L1_charAt ∈ xws := xws_in (wt_4 (List.mem_of_getElem? (i := 67) rfl)) rfl
set_option maxRecDepth 100000 in
theorem w_856 : Cond.code y_L1_charAt prog_24_method_2_code 2 (some .char) ∈ xws := xws_in (wt_4 (List.mem_of_getElem? (i := 68) rfl)) rfl
set_option maxRecDepth 100000 in
theorem w_857 : Cond.methodLink "java/lang/StringLatin1" 9 y_Sg_checkIndex ∈ xws := xws_in (wt_4 (List.mem_of_getElem? (i := 69) rfl)) rfl
set_option maxRecDepth 100000 in
theorem w_858 : Cond.static y_Sg_checkIndex ∈ xws := xws_in (wt_4 (List.mem_of_getElem? (i := 70) rfl)) rfl
set_option maxRecDepth 100000 in
theorem w_859 : Cond.code y_Sg_checkIndex prog_23_method_155_code 2 none ∈ xws := xws_in (wt_4 (List.mem_of_getElem? (i := 71) rfl)) rfl
set_option maxRecDepth 100000 in
theorem w_860 : Cond.fieldLink "java/lang/String" 1053 "jdk/internal/util/Preconditions" "SIOOBE_FORMATTER" "Ljava/util/function/BiFunction;" ∈ xws := xws_in (wt_4 (List.mem_of_getElem? (i := 72) rfl)) rfl
set_option maxRecDepth 100000 in
theorem w_862 : Cond.methodLink "java/lang/String" 1059 y_Pr_checkIndex ∈ xws := xws_in (wt_4 (List.mem_of_getElem? (i := 74) rfl)) rfl
set_option maxRecDepth 100000 in
theorem w_863 : Cond.methodLink "java/lang/String" 498 y_U16_charAt ∈ xws := xws_in (wt_4 (List.mem_of_getElem? (i := 75) rfl)) rfl
set_option maxRecDepth 100000 in
theorem w_864 : Cond.static y_U16_charAt ∈ xws := xws_in (wt_4 (List.mem_of_getElem? (i := 76) rfl)) rfl
set_option maxRecDepth 100000 in
theorem w_865 : Cond.code y_U16_charAt prog_25_method_83_code 2 (some .char) ∈ xws := xws_in (wt_4 (List.mem_of_getElem? (i := 77) rfl)) rfl
set_option maxRecDepth 100000 in
theorem w_885 : Cond.methodLink "StyleCourt$Condition" 59 y_Rd_readNumber ∈ xws := xws_in (wt_4 (List.mem_of_getElem? (i := 97) rfl)) rfl
set_option maxRecDepth 100000 in
theorem w_886 : Cond.instanceMethod y_Rd_readNumber ∈ xws := xws_in (wt_4 (List.mem_of_getElem? (i := 98) rfl)) rfl
set_option maxRecDepth 100000 in
theorem w_887 : Cond.selects "StyleCourt$Reader" y_Rd_readNumber y_Rd_readNumber ∈ xws := xws_in (wt_4 (List.mem_of_getElem? (i := 99) rfl)) rfl
set_option maxRecDepth 100000 in
theorem w_888 : Cond.code y_Rd_readNumber prog_5_method_8_code 3 (some .int) ∈ xws := xws_in (wt_4 (List.mem_of_getElem? (i := 100) rfl)) rfl
set_option maxRecDepth 100000 in
theorem w_890 : Cond.methodLink "StyleCourt$Condition" 67 y_Rd_failAt ∈ xws := xws_in (wt_4 (List.mem_of_getElem? (i := 102) rfl)) rfl
set_option maxRecDepth 100000 in
theorem w_891 : Cond.methodLink "StyleCourt$Step" 53 y_AL_add ∈ xws := xws_in (wt_4 (List.mem_of_getElem? (i := 103) rfl)) rfl
set_option maxRecDepth 100000 in
theorem w_892 : Cond.methodLink "StyleCourt$Selector" 43 y_AL_add ∈ xws := xws_in (wt_4 (List.mem_of_getElem? (i := 104) rfl)) rfl
set_option maxRecDepth 100000 in
theorem w_893 : Cond.methodLink "StyleCourt$Selector" 47 y_Sp_ownWeight ∈ xws := xws_in (wt_4 (List.mem_of_getElem? (i := 105) rfl)) rfl
set_option maxRecDepth 100000 in
theorem w_894 : Cond.instanceMethod y_Sp_ownWeight ∈ xws := xws_in (wt_4 (List.mem_of_getElem? (i := 106) rfl)) rfl
set_option maxRecDepth 100000 in
theorem w_895 : Cond.selects "StyleCourt$Step" y_Sp_ownWeight y_Sp_ownWeight ∈ xws := xws_in (wt_4 (List.mem_of_getElem? (i := 107) rfl)) rfl
set_option maxRecDepth 100000 in
theorem w_896 : Cond.code y_Sp_ownWeight prog_10_method_3_code 1 (some .int) ∈ xws := xws_in (wt_4 (List.mem_of_getElem? (i := 108) rfl)) rfl
set_option maxRecDepth 100000 in
theorem w_897 : Cond.methodLink "StyleCourt$Step" 57 y_AL_size ∈ xws := xws_in (wt_4 (List.mem_of_getElem? (i := 109) rfl)) rfl
set_option maxRecDepth 100000 in
theorem w_898 : Cond.methodLink "StyleCourt$Style" 51 y_AL_add ∈ xws := xws_in (wt_4 (List.mem_of_getElem? (i := 110) rfl)) rfl
set_option maxRecDepth 100000 in
theorem w_899 : Cond.methodLink "StyleCourt" 128 y_Sy_readBody ∈ xws := xws_in (wt_4 (List.mem_of_getElem? (i := 111) rfl)) rfl
set_option maxRecDepth 100000 in
theorem w_900 : Cond.instanceMethod y_Sy_readBody ∈ xws := xws_in (wt_4 (List.mem_of_getElem? (i := 112) rfl)) rfl
set_option maxRecDepth 100000 in
theorem w_901 : Cond.selects "StyleCourt$Style" y_Sy_readBody y_Sy_readBody ∈ xws := xws_in (wt_4 (List.mem_of_getElem? (i := 113) rfl)) rfl
set_option maxRecDepth 100000 in
theorem w_902 : Cond.code y_Sy_readBody prog_11_method_3_code 4 none ∈ xws := xws_in (wt_4 (List.mem_of_getElem? (i := 114) rfl)) rfl
set_option maxRecDepth 100000 in
theorem w_903 : Cond.methodLink "StyleCourt$Style" 58 y_Rd_expectSign ∈ xws := xws_in (wt_4 (List.mem_of_getElem? (i := 115) rfl)) rfl
set_option maxRecDepth 100000 in
theorem w_904 : Cond.methodLink "StyleCourt$Style" 65 y_Sy_readTold ∈ xws := xws_in (wt_4 (List.mem_of_getElem? (i := 116) rfl)) rfl
set_option maxRecDepth 100000 in
theorem w_906 : Cond.instanceMethod y_Sy_readTold ∈ xws := xws_in (wt_4 (List.mem_of_getElem? (i := 118) rfl)) rfl
set_option maxRecDepth 100000 in
theorem w_907 : Cond.code y_Sy_readTold prog_11_method_4_code 5 (some (.object "StyleCourt$Told")) ∈ xws := xws_in (wt_4 (List.mem_of_getElem? (i := 119) rfl)) rfl
set_option maxRecDepth 100000 in
theorem w_908 : Cond.methodLink "StyleCourt$Style" 69 y_Rd_readName ∈ xws := xws_in (wt_4 (List.mem_of_getElem? (i := 120) rfl)) rfl
set_option maxRecDepth 100000 in
theorem w_909 : Cond.methodLink "StyleCourt$Style" 73 y_Sy_numberOfName ∈ xws := xws_in (wt_4 (List.mem_of_getElem? (i := 121) rfl)) rfl
set_option maxRecDepth 100000 in
theorem w_910 : Cond.instanceMethod y_Sy_numberOfName ∈ xws := xws_in (wt_4 (List.mem_of_getElem? (i := 122) rfl)) rfl
set_option maxRecDepth 100000 in
theorem w_911 : Cond.selects "StyleCourt$Style" y_Sy_numberOfName y_Sy_numberOfName ∈ xws := xws_in (wt_4 (List.mem_of_getElem? (i := 123) rfl)) rfl
set_option maxRecDepth 100000 in
theorem w_912 : Cond.code y_Sy_numberOfName prog_11_method_5_code 3 (some .int) ∈ xws := xws_in (wt_4 (List.mem_of_getElem? (i := 124) rfl)) rfl
set_option maxRecDepth 100000 in
theorem w_913 : Cond.methodLink "StyleCourt$Style" 90 y_AL_get ∈ xws := xws_in (wt_4 (List.mem_of_getElem? (i := 125) rfl)) rfl
set_option maxRecDepth 100000 in
theorem w_914 : Cond.classLink "StyleCourt$Style" 78 "StyleCourt$Slice" ∈ xws := xws_in (wt_4 (List.mem_of_getElem? (i := 126) rfl)) rfl
set_option maxRecDepth 100000 in
theorem w_915 : Cond.methodLink "StyleCourt$Style" 94 y_Sl_sameAs ∈ xws := xws_in (wt_4 (List.mem_of_getElem? (i := 127) rfl)) rfl
set_option maxRecDepth 100000 in
theorem w_916 : Cond.classLink "StyleCourt$Style" 82 "StyleCourt$Told" ∈ xws := xws_in (wt_4 (List.mem_of_getElem? (i := 128) rfl)) rfl
set_option maxRecDepth 100000 in
theorem w_917 : Cond.instantiable "StyleCourt$Told" 7 ∈ xws := xws_in (wt_4 (List.mem_of_getElem? (i := 129) rfl)) rfl
set_option maxRecDepth 100000 in
theorem w_918 : Cond.methodLink "StyleCourt$Style" 84 y_To_init ∈ xws := xws_in (wt_4 (List.mem_of_getElem? (i := 130) rfl)) rfl
set_option maxRecDepth 100000 in
theorem w_919 : Cond.instanceMethod y_To_init ∈ xws := xws_in (wt_4 (List.mem_of_getElem? (i := 131) rfl)) rfl
set_option maxRecDepth 100000 in
theorem w_920 : Cond.code y_To_init prog_12_method_1_code 3 none ∈ xws := xws_in (wt_4 (List.mem_of_getElem? (i := 132) rfl)) rfl
set_option maxRecDepth 100000 in
theorem w_921 : Cond.methodLink "StyleCourt$Told" 3 y_Oj_init ∈ xws := xws_in (wt_4 (List.mem_of_getElem? (i := 133) rfl)) rfl
set_option maxRecDepth 100000 in
theorem w_922 : Cond.fieldLink "StyleCourt$Told" 29 "StyleCourt$Told" "index" "I" ∈ xws := xws_in (wt_4 (List.mem_of_getElem? (i := 134) rfl)) rfl
set_option maxRecDepth 100000 in
theorem w_923 : Cond.fieldLink "StyleCourt" 169 "StyleCourt$Told" "index" "I" ∈ xws := xws_in (wt_4 (List.mem_of_getElem? (i := 135) rfl)) rfl
set_option maxRecDepth 100000 in
theorem w_924 : Cond.fieldLink "StyleCourt$Told" 32 "StyleCourt$Told" "which" "I" ∈ xws := xws_in (wt_4 (List.mem_of_getElem? (i := 136) rfl)) rfl
set_option maxRecDepth 100000 in
theorem w_925 : Cond.fieldLink "StyleCourt$Rule" 39 "StyleCourt$Told" "which" "I" ∈ xws := xws_in (wt_4 (List.mem_of_getElem? (i := 137) rfl)) rfl
set_option maxRecDepth 100000 in
theorem w_926 : Cond.fieldLink "StyleCourt$Told" 9 "StyleCourt$Told" "kind" "I" ∈ xws := xws_in (wt_4 (List.mem_of_getElem? (i := 138) rfl)) rfl
set_option maxRecDepth 100000 in
theorem w_927 : Cond.fieldLink "StyleCourt" 256 "StyleCourt$Told" "kind" "I" ∈ xws := xws_in (wt_4 (List.mem_of_getElem? (i := 139) rfl)) rfl
set_option maxRecDepth 100000 in
theorem w_928 : Cond.fieldLink "StyleCourt$Told" 15 "StyleCourt$Told" "text" "LStyleCourt$Slice;" ∈ xws := xws_in (wt_4 (List.mem_of_getElem? (i := 140) rfl)) rfl
set_option maxRecDepth 100000 in
theorem w_929 : Cond.fieldLink "StyleCourt" 259 "StyleCourt$Told" "text" "LStyleCourt$Slice;" ∈ xws := xws_in (wt_4 (List.mem_of_getElem? (i := 141) rfl)) rfl
set_option maxRecDepth 100000 in
theorem w_930 : Cond.fieldLink "StyleCourt$Told" 19 "StyleCourt$Told" "number" "I" ∈ xws := xws_in (wt_4 (List.mem_of_getElem? (i := 142) rfl)) rfl
set_option maxRecDepth 100000 in
theorem w_931 : Cond.fieldLink "StyleCourt" 260 "StyleCourt$Told" "number" "I" ∈ xws := xws_in (wt_4 (List.mem_of_getElem? (i := 143) rfl)) rfl
set_option maxRecDepth 100000 in
theorem w_932 : Cond.fieldLink "StyleCourt$Told" 22 "StyleCourt$Told" "share" "I" ∈ xws := xws_in (wt_4 (List.mem_of_getElem? (i := 144) rfl)) rfl
set_option maxRecDepth 100000 in
theorem w_933 : Cond.fieldLink "StyleCourt" 159 "StyleCourt$Told" "share" "I" ∈ xws := xws_in (wt_4 (List.mem_of_getElem? (i := 145) rfl)) rfl
set_option maxRecDepth 100000 in
theorem w_934 : Cond.fieldLink "StyleCourt$Told" 25 "StyleCourt$Told" "strong" "Z" ∈ xws := xws_in (wt_4 (List.mem_of_getElem? (i := 146) rfl)) rfl
set_option maxRecDepth 100000 in
theorem w_935 : Cond.fieldLink "StyleCourt$Rule" 42 "StyleCourt$Told" "strong" "Z" ∈ xws := xws_in (wt_4 (List.mem_of_getElem? (i := 147) rfl)) rfl
set_option maxRecDepth 100000 in
theorem w_936 : Cond.fieldLink "StyleCourt$Style" 116 "StyleCourt$Told" "strong" "Z" ∈ xws := xws_in (wt_4 (List.mem_of_getElem? (i := 148) rfl)) rfl
set_option maxRecDepth 100000 in
theorem w_952 : Cond.methodLink "StyleCourt$Style" 87 y_To_readValue ∈ xws := xws_in (wt_4 (List.mem_of_getElem? (i := 164) rfl)) rfl
set_option maxRecDepth 100000 in
theorem w_953 : Cond.instanceMethod y_To_readValue ∈ xws := xws_in (wt_4 (List.mem_of_getElem? (i := 165) rfl)) rfl
set_option maxRecDepth 100000 in
theorem w_954 : Cond.selects "StyleCourt$Told" y_To_readValue y_To_readValue ∈ xws := xws_in (wt_4 (List.mem_of_getElem? (i := 166) rfl)) rfl
set_option maxRecDepth 100000 in
theorem w_955 : Cond.code y_To_readValue prog_12_method_2_code 3 none ∈ xws := xws_in (wt_4 (List.mem_of_getElem? (i := 167) rfl)) rfl
set_option maxRecDepth 100000 in
theorem w_956 : Cond.methodLink "StyleCourt$Told" 35 y_Rd_nextSign ∈ xws := xws_in (wt_4 (List.mem_of_getElem? (i := 168) rfl)) rfl
set_option maxRecDepth 100000 in
theorem w_957 : Cond.methodLink "StyleCourt$Told" 41 y_Rd_readString ∈ xws := xws_in (wt_4 (List.mem_of_getElem? (i := 169) rfl)) rfl
set_option maxRecDepth 100000 in
theorem w_958 : Cond.methodLinkNest "StyleCourt$Told" 45 y_Sc_isDigit "StyleCourt" ∈ xws := xws_in (wt_4 (List.mem_of_getElem? (i := 170) rfl)) rfl
set_option maxRecDepth 100000 in
theorem w_959 : Cond.methodLink "StyleCourt$Told" 49 y_To_readAmount ∈ xws := xws_in (wt_4 (List.mem_of_getElem? (i := 171) rfl)) rfl
set_option maxRecDepth 100000 in
theorem w_961 : Cond.instanceMethod y_To_readAmount ∈ xws := xws_in (wt_4 (List.mem_of_getElem? (i := 173) rfl)) rfl
set_option maxRecDepth 100000 in
theorem w_962 : Cond.code y_To_readAmount prog_12_method_3_code 3 none ∈ xws := xws_in (wt_4 (List.mem_of_getElem? (i := 174) rfl)) rfl
set_option maxRecDepth 100000 in
theorem w_963 : Cond.methodLink "StyleCourt$Told" 59 y_Rd_readNumber ∈ xws := xws_in (wt_4 (List.mem_of_getElem? (i := 175) rfl)) rfl
set_option maxRecDepth 100000 in
theorem w_964 : Cond.methodLink "StyleCourt$Told" 62 y_Rd_failAt ∈ xws := xws_in (wt_4 (List.mem_of_getElem? (i := 176) rfl)) rfl
set_option maxRecDepth 100000 in
theorem w_965 : Cond.methodLink "StyleCourt$Told" 53 y_Rd_readName ∈ xws := xws_in (wt_4 (List.mem_of_getElem? (i := 177) rfl)) rfl
set_option maxRecDepth 100000 in
theorem w_966 : Cond.methodLink "StyleCourtLaw" 87 y_Lw_property ∈ xws := xws_in (wt_4 (List.mem_of_getElem? (i := 178) rfl)) rfl
set_option maxRecDepth 100000 in
theorem w_967 : Cond.static y_Lw_property ∈ xws := xws_in (wt_4 (List.mem_of_getElem? (i := 179) rfl)) rfl
set_option maxRecDepth 100000 in
theorem w_968 : Cond.codeWith y_Lw_property method_7_code 4 (some .int) [((0 : Nat), (9 : Nat), (12 : Nat), (19 : Nat))] ∈ xws := xws_in (wt_4 (List.mem_of_getElem? (i := 180) rfl)) rfl
set_option maxRecDepth 100000 in
theorem w_969 : Cond.methodLink "StyleCourtLaw" 30 y_Sc_property ∈ xws := xws_in (wt_4 (List.mem_of_getElem? (i := 181) rfl)) rfl
set_option maxRecDepth 100000 in
theorem w_970 : Cond.instanceMethod y_Sc_property ∈ xws := xws_in (wt_4 (List.mem_of_getElem? (i := 182) rfl)) rfl
set_option maxRecDepth 100000 in
theorem w_971 : Cond.selects "StyleCourt" y_Sc_property y_Sc_property ∈ xws := xws_in (wt_4 (List.mem_of_getElem? (i := 183) rfl)) rfl
set_option maxRecDepth 100000 in
theorem w_972 : Cond.code y_Sc_property prog_1_method_7_code 8 (some .int) ∈ xws := xws_in (wt_4 (List.mem_of_getElem? (i := 184) rfl)) rfl
set_option maxRecDepth 100000 in
theorem w_973 : Cond.methodLink "StyleCourt" 137 y_Sc_takeName ∈ xws := xws_in (wt_4 (List.mem_of_getElem? (i := 185) rfl)) rfl
set_option maxRecDepth 100000 in
theorem w_975 : Cond.instanceMethod y_Sc_takeName ∈ xws := xws_in (wt_4 (List.mem_of_getElem? (i := 187) rfl)) rfl
set_option maxRecDepth 100000 in
theorem w_976 : Cond.code y_Sc_takeName prog_1_method_18_code 2 (some (.object "StyleCourt$Slice")) ∈ xws := xws_in (wt_4 (List.mem_of_getElem? (i := 188) rfl)) rfl
set_option maxRecDepth 100000 in
theorem w_977 : Cond.classLink "StyleCourt" 249 "StyleCourt$Slice" ∈ xws := xws_in (wt_4 (List.mem_of_getElem? (i := 189) rfl)) rfl
set_option maxRecDepth 100000 in
theorem w_978 : Cond.methodLink "StyleCourt" 251 y_Sl_init ∈ xws := xws_in (wt_4 (List.mem_of_getElem? (i := 190) rfl)) rfl
set_option maxRecDepth 100000 in
theorem w_979 : Cond.methodLink "StyleCourt" 141 y_Sc_elementAt ∈ xws := xws_in (wt_4 (List.mem_of_getElem? (i := 191) rfl)) rfl
set_option maxRecDepth 100000 in
theorem w_981 : Cond.instanceMethod y_Sc_elementAt ∈ xws := xws_in (wt_4 (List.mem_of_getElem? (i := 193) rfl)) rfl
set_option maxRecDepth 100000 in
theorem w_982 : Cond.code y_Sc_elementAt prog_1_method_19_code 2 (some (.object "StyleCourt$Element")) ∈ xws := xws_in (wt_4 (List.mem_of_getElem? (i := 194) rfl)) rfl
set_option maxRecDepth 100000 in
theorem w_984 : Cond.methodLink "StyleCourt" 145 y_Sy_numberOfName ∈ xws := xws_in (wt_4 (List.mem_of_getElem? (i := 196) rfl)) rfl
set_option maxRecDepth 100000 in
theorem w_985 : Cond.methodLink "StyleCourt" 149 y_Sy_countingFor ∈ xws := xws_in (wt_4 (List.mem_of_getElem? (i := 197) rfl)) rfl
set_option maxRecDepth 100000 in
theorem w_986 : Cond.instanceMethod y_Sy_countingFor ∈ xws := xws_in (wt_4 (List.mem_of_getElem? (i := 198) rfl)) rfl
set_option maxRecDepth 100000 in
theorem w_987 : Cond.selects "StyleCourt$Style" y_Sy_countingFor y_Sy_countingFor ∈ xws := xws_in (wt_4 (List.mem_of_getElem? (i := 199) rfl)) rfl
set_option maxRecDepth 100000 in
theorem w_988 : Cond.code y_Sy_countingFor prog_11_method_6_code 9 (some (.object "StyleCourt$Told")) ∈ xws := xws_in (wt_4 (List.mem_of_getElem? (i := 200) rfl)) rfl
set_option maxRecDepth 100000 in
theorem w_989 : Cond.classLink "StyleCourt$Style" 56 "StyleCourt$Rule" ∈ xws := xws_in (wt_4 (List.mem_of_getElem? (i := 201) rfl)) rfl
set_option maxRecDepth 100000 in
theorem w_990 : Cond.methodLink "StyleCourt$Style" 104 y_Ru_leading ∈ xws := xws_in (wt_4 (List.mem_of_getElem? (i := 202) rfl)) rfl
set_option maxRecDepth 100000 in
theorem w_991 : Cond.instanceMethod y_Ru_leading ∈ xws := xws_in (wt_4 (List.mem_of_getElem? (i := 203) rfl)) rfl
set_option maxRecDepth 100000 in
theorem w_992 : Cond.selects "StyleCourt$Rule" y_Ru_leading y_Ru_leading ∈ xws := xws_in (wt_4 (List.mem_of_getElem? (i := 204) rfl)) rfl
set_option maxRecDepth 100000 in
theorem w_993 : Cond.code y_Ru_leading prog_6_method_3_code 5 (some (.object "StyleCourt$Told")) ∈ xws := xws_in (wt_4 (List.mem_of_getElem? (i := 205) rfl)) rfl
set_option maxRecDepth 100000 in
theorem w_994 : Cond.methodLink "StyleCourt$Rule" 19 y_AL_size ∈ xws := xws_in (wt_4 (List.mem_of_getElem? (i := 206) rfl)) rfl
set_option maxRecDepth 100000 in
theorem w_995 : Cond.methodLink "StyleCourt$Rule" 23 y_AL_get ∈ xws := xws_in (wt_4 (List.mem_of_getElem? (i := 207) rfl)) rfl
set_option maxRecDepth 100000 in
theorem w_996 : Cond.classLink "StyleCourt$Rule" 37 "StyleCourt$Told" ∈ xws := xws_in (wt_4 (List.mem_of_getElem? (i := 208) rfl)) rfl
set_option maxRecDepth 100000 in
theorem w_997 : Cond.methodLink "StyleCourt$Style" 108 y_Ru_weightFor ∈ xws := xws_in (wt_4 (List.mem_of_getElem? (i := 209) rfl)) rfl
set_option maxRecDepth 100000 in
theorem w_998 : Cond.instanceMethod y_Ru_weightFor ∈ xws := xws_in (wt_4 (List.mem_of_getElem? (i := 210) rfl)) rfl
set_option maxRecDepth 100000 in
theorem w_999 : Cond.selects "StyleCourt$Rule" y_Ru_weightFor y_Ru_weightFor ∈ xws := xws_in (wt_4 (List.mem_of_getElem? (i := 211) rfl)) rfl
set_option maxRecDepth 100000 in
theorem w_1000 : Cond.code y_Ru_weightFor prog_6_method_2_code 6 (some .int) ∈ xws := xws_in (wt_4 (List.mem_of_getElem? (i := 212) rfl)) rfl
set_option maxRecDepth 100000 in
theorem w_1001 : Cond.classLink "StyleCourt$Rule" 27 "StyleCourt$Selector" ∈ xws := xws_in (wt_4 (List.mem_of_getElem? (i := 213) rfl)) rfl
set_option maxRecDepth 100000 in
theorem w_1002 : Cond.methodLink "StyleCourt$Rule" 33 y_Se_matches ∈ xws := xws_in (wt_4 (List.mem_of_getElem? (i := 214) rfl)) rfl
set_option maxRecDepth 100000 in
theorem w_1003 : Cond.instanceMethod y_Se_matches ∈ xws := xws_in (wt_4 (List.mem_of_getElem? (i := 215) rfl)) rfl
set_option maxRecDepth 100000 in
theorem w_1004 : Cond.selects "StyleCourt$Selector" y_Se_matches y_Se_matches ∈ xws := xws_in (wt_4 (List.mem_of_getElem? (i := 216) rfl)) rfl
set_option maxRecDepth 100000 in
theorem w_1005 : Cond.code y_Se_matches prog_7_method_3_code 8 (some .boolean) ∈ xws := xws_in (wt_4 (List.mem_of_getElem? (i := 217) rfl)) rfl
set_option maxRecDepth 100000 in
theorem w_1006 : Cond.methodLink "StyleCourt$Selector" 50 y_AL_size ∈ xws := xws_in (wt_4 (List.mem_of_getElem? (i := 218) rfl)) rfl
set_option maxRecDepth 100000 in
theorem w_1007 : Cond.methodLink "StyleCourt$Selector" 53 y_AL_get ∈ xws := xws_in (wt_4 (List.mem_of_getElem? (i := 219) rfl)) rfl
set_option maxRecDepth 100000 in
theorem w_1008 : Cond.methodLink "StyleCourt$Selector" 57 y_Sp_matches ∈ xws := xws_in (wt_4 (List.mem_of_getElem? (i := 220) rfl)) rfl
set_option maxRecDepth 100000 in
theorem w_1009 : Cond.instanceMethod y_Sp_matches ∈ xws := xws_in (wt_4 (List.mem_of_getElem? (i := 221) rfl)) rfl
set_option maxRecDepth 100000 in
theorem w_1010 : Cond.selects "StyleCourt$Step" y_Sp_matches y_Sp_matches ∈ xws := xws_in (wt_4 (List.mem_of_getElem? (i := 222) rfl)) rfl
set_option maxRecDepth 100000 in
theorem w_1011 : Cond.code y_Sp_matches prog_10_method_4_code 3 (some .boolean) ∈ xws := xws_in (wt_4 (List.mem_of_getElem? (i := 223) rfl)) rfl
set_option maxRecDepth 100000 in
theorem w_1012 : Cond.methodLink "StyleCourt$Step" 63 y_Sl_sameAs ∈ xws := xws_in (wt_4 (List.mem_of_getElem? (i := 224) rfl)) rfl
set_option maxRecDepth 100000 in
theorem w_1013 : Cond.methodLink "StyleCourt$Step" 69 y_AL_get ∈ xws := xws_in (wt_4 (List.mem_of_getElem? (i := 225) rfl)) rfl
set_option maxRecDepth 100000 in
theorem w_1014 : Cond.methodLink "StyleCourt$Step" 73 y_Co_holdsFor ∈ xws := xws_in (wt_4 (List.mem_of_getElem? (i := 226) rfl)) rfl
set_option maxRecDepth 100000 in
theorem w_1015 : Cond.instanceMethod y_Co_holdsFor ∈ xws := xws_in (wt_4 (List.mem_of_getElem? (i := 227) rfl)) rfl
set_option maxRecDepth 100000 in
theorem w_1016 : Cond.selects "StyleCourt$Condition" y_Co_holdsFor y_Co_holdsFor ∈ xws := xws_in (wt_4 (List.mem_of_getElem? (i := 228) rfl)) rfl
set_option maxRecDepth 100000 in
theorem w_1017 : Cond.code y_Co_holdsFor prog_2_method_4_code 2 (some .boolean) ∈ xws := xws_in (wt_4 (List.mem_of_getElem? (i := 229) rfl)) rfl
set_option maxRecDepth 100000 in
theorem w_1018 : Cond.methodLink "StyleCourt$Condition" 78 y_El_isEmpty ∈ xws := xws_in (wt_4 (List.mem_of_getElem? (i := 230) rfl)) rfl
set_option maxRecDepth 100000 in
theorem w_1019 : Cond.instanceMethod y_El_isEmpty ∈ xws := xws_in (wt_4 (List.mem_of_getElem? (i := 231) rfl)) rfl
set_option maxRecDepth 100000 in
theorem w_1020 : Cond.selects "StyleCourt$Element" y_El_isEmpty y_El_isEmpty ∈ xws := xws_in (wt_4 (List.mem_of_getElem? (i := 232) rfl)) rfl
set_option maxRecDepth 100000 in
theorem w_1021 : Cond.code y_El_isEmpty prog_3_method_2_code 1 (some .boolean) ∈ xws := xws_in (wt_4 (List.mem_of_getElem? (i := 233) rfl)) rfl
set_option maxRecDepth 100000 in
theorem w_1022 : Cond.methodLink "StyleCourt$Condition" 83 y_Sl_sameAs ∈ xws := xws_in (wt_4 (List.mem_of_getElem? (i := 234) rfl)) rfl
set_option maxRecDepth 100000 in
theorem w_1023 : Cond.methodLinkNest "StyleCourt$Condition" 91 y_Sc_findNamed "StyleCourt" ∈ xws := xws_in (wt_4 (List.mem_of_getElem? (i := 235) rfl)) rfl
set_option maxRecDepth 100000 in
theorem w_1024 : Cond.methodLink "StyleCourt$Condition" 95 y_Co_holdsForField ∈ xws := xws_in (wt_4 (List.mem_of_getElem? (i := 236) rfl)) rfl
set_option maxRecDepth 100000 in
theorem w_1026 : Cond.instanceMethod y_Co_holdsForField ∈ xws := xws_in (wt_4 (List.mem_of_getElem? (i := 238) rfl)) rfl
set_option maxRecDepth 100000 in
theorem w_1027 : Cond.code y_Co_holdsForField prog_2_method_5_code 2 (some .boolean) ∈ xws := xws_in (wt_4 (List.mem_of_getElem? (i := 239) rfl)) rfl
set_option maxRecDepth 100000 in
theorem w_1028 : Cond.methodLink "StyleCourt$Selector" 66 y_Ma_min ∈ xws := xws_in (wt_5 (List.mem_of_getElem? (i := 0) rfl)) rfl
set_option maxRecDepth 100000 in
theorem w_1029 : Cond.methodLink "StyleCourt$Selector" 75 y_Se_moveBack ∈ xws := xws_in (wt_5 (List.mem_of_getElem? (i := 1) rfl)) rfl
set_option maxRecDepth 100000 in
theorem w_1030 : Cond.static y_Se_moveBack ∈ xws := xws_in (wt_5 (List.mem_of_getElem? (i := 2) rfl)) rfl
set_option maxRecDepth 100000 in
theorem w_1031 : Cond.code y_Se_moveBack prog_7_method_4_code 6 none ∈ xws := xws_in (wt_5 (List.mem_of_getElem? (i := 3) rfl)) rfl
set_option maxRecDepth 100000 in
theorem w_1032 : Cond.methodLink "StyleCourt$Style" 112 y_Sy_isAhead ∈ xws := xws_in (wt_5 (List.mem_of_getElem? (i := 4) rfl)) rfl
set_option maxRecDepth 100000 in
theorem w_1033 : Cond.static y_Sy_isAhead ∈ xws := xws_in (wt_5 (List.mem_of_getElem? (i := 5) rfl)) rfl
set_option maxRecDepth 100000 in
theorem w_1034 : Cond.code y_Sy_isAhead prog_11_method_7_code 4 (some .boolean) ∈ xws := xws_in (wt_5 (List.mem_of_getElem? (i := 6) rfl)) rfl
set_option maxRecDepth 100000 in
theorem w_1035 : Cond.methodLink "StyleCourt" 153 y_To_leansOnOuter ∈ xws := xws_in (wt_5 (List.mem_of_getElem? (i := 7) rfl)) rfl
set_option maxRecDepth 100000 in
theorem w_1036 : Cond.instanceMethod y_To_leansOnOuter ∈ xws := xws_in (wt_5 (List.mem_of_getElem? (i := 8) rfl)) rfl
set_option maxRecDepth 100000 in
theorem w_1037 : Cond.selects "StyleCourt$Told" y_To_leansOnOuter y_To_leansOnOuter ∈ xws := xws_in (wt_5 (List.mem_of_getElem? (i := 9) rfl)) rfl
set_option maxRecDepth 100000 in
theorem w_1038 : Cond.code y_To_leansOnOuter prog_12_method_4_code 1 (some .boolean) ∈ xws := xws_in (wt_5 (List.mem_of_getElem? (i := 10) rfl)) rfl
set_option maxRecDepth 100000 in
theorem w_1040 : Cond.methodLink "StyleCourt$Told" 68 y_Sl_spells ∈ xws := xws_in (wt_5 (List.mem_of_getElem? (i := 12) rfl)) rfl
set_option maxRecDepth 100000 in
theorem w_1041 : Cond.methodLink "StyleCourt" 165 y_Sc_putValue ∈ xws := xws_in (wt_5 (List.mem_of_getElem? (i := 13) rfl)) rfl
set_option maxRecDepth 100000 in
theorem w_1043 : Cond.instanceMethod y_Sc_putValue ∈ xws := xws_in (wt_5 (List.mem_of_getElem? (i := 15) rfl)) rfl
set_option maxRecDepth 100000 in
theorem w_1044 : Cond.code y_Sc_putValue prog_1_method_20_code 6 (some .int) ∈ xws := xws_in (wt_5 (List.mem_of_getElem? (i := 16) rfl)) rfl
set_option maxRecDepth 100000 in
theorem w_1045 : Cond.methodLink "StyleCourt" 233 y_Sc_putSlice ∈ xws := xws_in (wt_5 (List.mem_of_getElem? (i := 17) rfl)) rfl
set_option maxRecDepth 100000 in
theorem w_1047 : Cond.instanceMethod y_Sc_putSlice ∈ xws := xws_in (wt_5 (List.mem_of_getElem? (i := 19) rfl)) rfl
set_option maxRecDepth 100000 in
theorem w_1048 : Cond.code y_Sc_putSlice prog_1_method_22_code 2 (some .int) ∈ xws := xws_in (wt_5 (List.mem_of_getElem? (i := 20) rfl)) rfl
set_option maxRecDepth 100000 in
theorem w_1049 : Cond.methodLink "StyleCourt" 274 y_Sl_copyTo ∈ xws := xws_in (wt_5 (List.mem_of_getElem? (i := 21) rfl)) rfl
set_option maxRecDepth 100000 in
theorem w_1050 : Cond.instanceMethod y_Sl_copyTo ∈ xws := xws_in (wt_5 (List.mem_of_getElem? (i := 22) rfl)) rfl
set_option maxRecDepth 100000 in
theorem w_1051 : Cond.selects "StyleCourt$Slice" y_Sl_copyTo y_Sl_copyTo ∈ xws := xws_in (wt_5 (List.mem_of_getElem? (i := 23) rfl)) rfl
set_option maxRecDepth 100000 in
theorem w_1052 : Cond.code y_Sl_copyTo prog_8_method_5_code 4 (some .int) ∈ xws := xws_in (wt_5 (List.mem_of_getElem? (i := 24) rfl)) rfl
set_option maxRecDepth 100000 in
theorem w_1053 : Cond.methodLink "StyleCourt$Slice" 29 y_Ma_min ∈ xws := xws_in (wt_5 (List.mem_of_getElem? (i := 25) rfl)) rfl
set_option maxRecDepth 100000 in
theorem w_1054 : Cond.methodLink "StyleCourt$Slice" 35 y_Ma_max ∈ xws := xws_in (wt_5 (List.mem_of_getElem? (i := 26) rfl)) rfl
set_option maxRecDepth 100000 in
theorem w_1055 : Cond.methodLink "StyleCourt$Slice" 38 y_Sys_arraycopy ∈ xws := xws_in (wt_5 (List.mem_of_getElem? (i := 27) rfl)) rfl
set_option maxRecDepth 100000 in
theorem w_1056 : Cond.constantLong "StyleCourt" 261 100 ∈ xws := xws_in (wt_5 (List.mem_of_getElem? (i := 28) rfl)) rfl
set_option maxRecDepth 100000 in
theorem w_1057 : Cond.constantLong "StyleCourt" 263 9999999 ∈ xws := xws_in (wt_5 (List.mem_of_getElem? (i := 29) rfl)) rfl
set_option maxRecDepth 100000 in
theorem w_1058 : Cond.methodLink "StyleCourt" 265 y_Ma_min2 ∈ xws := xws_in (wt_5 (List.mem_of_getElem? (i := 30) rfl)) rfl
set_option maxRecDepth 100000 in
theorem w_1059 : Cond.static y_Ma_min2 ∈ xws := xws_in (wt_5 (List.mem_of_getElem? (i := 31) rfl)) rfl
set_option maxRecDepth 100000 in
theorem w_1060 : Cond.code y_Ma_min2 prog_21_method_70_code 4 (some .long) ∈ xws := xws_in (wt_5 (List.mem_of_getElem? (i := 32) rfl)) rfl
set_option maxRecDepth 100000 in
theorem w_1061 : Cond.methodLink "StyleCourt" 271 y_Sc_putNumber ∈ xws := xws_in (wt_5 (List.mem_of_getElem? (i := 33) rfl)) rfl
set_option maxRecDepth 100000 in
theorem w_1063 : Cond.instanceMethod y_Sc_putNumber ∈ xws := xws_in (wt_5 (List.mem_of_getElem? (i := 35) rfl)) rfl
set_option maxRecDepth 100000 in
theorem w_1064 : Cond.code y_Sc_putNumber prog_1_method_21_code 4 none ∈ xws := xws_in (wt_5 (List.mem_of_getElem? (i := 36) rfl)) rfl
set_option maxRecDepth 100000 in
theorem w_1065 : Cond.methodLink "StyleCourtLaw" 90 y_Lw_by ∈ xws := xws_in (wt_5 (List.mem_of_getElem? (i := 37) rfl)) rfl
set_option maxRecDepth 100000 in
theorem w_1066 : Cond.static y_Lw_by ∈ xws := xws_in (wt_5 (List.mem_of_getElem? (i := 38) rfl)) rfl
set_option maxRecDepth 100000 in
theorem w_1067 : Cond.codeWith y_Lw_by method_8_code 4 (some .int) [((0 : Nat), (9 : Nat), (12 : Nat), (19 : Nat))] ∈ xws := xws_in (wt_5 (List.mem_of_getElem? (i := 39) rfl)) rfl
set_option maxRecDepth 100000 in
theorem w_1068 : Cond.methodLink "StyleCourtLaw" 33 y_Sc_by ∈ xws := xws_in (wt_5 (List.mem_of_getElem? (i := 40) rfl)) rfl
set_option maxRecDepth 100000 in
theorem w_1069 : Cond.instanceMethod y_Sc_by ∈ xws := xws_in (wt_5 (List.mem_of_getElem? (i := 41) rfl)) rfl
set_option maxRecDepth 100000 in
theorem w_1070 : Cond.selects "StyleCourt" y_Sc_by y_Sc_by ∈ xws := xws_in (wt_5 (List.mem_of_getElem? (i := 42) rfl)) rfl
set_option maxRecDepth 100000 in
theorem w_1071 : Cond.code y_Sc_by prog_1_method_8_code 5 (some .int) ∈ xws := xws_in (wt_5 (List.mem_of_getElem? (i := 43) rfl)) rfl
set_option maxRecDepth 100000 in
theorem w_1072 : Cond.methodLink "StyleCourtLaw" 93 y_Lw_select ∈ xws := xws_in (wt_5 (List.mem_of_getElem? (i := 44) rfl)) rfl
set_option maxRecDepth 100000 in
theorem w_1073 : Cond.static y_Lw_select ∈ xws := xws_in (wt_5 (List.mem_of_getElem? (i := 45) rfl)) rfl
set_option maxRecDepth 100000 in
theorem w_1074 : Cond.codeWith y_Lw_select method_9_code 3 (some .int) [((0 : Nat), (8 : Nat), (11 : Nat), (25 : Nat))] ∈ xws := xws_in (wt_5 (List.mem_of_getElem? (i := 46) rfl)) rfl
set_option maxRecDepth 100000 in
theorem w_1075 : Cond.methodLink "StyleCourtLaw" 36 y_Sc_select ∈ xws := xws_in (wt_5 (List.mem_of_getElem? (i := 47) rfl)) rfl
set_option maxRecDepth 100000 in
theorem w_1076 : Cond.instanceMethod y_Sc_select ∈ xws := xws_in (wt_5 (List.mem_of_getElem? (i := 48) rfl)) rfl
set_option maxRecDepth 100000 in
theorem w_1077 : Cond.selects "StyleCourt" y_Sc_select y_Sc_select ∈ xws := xws_in (wt_5 (List.mem_of_getElem? (i := 49) rfl)) rfl
set_option maxRecDepth 100000 in
theorem w_1078 : Cond.code y_Sc_select prog_1_method_9_code 4 (some .int) ∈ xws := xws_in (wt_5 (List.mem_of_getElem? (i := 50) rfl)) rfl
set_option maxRecDepth 100000 in
theorem w_1079 : Cond.classLink "StyleCourt" 172 "StyleCourt$Selector" ∈ xws := xws_in (wt_5 (List.mem_of_getElem? (i := 51) rfl)) rfl
set_option maxRecDepth 100000 in
theorem w_1080 : Cond.methodLinkNest "StyleCourt" 174 y_Se_init "StyleCourt" ∈ xws := xws_in (wt_5 (List.mem_of_getElem? (i := 52) rfl)) rfl
set_option maxRecDepth 100000 in
theorem w_1081 : Cond.methodLink "StyleCourt" 175 y_Se_readSteps ∈ xws := xws_in (wt_5 (List.mem_of_getElem? (i := 53) rfl)) rfl
set_option maxRecDepth 100000 in
theorem w_1082 : Cond.methodLink "StyleCourt" 188 y_Se_matches ∈ xws := xws_in (wt_5 (List.mem_of_getElem? (i := 54) rfl)) rfl
set_option maxRecDepth 100000 in
theorem w_1083 : Cond.methodLink "StyleCourtLaw" 96 y_Lw_found ∈ xws := xws_in (wt_5 (List.mem_of_getElem? (i := 55) rfl)) rfl
set_option maxRecDepth 100000 in
theorem w_1084 : Cond.static y_Lw_found ∈ xws := xws_in (wt_5 (List.mem_of_getElem? (i := 56) rfl)) rfl
set_option maxRecDepth 100000 in
theorem w_1085 : Cond.codeWith y_Lw_found method_10_code 4 (some .int) [((0 : Nat), (9 : Nat), (12 : Nat), (13 : Nat))] ∈ xws := xws_in (wt_5 (List.mem_of_getElem? (i := 57) rfl)) rfl
set_option maxRecDepth 100000 in
theorem w_1086 : Cond.methodLink "StyleCourtLaw" 39 y_Sc_found ∈ xws := xws_in (wt_5 (List.mem_of_getElem? (i := 58) rfl)) rfl
set_option maxRecDepth 100000 in
theorem w_1087 : Cond.instanceMethod y_Sc_found ∈ xws := xws_in (wt_5 (List.mem_of_getElem? (i := 59) rfl)) rfl
set_option maxRecDepth 100000 in
theorem w_1088 : Cond.selects "StyleCourt" y_Sc_found y_Sc_found ∈ xws := xws_in (wt_5 (List.mem_of_getElem? (i := 60) rfl)) rfl
set_option maxRecDepth 100000 in
theorem w_1089 : Cond.code y_Sc_found prog_1_method_10_code 2 (some .int) ∈ xws := xws_in (wt_5 (List.mem_of_getElem? (i := 61) rfl)) rfl
set_option maxRecDepth 100000 in
theorem w_1091 : Cond.methodLink "StyleCourtLaw" 99 y_Lw_fits ∈ xws := xws_in (wt_5 (List.mem_of_getElem? (i := 63) rfl)) rfl
set_option maxRecDepth 100000 in
theorem w_1092 : Cond.static y_Lw_fits ∈ xws := xws_in (wt_5 (List.mem_of_getElem? (i := 64) rfl)) rfl
set_option maxRecDepth 100000 in
theorem w_1093 : Cond.codeWith y_Lw_fits method_11_code 5 (some .int) [((0 : Nat), (10 : Nat), (13 : Nat), (19 : Nat))] ∈ xws := xws_in (wt_5 (List.mem_of_getElem? (i := 65) rfl)) rfl
set_option maxRecDepth 100000 in
theorem w_1094 : Cond.methodLink "StyleCourtLaw" 42 y_Sc_fits ∈ xws := xws_in (wt_5 (List.mem_of_getElem? (i := 66) rfl)) rfl
set_option maxRecDepth 100000 in
theorem w_1095 : Cond.instanceMethod y_Sc_fits ∈ xws := xws_in (wt_5 (List.mem_of_getElem? (i := 67) rfl)) rfl
set_option maxRecDepth 100000 in
theorem w_1096 : Cond.selects "StyleCourt" y_Sc_fits y_Sc_fits ∈ xws := xws_in (wt_5 (List.mem_of_getElem? (i := 68) rfl)) rfl
set_option maxRecDepth 100000 in
theorem w_1097 : Cond.code y_Sc_fits prog_1_method_11_code 4 (some .int) ∈ xws := xws_in (wt_5 (List.mem_of_getElem? (i := 69) rfl)) rfl
set_option maxRecDepth 100000 in
theorem w_1099 : Cond.methodLink "StyleCourtLaw" 103 y_Lw_element ∈ xws := xws_in (wt_5 (List.mem_of_getElem? (i := 71) rfl)) rfl
set_option maxRecDepth 100000 in
theorem w_1100 : Cond.static y_Lw_element ∈ xws := xws_in (wt_5 (List.mem_of_getElem? (i := 72) rfl)) rfl
set_option maxRecDepth 100000 in
theorem w_1101 : Cond.codeWith y_Lw_element method_12_code 5 (some .int) [((0 : Nat), (10 : Nat), (13 : Nat), (19 : Nat))] ∈ xws := xws_in (wt_5 (List.mem_of_getElem? (i := 73) rfl)) rfl
set_option maxRecDepth 100000 in
theorem w_1102 : Cond.methodLink "StyleCourtLaw" 46 y_Sc_element ∈ xws := xws_in (wt_5 (List.mem_of_getElem? (i := 74) rfl)) rfl
set_option maxRecDepth 100000 in
theorem w_1103 : Cond.instanceMethod y_Sc_element ∈ xws := xws_in (wt_5 (List.mem_of_getElem? (i := 75) rfl)) rfl
set_option maxRecDepth 100000 in
theorem w_1104 : Cond.selects "StyleCourt" y_Sc_element y_Sc_element ∈ xws := xws_in (wt_5 (List.mem_of_getElem? (i := 76) rfl)) rfl
set_option maxRecDepth 100000 in
theorem w_1105 : Cond.code y_Sc_element prog_1_method_12_code 4 (some .int) ∈ xws := xws_in (wt_5 (List.mem_of_getElem? (i := 77) rfl)) rfl
set_option maxRecDepth 100000 in
theorem w_1106 : Cond.methodLink "StyleCourt" 212 y_El_isEmpty ∈ xws := xws_in (wt_5 (List.mem_of_getElem? (i := 78) rfl)) rfl
set_option maxRecDepth 100000 in
theorem w_1108 : Cond.methodLink "StyleCourtLaw" 106 y_Lw_tell ∈ xws := xws_in (wt_5 (List.mem_of_getElem? (i := 80) rfl)) rfl
set_option maxRecDepth 100000 in
theorem w_1109 : Cond.static y_Lw_tell ∈ xws := xws_in (wt_5 (List.mem_of_getElem? (i := 81) rfl)) rfl
set_option maxRecDepth 100000 in
theorem w_1110 : Cond.codeWith y_Lw_tell method_13_code 5 (some .int) [((0 : Nat), (10 : Nat), (13 : Nat), (19 : Nat)), ((0 : Nat), (10 : Nat), (17 : Nat), (13 : Nat))] ∈ xws := xws_in (wt_5 (List.mem_of_getElem? (i := 82) rfl)) rfl
set_option maxRecDepth 100000 in
theorem w_1111 : Cond.methodLink "StyleCourtLaw" 49 y_Sc_tell ∈ xws := xws_in (wt_5 (List.mem_of_getElem? (i := 83) rfl)) rfl
set_option maxRecDepth 100000 in
theorem w_1112 : Cond.instanceMethod y_Sc_tell ∈ xws := xws_in (wt_5 (List.mem_of_getElem? (i := 84) rfl)) rfl
set_option maxRecDepth 100000 in
theorem w_1113 : Cond.selects "StyleCourt" y_Sc_tell y_Sc_tell ∈ xws := xws_in (wt_5 (List.mem_of_getElem? (i := 85) rfl)) rfl
set_option maxRecDepth 100000 in
theorem w_1114 : Cond.code y_Sc_tell prog_1_method_13_code 5 (some .int) ∈ xws := xws_in (wt_5 (List.mem_of_getElem? (i := 86) rfl)) rfl
set_option maxRecDepth 100000 in
theorem w_1116 : Cond.methodLink "StyleCourt" 225 y_Sc_putTexts ∈ xws := xws_in (wt_5 (List.mem_of_getElem? (i := 88) rfl)) rfl
set_option maxRecDepth 100000 in
theorem w_1118 : Cond.instanceMethod y_Sc_putTexts ∈ xws := xws_in (wt_5 (List.mem_of_getElem? (i := 90) rfl)) rfl
set_option maxRecDepth 100000 in
theorem w_1119 : Cond.code y_Sc_putTexts prog_1_method_23_code 6 (some .int) ∈ xws := xws_in (wt_5 (List.mem_of_getElem? (i := 91) rfl)) rfl
set_option maxRecDepth 100000 in
theorem w_1120 : Cond.methodLink "StyleCourt" 284 y_Ma_min ∈ xws := xws_in (wt_5 (List.mem_of_getElem? (i := 92) rfl)) rfl
set_option maxRecDepth 100000 in
theorem w_1122 : Cond.methodLink "StyleCourtLaw" 109 y_Lw_word ∈ xws := xws_in (wt_5 (List.mem_of_getElem? (i := 94) rfl)) rfl
set_option maxRecDepth 100000 in
theorem w_1123 : Cond.static y_Lw_word ∈ xws := xws_in (wt_5 (List.mem_of_getElem? (i := 95) rfl)) rfl
set_option maxRecDepth 100000 in
theorem w_1124 : Cond.codeWith y_Lw_word method_14_code 4 (some .int) [((0 : Nat), (8 : Nat), (11 : Nat), (13 : Nat))] ∈ xws := xws_in (wt_5 (List.mem_of_getElem? (i := 96) rfl)) rfl
set_option maxRecDepth 100000 in
theorem w_1125 : Cond.methodLink "StyleCourtLaw" 52 y_Sc_word ∈ xws := xws_in (wt_5 (List.mem_of_getElem? (i := 97) rfl)) rfl
set_option maxRecDepth 100000 in
theorem w_1126 : Cond.instanceMethod y_Sc_word ∈ xws := xws_in (wt_5 (List.mem_of_getElem? (i := 98) rfl)) rfl
set_option maxRecDepth 100000 in
theorem w_1127 : Cond.selects "StyleCourt" y_Sc_word y_Sc_word ∈ xws := xws_in (wt_5 (List.mem_of_getElem? (i := 99) rfl)) rfl
set_option maxRecDepth 100000 in
theorem w_1128 : Cond.code y_Sc_word prog_1_method_14_code 5 (some .long) ∈ xws := xws_in (wt_5 (List.mem_of_getElem? (i := 100) rfl)) rfl
set_option maxRecDepth 100000 in
theorem w_1130 : Cond.methodLink "StyleCourtLaw" 112 y_Lw_count ∈ xws := xws_in (wt_5 (List.mem_of_getElem? (i := 102) rfl)) rfl
set_option maxRecDepth 100000 in
theorem w_1131 : Cond.static y_Lw_count ∈ xws := xws_in (wt_5 (List.mem_of_getElem? (i := 103) rfl)) rfl
set_option maxRecDepth 100000 in
theorem w_1132 : Cond.codeWith y_Lw_count method_15_code 4 (some .int) [((0 : Nat), (9 : Nat), (12 : Nat), (19 : Nat))] ∈ xws := xws_in (wt_5 (List.mem_of_getElem? (i := 104) rfl)) rfl
set_option maxRecDepth 100000 in
theorem w_1133 : Cond.methodLink "StyleCourtLaw" 56 y_Sc_count ∈ xws := xws_in (wt_5 (List.mem_of_getElem? (i := 105) rfl)) rfl
set_option maxRecDepth 100000 in
theorem w_1134 : Cond.instanceMethod y_Sc_count ∈ xws := xws_in (wt_5 (List.mem_of_getElem? (i := 106) rfl)) rfl
set_option maxRecDepth 100000 in
theorem w_1135 : Cond.selects "StyleCourt" y_Sc_count y_Sc_count ∈ xws := xws_in (wt_5 (List.mem_of_getElem? (i := 107) rfl)) rfl
set_option maxRecDepth 100000 in
theorem w_1136 : Cond.code y_Sc_count prog_1_method_15_code 3 (some .int) ∈ xws := xws_in (wt_5 (List.mem_of_getElem? (i := 108) rfl)) rfl
set_option maxRecDepth 100000 in
theorem w_1138 : Cond.classLink "StyleCourtLaw" 60 "StyleCourtModel" ∈ xws := xws_in (wt_5 (List.mem_of_getElem? (i := 110) rfl)) rfl
set_option maxRecDepth 100000 in
theorem w_1139 : Cond.instantiable "StyleCourtModel" 85 ∈ xws := xws_in (wt_5 (List.mem_of_getElem? (i := 111) rfl)) rfl
set_option maxRecDepth 100000 in
theorem w_1140 : Cond.methodLink "StyleCourtLaw" 62 y_Mo_init ∈ xws := xws_in (wt_5 (List.mem_of_getElem? (i := 112) rfl)) rfl
set_option maxRecDepth 100000 in
theorem w_1141 : Cond.instanceMethod y_Mo_init ∈ xws := xws_in (wt_5 (List.mem_of_getElem? (i := 113) rfl)) rfl
set_option maxRecDepth 100000 in
theorem w_1142 : Cond.code y_Mo_init prog_14_method_1_code 1 none ∈ xws := xws_in (wt_5 (List.mem_of_getElem? (i := 114) rfl)) rfl
set_option maxRecDepth 100000 in
theorem w_1143 : Cond.methodLink "StyleCourtModel" 1 y_Oj_init ∈ xws := xws_in (wt_5 (List.mem_of_getElem? (i := 115) rfl)) rfl
set_option maxRecDepth 100000 in
theorem w_1144 : Cond.constant "StyleCourtModel" 20 50000 ∈ xws := xws_in (wt_5 (List.mem_of_getElem? (i := 116) rfl)) rfl
set_option maxRecDepth 100000 in
theorem w_1145 : Cond.fieldLink "StyleCourtModel" 187 "StyleCourtModel" "thrown" "I" ∈ xws := xws_in (wt_5 (List.mem_of_getElem? (i := 117) rfl)) rfl
set_option maxRecDepth 100000 in
theorem w_1146 : Cond.fieldLink "StyleCourtModel" 7 "StyleCourtModel" "tape" "[I" ∈ xws := xws_in (wt_5 (List.mem_of_getElem? (i := 118) rfl)) rfl
set_option maxRecDepth 100000 in
theorem w_1147 : Cond.fieldLink "StyleCourtModel" 190 "StyleCourtModel" "taped" "I" ∈ xws := xws_in (wt_5 (List.mem_of_getElem? (i := 119) rfl)) rfl
set_option maxRecDepth 100000 in
theorem w_1148 : Cond.fieldLink "StyleCourtModel" 13 "StyleCourtModel" "out" "[I" ∈ xws := xws_in (wt_5 (List.mem_of_getElem? (i := 120) rfl)) rfl
set_option maxRecDepth 100000 in
theorem w_1149 : Cond.fieldLink "StyleCourtModel" 424 "StyleCourtModel" "outLong" "I" ∈ xws := xws_in (wt_5 (List.mem_of_getElem? (i := 121) rfl)) rfl
set_option maxRecDepth 100000 in
theorem w_1150 : Cond.fieldLink "StyleCourtModel" 16 "StyleCourtModel" "place" "I" ∈ xws := xws_in (wt_5 (List.mem_of_getElem? (i := 122) rfl)) rfl
set_option maxRecDepth 100000 in
theorem w_1151 : Cond.fieldLink "StyleCourtModel" 211 "StyleCourtModel" "fault" "I" ∈ xws := xws_in (wt_5 (List.mem_of_getElem? (i := 123) rfl)) rfl
set_option maxRecDepth 100000 in
theorem w_1152 : Cond.fieldLink "StyleCourtModel" 21 "StyleCourtModel" "text" "[I" ∈ xws := xws_in (wt_5 (List.mem_of_getElem? (i := 124) rfl)) rfl
set_option maxRecDepth 100000 in
theorem w_1153 : Cond.fieldLink "StyleCourtModel" 205 "StyleCourtModel" "base" "I" ∈ xws := xws_in (wt_5 (List.mem_of_getElem? (i := 125) rfl)) rfl
set_option maxRecDepth 100000 in
theorem w_1154 : Cond.fieldLink "StyleCourtModel" 208 "StyleCourtModel" "length" "I" ∈ xws := xws_in (wt_5 (List.mem_of_getElem? (i := 126) rfl)) rfl
set_option maxRecDepth 100000 in
theorem w_1155 : Cond.fieldLink "StyleCourtModel" 311 "StyleCourtModel" "elements" "I" ∈ xws := xws_in (wt_5 (List.mem_of_getElem? (i := 127) rfl)) rfl
set_option maxRecDepth 100000 in
theorem w_1156 : Cond.fieldLink "StyleCourtModel" 275 "StyleCourtModel" "newElements" "I" ∈ xws := xws_in (wt_5 (List.mem_of_getElem? (i := 128) rfl)) rfl
set_option maxRecDepth 100000 in
theorem w_1157 : Cond.fieldLink "StyleCourtModel" 24 "StyleCourtModel" "nameAt" "[I" ∈ xws := xws_in (wt_5 (List.mem_of_getElem? (i := 129) rfl)) rfl
set_option maxRecDepth 100000 in
theorem w_1158 : Cond.fieldLink "StyleCourtModel" 27 "StyleCourtModel" "nameLong" "[I" ∈ xws := xws_in (wt_5 (List.mem_of_getElem? (i := 130) rfl)) rfl
set_option maxRecDepth 100000 in
theorem w_1159 : Cond.fieldLink "StyleCourtModel" 30 "StyleCourtModel" "parent" "[I" ∈ xws := xws_in (wt_5 (List.mem_of_getElem? (i := 131) rfl)) rfl
set_option maxRecDepth 100000 in
theorem w_1160 : Cond.fieldLink "StyleCourtModel" 33 "StyleCourtModel" "before" "[I" ∈ xws := xws_in (wt_5 (List.mem_of_getElem? (i := 132) rfl)) rfl
set_option maxRecDepth 100000 in
theorem w_1161 : Cond.fieldLink "StyleCourtModel" 36 "StyleCourtModel" "many" "[I" ∈ xws := xws_in (wt_5 (List.mem_of_getElem? (i := 133) rfl)) rfl
set_option maxRecDepth 100000 in
theorem w_1162 : Cond.fieldLink "StyleCourtModel" 39 "StyleCourtModel" "number" "[I" ∈ xws := xws_in (wt_5 (List.mem_of_getElem? (i := 134) rfl)) rfl
set_option maxRecDepth 100000 in
theorem w_1163 : Cond.fieldLink "StyleCourtModel" 42 "StyleCourtModel" "depth" "[I" ∈ xws := xws_in (wt_5 (List.mem_of_getElem? (i := 135) rfl)) rfl
set_option maxRecDepth 100000 in
theorem w_1164 : Cond.fieldLink "StyleCourtModel" 45 "StyleCourtModel" "fields" "[I" ∈ xws := xws_in (wt_5 (List.mem_of_getElem? (i := 136) rfl)) rfl
set_option maxRecDepth 100000 in
theorem w_1165 : Cond.fieldLink "StyleCourtModel" 48 "StyleCourtModel" "begins" "[I" ∈ xws := xws_in (wt_5 (List.mem_of_getElem? (i := 137) rfl)) rfl
set_option maxRecDepth 100000 in
theorem w_1166 : Cond.fieldLink "StyleCourtModel" 51 "StyleCourtModel" "ends" "[I" ∈ xws := xws_in (wt_5 (List.mem_of_getElem? (i := 138) rfl)) rfl
set_option maxRecDepth 100000 in
theorem w_1167 : Cond.fieldLink "StyleCourtModel" 54 "StyleCourtModel" "pieceFrom" "[I" ∈ xws := xws_in (wt_5 (List.mem_of_getElem? (i := 139) rfl)) rfl
set_option maxRecDepth 100000 in
theorem w_1168 : Cond.fieldLink "StyleCourtModel" 57 "StyleCourtModel" "pieceTo" "[I" ∈ xws := xws_in (wt_5 (List.mem_of_getElem? (i := 140) rfl)) rfl
set_option maxRecDepth 100000 in
theorem w_1169 : Cond.fieldLink "StyleCourtModel" 60 "StyleCourtModel" "lastIn" "[I" ∈ xws := xws_in (wt_5 (List.mem_of_getElem? (i := 141) rfl)) rfl
set_option maxRecDepth 100000 in
theorem w_1170 : Cond.fieldLink "StyleCourtModel" 63 "StyleCourtModel" "empty" "[Z" ∈ xws := xws_in (wt_5 (List.mem_of_getElem? (i := 142) rfl)) rfl
set_option maxRecDepth 100000 in
theorem w_1171 : Cond.fieldLink "StyleCourtModel" 67 "StyleCourtModel" "fieldAt" "[I" ∈ xws := xws_in (wt_5 (List.mem_of_getElem? (i := 143) rfl)) rfl
set_option maxRecDepth 100000 in
theorem w_1172 : Cond.fieldLink "StyleCourtModel" 70 "StyleCourtModel" "fieldLong" "[I" ∈ xws := xws_in (wt_5 (List.mem_of_getElem? (i := 144) rfl)) rfl
set_option maxRecDepth 100000 in
theorem w_1173 : Cond.fieldLink "StyleCourtModel" 73 "StyleCourtModel" "valueAt" "[I" ∈ xws := xws_in (wt_5 (List.mem_of_getElem? (i := 145) rfl)) rfl
set_option maxRecDepth 100000 in
theorem w_1174 : Cond.fieldLink "StyleCourtModel" 76 "StyleCourtModel" "valueLong" "[I" ∈ xws := xws_in (wt_5 (List.mem_of_getElem? (i := 146) rfl)) rfl
set_option maxRecDepth 100000 in
theorem w_1175 : Cond.fieldLink "StyleCourtModel" 79 "StyleCourtModel" "pieceAt" "[I" ∈ xws := xws_in (wt_5 (List.mem_of_getElem? (i := 147) rfl)) rfl
set_option maxRecDepth 100000 in
theorem w_1176 : Cond.fieldLink "StyleCourtModel" 82 "StyleCourtModel" "pieceLong" "[I" ∈ xws := xws_in (wt_5 (List.mem_of_getElem? (i := 148) rfl)) rfl
set_option maxRecDepth 100000 in
theorem w_1177 : Cond.fieldLink "StyleCourtModel" 233 "StyleCourtModel" "pieces" "I" ∈ xws := xws_in (wt_5 (List.mem_of_getElem? (i := 149) rfl)) rfl
set_option maxRecDepth 100000 in
theorem w_1178 : Cond.fieldLink "StyleCourtModel" 85 "StyleCourtModel" "entityAt" "[I" ∈ xws := xws_in (wt_5 (List.mem_of_getElem? (i := 150) rfl)) rfl
set_option maxRecDepth 100000 in
theorem w_1179 : Cond.fieldLink "StyleCourtModel" 88 "StyleCourtModel" "entityLong" "[I" ∈ xws := xws_in (wt_5 (List.mem_of_getElem? (i := 151) rfl)) rfl
set_option maxRecDepth 100000 in
theorem w_1180 : Cond.fieldLink "StyleCourtModel" 91 "StyleCourtModel" "entityText" "[I" ∈ xws := xws_in (wt_5 (List.mem_of_getElem? (i := 152) rfl)) rfl
set_option maxRecDepth 100000 in
theorem w_1181 : Cond.fieldLink "StyleCourtModel" 94 "StyleCourtModel" "entityTextLong" "[I" ∈ xws := xws_in (wt_5 (List.mem_of_getElem? (i := 153) rfl)) rfl
set_option maxRecDepth 100000 in
theorem w_1182 : Cond.fieldLink "StyleCourtModel" 236 "StyleCourtModel" "entities" "I" ∈ xws := xws_in (wt_5 (List.mem_of_getElem? (i := 154) rfl)) rfl
set_option maxRecDepth 100000 in
theorem w_1183 : Cond.fieldLink "StyleCourtModel" 227 "StyleCourtModel" "at" "I" ∈ xws := xws_in (wt_5 (List.mem_of_getElem? (i := 155) rfl)) rfl
set_option maxRecDepth 100000 in
theorem w_1184 : Cond.fieldLink "StyleCourtModel" 278 "StyleCourtModel" "topMany" "I" ∈ xws := xws_in (wt_5 (List.mem_of_getElem? (i := 156) rfl)) rfl
set_option maxRecDepth 100000 in
theorem w_1185 : Cond.fieldLink "StyleCourtModel" 281 "StyleCourtModel" "lastTop" "I" ∈ xws := xws_in (wt_5 (List.mem_of_getElem? (i := 157) rfl)) rfl
set_option maxRecDepth 100000 in
theorem w_1186 : Cond.fieldLink "StyleCourtModel" 97 "StyleCourtModel" "spare" "[I" ∈ xws := xws_in (wt_5 (List.mem_of_getElem? (i := 158) rfl)) rfl
set_option maxRecDepth 100000 in
theorem w_1187 : Cond.fieldLink "StyleCourtModel" 314 "StyleCourtModel" "founds" "I" ∈ xws := xws_in (wt_5 (List.mem_of_getElem? (i := 159) rfl)) rfl
set_option maxRecDepth 100000 in
theorem w_1188 : Cond.fieldLink "StyleCourtModel" 100 "StyleCourtModel" "found" "[I" ∈ xws := xws_in (wt_5 (List.mem_of_getElem? (i := 160) rfl)) rfl
set_option maxRecDepth 100000 in
theorem w_1189 : Cond.fieldLink "StyleCourtModel" 302 "StyleCourtModel" "sourceLong" "I" ∈ xws := xws_in (wt_5 (List.mem_of_getElem? (i := 161) rfl)) rfl
set_option maxRecDepth 100000 in
theorem w_1190 : Cond.fieldLink "StyleCourtModel" 326 "StyleCourtModel" "kind" "I" ∈ xws := xws_in (wt_5 (List.mem_of_getElem? (i := 162) rfl)) rfl
set_option maxRecDepth 100000 in
theorem w_1191 : Cond.fieldLink "StyleCourtModel" 320 "StyleCourtModel" "from" "I" ∈ xws := xws_in (wt_5 (List.mem_of_getElem? (i := 163) rfl)) rfl
set_option maxRecDepth 100000 in
theorem w_1192 : Cond.fieldLink "StyleCourtModel" 317 "StyleCourtModel" "to" "I" ∈ xws := xws_in (wt_5 (List.mem_of_getElem? (i := 164) rfl)) rfl
set_option maxRecDepth 100000 in
theorem w_1193 : Cond.fieldLink "StyleCourtModel" 329 "StyleCourtModel" "value" "I" ∈ xws := xws_in (wt_5 (List.mem_of_getElem? (i := 165) rfl)) rfl
set_option maxRecDepth 100000 in
theorem w_1194 : Cond.fieldLink "StyleCourtModel" 323 "StyleCourtModel" "sign" "I" ∈ xws := xws_in (wt_5 (List.mem_of_getElem? (i := 166) rfl)) rfl
set_option maxRecDepth 100000 in
theorem w_1195 : Cond.fieldLink "StyleCourtModel" 382 "StyleCourtModel" "selectors" "I" ∈ xws := xws_in (wt_5 (List.mem_of_getElem? (i := 167) rfl)) rfl
set_option maxRecDepth 100000 in
theorem w_1196 : Cond.fieldLink "StyleCourtModel" 357 "StyleCourtModel" "steps" "I" ∈ xws := xws_in (wt_5 (List.mem_of_getElem? (i := 168) rfl)) rfl
set_option maxRecDepth 100000 in
theorem w_1197 : Cond.fieldLink "StyleCourtModel" 341 "StyleCourtModel" "tests" "I" ∈ xws := xws_in (wt_5 (List.mem_of_getElem? (i := 169) rfl)) rfl
set_option maxRecDepth 100000 in
theorem w_1198 : Cond.fieldLink "StyleCourtModel" 103 "StyleCourtModel" "firstStep" "[I" ∈ xws := xws_in (wt_5 (List.mem_of_getElem? (i := 170) rfl)) rfl
set_option maxRecDepth 100000 in
theorem w_1199 : Cond.fieldLink "StyleCourtModel" 106 "StyleCourtModel" "stepsOf" "[I" ∈ xws := xws_in (wt_5 (List.mem_of_getElem? (i := 171) rfl)) rfl
set_option maxRecDepth 100000 in
theorem w_1200 : Cond.fieldLink "StyleCourtModel" 109 "StyleCourtModel" "bodyOf" "[I" ∈ xws := xws_in (wt_5 (List.mem_of_getElem? (i := 172) rfl)) rfl
set_option maxRecDepth 100000 in
theorem w_1201 : Cond.fieldLink "StyleCourtModel" 112 "StyleCourtModel" "heavy" "[I" ∈ xws := xws_in (wt_5 (List.mem_of_getElem? (i := 173) rfl)) rfl
set_option maxRecDepth 100000 in
theorem w_1202 : Cond.fieldLink "StyleCourtModel" 115 "StyleCourtModel" "stepAt" "[I" ∈ xws := xws_in (wt_5 (List.mem_of_getElem? (i := 174) rfl)) rfl
set_option maxRecDepth 100000 in
theorem w_1203 : Cond.fieldLink "StyleCourtModel" 118 "StyleCourtModel" "stepLong" "[I" ∈ xws := xws_in (wt_5 (List.mem_of_getElem? (i := 175) rfl)) rfl
set_option maxRecDepth 100000 in
theorem w_1204 : Cond.fieldLink "StyleCourtModel" 121 "StyleCourtModel" "link" "[I" ∈ xws := xws_in (wt_5 (List.mem_of_getElem? (i := 176) rfl)) rfl
set_option maxRecDepth 100000 in
theorem w_1205 : Cond.fieldLink "StyleCourtModel" 124 "StyleCourtModel" "firstTest" "[I" ∈ xws := xws_in (wt_5 (List.mem_of_getElem? (i := 177) rfl)) rfl
set_option maxRecDepth 100000 in
theorem w_1206 : Cond.fieldLink "StyleCourtModel" 127 "StyleCourtModel" "testsOf" "[I" ∈ xws := xws_in (wt_5 (List.mem_of_getElem? (i := 178) rfl)) rfl
set_option maxRecDepth 100000 in
theorem w_1207 : Cond.fieldLink "StyleCourtModel" 130 "StyleCourtModel" "test" "[I" ∈ xws := xws_in (wt_5 (List.mem_of_getElem? (i := 179) rfl)) rfl
set_option maxRecDepth 100000 in
theorem w_1208 : Cond.fieldLink "StyleCourtModel" 133 "StyleCourtModel" "testAt" "[I" ∈ xws := xws_in (wt_5 (List.mem_of_getElem? (i := 180) rfl)) rfl
set_option maxRecDepth 100000 in
theorem w_1209 : Cond.fieldLink "StyleCourtModel" 136 "StyleCourtModel" "testLong" "[I" ∈ xws := xws_in (wt_5 (List.mem_of_getElem? (i := 181) rfl)) rfl
set_option maxRecDepth 100000 in
theorem w_1210 : Cond.fieldLink "StyleCourtModel" 139 "StyleCourtModel" "testText" "[I" ∈ xws := xws_in (wt_5 (List.mem_of_getElem? (i := 182) rfl)) rfl
set_option maxRecDepth 100000 in
theorem w_1211 : Cond.fieldLink "StyleCourtModel" 142 "StyleCourtModel" "testTextLong" "[I" ∈ xws := xws_in (wt_5 (List.mem_of_getElem? (i := 183) rfl)) rfl
set_option maxRecDepth 100000 in
theorem w_1212 : Cond.fieldLink "StyleCourtModel" 145 "StyleCourtModel" "testNumber" "[I" ∈ xws := xws_in (wt_5 (List.mem_of_getElem? (i := 184) rfl)) rfl
set_option maxRecDepth 100000 in
theorem w_1213 : Cond.fieldLink "StyleCourtModel" 373 "StyleCourtModel" "props" "I" ∈ xws := xws_in (wt_5 (List.mem_of_getElem? (i := 185) rfl)) rfl
set_option maxRecDepth 100000 in
theorem w_1214 : Cond.fieldLink "StyleCourtModel" 370 "StyleCourtModel" "names" "I" ∈ xws := xws_in (wt_5 (List.mem_of_getElem? (i := 186) rfl)) rfl
set_option maxRecDepth 100000 in
theorem w_1215 : Cond.fieldLink "StyleCourtModel" 148 "StyleCourtModel" "propName" "[I" ∈ xws := xws_in (wt_5 (List.mem_of_getElem? (i := 187) rfl)) rfl
set_option maxRecDepth 100000 in
theorem w_1216 : Cond.fieldLink "StyleCourtModel" 151 "StyleCourtModel" "propBody" "[I" ∈ xws := xws_in (wt_5 (List.mem_of_getElem? (i := 188) rfl)) rfl
set_option maxRecDepth 100000 in
theorem w_1217 : Cond.fieldLink "StyleCourtModel" 154 "StyleCourtModel" "propKind" "[I" ∈ xws := xws_in (wt_5 (List.mem_of_getElem? (i := 189) rfl)) rfl
set_option maxRecDepth 100000 in
theorem w_1218 : Cond.fieldLink "StyleCourtModel" 157 "StyleCourtModel" "propAt" "[I" ∈ xws := xws_in (wt_5 (List.mem_of_getElem? (i := 190) rfl)) rfl
set_option maxRecDepth 100000 in
theorem w_1219 : Cond.fieldLink "StyleCourtModel" 160 "StyleCourtModel" "propLong" "[I" ∈ xws := xws_in (wt_5 (List.mem_of_getElem? (i := 191) rfl)) rfl
set_option maxRecDepth 100000 in
theorem w_1220 : Cond.fieldLink "StyleCourtModel" 163 "StyleCourtModel" "propNumber" "[I" ∈ xws := xws_in (wt_5 (List.mem_of_getElem? (i := 192) rfl)) rfl
set_option maxRecDepth 100000 in
theorem w_1221 : Cond.fieldLink "StyleCourtModel" 166 "StyleCourtModel" "propFirst" "[Z" ∈ xws := xws_in (wt_5 (List.mem_of_getElem? (i := 193) rfl)) rfl
set_option maxRecDepth 100000 in
theorem w_1222 : Cond.fieldLink "StyleCourtModel" 169 "StyleCourtModel" "knownAt" "[I" ∈ xws := xws_in (wt_5 (List.mem_of_getElem? (i := 194) rfl)) rfl
set_option maxRecDepth 100000 in
theorem w_1223 : Cond.fieldLink "StyleCourtModel" 172 "StyleCourtModel" "knownLong" "[I" ∈ xws := xws_in (wt_5 (List.mem_of_getElem? (i := 195) rfl)) rfl
set_option maxRecDepth 100000 in
theorem w_1224 : Cond.fieldLink "StyleCourtModel" 391 "StyleCourtModel" "styleLong" "I" ∈ xws := xws_in (wt_5 (List.mem_of_getElem? (i := 196) rfl)) rfl
set_option maxRecDepth 100000 in
theorem w_1225 : Cond.fieldLink "StyleCourtModel" 175 "StyleCourtModel" "good" "[Z" ∈ xws := xws_in (wt_5 (List.mem_of_getElem? (i := 197) rfl)) rfl
set_option maxRecDepth 100000 in
theorem w_1226 : Cond.fieldLink "StyleCourtModel" 178 "StyleCourtModel" "ahead" "[Z" ∈ xws := xws_in (wt_5 (List.mem_of_getElem? (i := 198) rfl)) rfl
set_option maxRecDepth 100000 in
theorem w_1227 : Cond.fieldLink "StyleCourtModel" 181 "StyleCourtModel" "isFit" "[Z" ∈ xws := xws_in (wt_5 (List.mem_of_getElem? (i := 199) rfl)) rfl
set_option maxRecDepth 100000 in
theorem w_1228 : Cond.fieldLink "StyleCourtModel" 184 "StyleCourtModel" "way" "[I" ∈ xws := xws_in (wt_5 (List.mem_of_getElem? (i := 200) rfl)) rfl
set_option maxRecDepth 100000 in
theorem w_1229 : Cond.fieldLink "StyleCourtModel" 446 "StyleCourtModel" "latestHeavy" "I" ∈ xws := xws_in (wt_5 (List.mem_of_getElem? (i := 201) rfl)) rfl
set_option maxRecDepth 100000 in
theorem w_1401 : Cond.arrayClass .boolean ∈ xws := xws_in (wt_6 (List.mem_of_getElem? (i := 133) rfl)) rfl
set_option maxRecDepth 100000 in
theorem w_1402 : Cond.methodLink "StyleCourtLaw" 69 y_Mo_thrown ∈ xws := xws_in (wt_6 (List.mem_of_getElem? (i := 134) rfl)) rfl
set_option maxRecDepth 100000 in
theorem w_1403 : Cond.instanceMethod y_Mo_thrown ∈ xws := xws_in (wt_6 (List.mem_of_getElem? (i := 135) rfl)) rfl
set_option maxRecDepth 100000 in
theorem w_1404 : Cond.selects "StyleCourtModel" y_Mo_thrown y_Mo_thrown ∈ xws := xws_in (wt_6 (List.mem_of_getElem? (i := 136) rfl)) rfl
set_option maxRecDepth 100000 in
theorem w_1405 : Cond.code y_Mo_thrown prog_14_method_2_code 1 (some .int) ∈ xws := xws_in (wt_6 (List.mem_of_getElem? (i := 137) rfl)) rfl
set_option maxRecDepth 100000 in
theorem w_1406 : Cond.methodLink "StyleCourtLaw" 68 y_Mo_feed ∈ xws := xws_in (wt_6 (List.mem_of_getElem? (i := 138) rfl)) rfl
set_option maxRecDepth 100000 in
theorem w_1407 : Cond.instanceMethod y_Mo_feed ∈ xws := xws_in (wt_6 (List.mem_of_getElem? (i := 139) rfl)) rfl
set_option maxRecDepth 100000 in
theorem w_1408 : Cond.selects "StyleCourtModel" y_Mo_feed y_Mo_feed ∈ xws := xws_in (wt_6 (List.mem_of_getElem? (i := 140) rfl)) rfl
set_option maxRecDepth 100000 in
theorem w_1409 : Cond.code y_Mo_feed prog_14_method_8_code 6 (some .int) ∈ xws := xws_in (wt_6 (List.mem_of_getElem? (i := 141) rfl)) rfl
set_option maxRecDepth 100000 in
theorem w_1410 : Cond.methodLink "StyleCourtModel" 193 y_Mo_refuse ∈ xws := xws_in (wt_6 (List.mem_of_getElem? (i := 142) rfl)) rfl
set_option maxRecDepth 100000 in
theorem w_1412 : Cond.instanceMethod y_Mo_refuse ∈ xws := xws_in (wt_6 (List.mem_of_getElem? (i := 144) rfl)) rfl
set_option maxRecDepth 100000 in
theorem w_1413 : Cond.code y_Mo_refuse prog_14_method_3_code 2 (some .int) ∈ xws := xws_in (wt_6 (List.mem_of_getElem? (i := 145) rfl)) rfl
set_option maxRecDepth 100000 in
theorem w_1414 : Cond.methodLink "StyleCourtModel" 197 y_Mo_four ∈ xws := xws_in (wt_6 (List.mem_of_getElem? (i := 146) rfl)) rfl
set_option maxRecDepth 100000 in
theorem w_1416 : Cond.instanceMethod y_Mo_four ∈ xws := xws_in (wt_6 (List.mem_of_getElem? (i := 148) rfl)) rfl
set_option maxRecDepth 100000 in
theorem w_1417 : Cond.code y_Mo_four prog_14_method_9_code 3 none ∈ xws := xws_in (wt_6 (List.mem_of_getElem? (i := 149) rfl)) rfl
set_option maxRecDepth 100000 in
theorem w_1418 : Cond.methodLink "StyleCourtLaw" 75 y_Mo_end ∈ xws := xws_in (wt_6 (List.mem_of_getElem? (i := 150) rfl)) rfl
set_option maxRecDepth 100000 in
theorem w_1419 : Cond.instanceMethod y_Mo_end ∈ xws := xws_in (wt_6 (List.mem_of_getElem? (i := 151) rfl)) rfl
set_option maxRecDepth 100000 in
theorem w_1420 : Cond.selects "StyleCourtModel" y_Mo_end y_Mo_end ∈ xws := xws_in (wt_6 (List.mem_of_getElem? (i := 152) rfl)) rfl
set_option maxRecDepth 100000 in
theorem w_1421 : Cond.code y_Mo_end prog_14_method_10_code 2 (some .int) ∈ xws := xws_in (wt_6 (List.mem_of_getElem? (i := 153) rfl)) rfl
set_option maxRecDepth 100000 in
theorem w_1422 : Cond.methodLink "StyleCourtModel" 201 y_Mo_in ∈ xws := xws_in (wt_6 (List.mem_of_getElem? (i := 154) rfl)) rfl
set_option maxRecDepth 100000 in
theorem w_1423 : Cond.static y_Mo_in ∈ xws := xws_in (wt_6 (List.mem_of_getElem? (i := 155) rfl)) rfl
set_option maxRecDepth 100000 in
theorem w_1424 : Cond.code y_Mo_in prog_14_method_4_code 3 (some .boolean) ∈ xws := xws_in (wt_6 (List.mem_of_getElem? (i := 156) rfl)) rfl
set_option maxRecDepth 100000 in
theorem w_1425 : Cond.methodLink "StyleCourtLaw" 79 y_Mo_source ∈ xws := xws_in (wt_6 (List.mem_of_getElem? (i := 157) rfl)) rfl
set_option maxRecDepth 100000 in
theorem w_1426 : Cond.instanceMethod y_Mo_source ∈ xws := xws_in (wt_6 (List.mem_of_getElem? (i := 158) rfl)) rfl
set_option maxRecDepth 100000 in
theorem w_1427 : Cond.selects "StyleCourtModel" y_Mo_source y_Mo_source ∈ xws := xws_in (wt_6 (List.mem_of_getElem? (i := 159) rfl)) rfl
set_option maxRecDepth 100000 in
theorem w_1428 : Cond.code y_Mo_source prog_14_method_30_code 3 (some .int) ∈ xws := xws_in (wt_6 (List.mem_of_getElem? (i := 160) rfl)) rfl
set_option maxRecDepth 100000 in
theorem w_1429 : Cond.methodLink "StyleCourtModel" 305 y_Mo_take ∈ xws := xws_in (wt_6 (List.mem_of_getElem? (i := 161) rfl)) rfl
set_option maxRecDepth 100000 in
theorem w_1431 : Cond.instanceMethod y_Mo_take ∈ xws := xws_in (wt_6 (List.mem_of_getElem? (i := 163) rfl)) rfl
set_option maxRecDepth 100000 in
theorem w_1432 : Cond.code y_Mo_take prog_14_method_11_code 3 none ∈ xws := xws_in (wt_6 (List.mem_of_getElem? (i := 164) rfl)) rfl
set_option maxRecDepth 100000 in
theorem w_1433 : Cond.methodLink "StyleCourtModel" 308 y_Mo_readSource ∈ xws := xws_in (wt_6 (List.mem_of_getElem? (i := 165) rfl)) rfl
set_option maxRecDepth 100000 in
theorem w_1435 : Cond.instanceMethod y_Mo_readSource ∈ xws := xws_in (wt_6 (List.mem_of_getElem? (i := 167) rfl)) rfl
set_option maxRecDepth 100000 in
theorem w_1436 : Cond.code y_Mo_readSource prog_14_method_29_code 4 none ∈ xws := xws_in (wt_6 (List.mem_of_getElem? (i := 168) rfl)) rfl
set_option maxRecDepth 100000 in
theorem w_1437 : Cond.methodLink "StyleCourtModel" 214 y_Mo_byteAt ∈ xws := xws_in (wt_6 (List.mem_of_getElem? (i := 169) rfl)) rfl
set_option maxRecDepth 100000 in
theorem w_1439 : Cond.instanceMethod y_Mo_byteAt ∈ xws := xws_in (wt_6 (List.mem_of_getElem? (i := 171) rfl)) rfl
set_option maxRecDepth 100000 in
theorem w_1440 : Cond.code y_Mo_byteAt prog_14_method_13_code 2 (some .int) ∈ xws := xws_in (wt_6 (List.mem_of_getElem? (i := 172) rfl)) rfl
set_option maxRecDepth 100000 in
theorem w_1441 : Cond.methodLink "StyleCourtModel" 287 y_Mo_closed ∈ xws := xws_in (wt_6 (List.mem_of_getElem? (i := 173) rfl)) rfl
set_option maxRecDepth 100000 in
theorem w_1443 : Cond.instanceMethod y_Mo_closed ∈ xws := xws_in (wt_6 (List.mem_of_getElem? (i := 175) rfl)) rfl
set_option maxRecDepth 100000 in
theorem w_1444 : Cond.code y_Mo_closed prog_14_method_28_code 4 (some .int) ∈ xws := xws_in (wt_6 (List.mem_of_getElem? (i := 176) rfl)) rfl
set_option maxRecDepth 100000 in
theorem w_1445 : Cond.methodLink "StyleCourtModel" 221 y_Mo_wrong ∈ xws := xws_in (wt_6 (List.mem_of_getElem? (i := 177) rfl)) rfl
set_option maxRecDepth 100000 in
theorem w_1447 : Cond.instanceMethod y_Mo_wrong ∈ xws := xws_in (wt_6 (List.mem_of_getElem? (i := 179) rfl)) rfl
set_option maxRecDepth 100000 in
theorem w_1448 : Cond.code y_Mo_wrong prog_14_method_12_code 2 none ∈ xws := xws_in (wt_6 (List.mem_of_getElem? (i := 180) rfl)) rfl
set_option maxRecDepth 100000 in
theorem w_1449 : Cond.methodLink "StyleCourtModel" 251 y_Mo_nameFrom ∈ xws := xws_in (wt_6 (List.mem_of_getElem? (i := 181) rfl)) rfl
set_option maxRecDepth 100000 in
theorem w_1451 : Cond.instanceMethod y_Mo_nameFrom ∈ xws := xws_in (wt_6 (List.mem_of_getElem? (i := 183) rfl)) rfl
set_option maxRecDepth 100000 in
theorem w_1452 : Cond.code y_Mo_nameFrom prog_14_method_16_code 3 (some .int) ∈ xws := xws_in (wt_6 (List.mem_of_getElem? (i := 184) rfl)) rfl
set_option maxRecDepth 100000 in
theorem w_1453 : Cond.methodLink "StyleCourtModel" 217 y_Mo_isSmall ∈ xws := xws_in (wt_6 (List.mem_of_getElem? (i := 185) rfl)) rfl
set_option maxRecDepth 100000 in
theorem w_1454 : Cond.static y_Mo_isSmall ∈ xws := xws_in (wt_6 (List.mem_of_getElem? (i := 186) rfl)) rfl
set_option maxRecDepth 100000 in
theorem w_1455 : Cond.code y_Mo_isSmall prog_14_method_5_code 1 (some .boolean) ∈ xws := xws_in (wt_6 (List.mem_of_getElem? (i := 187) rfl)) rfl
set_option maxRecDepth 100000 in
theorem w_1456 : Cond.methodLink "StyleCourtModel" 224 y_Mo_isDigit ∈ xws := xws_in (wt_6 (List.mem_of_getElem? (i := 188) rfl)) rfl
set_option maxRecDepth 100000 in
theorem w_1457 : Cond.static y_Mo_isDigit ∈ xws := xws_in (wt_6 (List.mem_of_getElem? (i := 189) rfl)) rfl
set_option maxRecDepth 100000 in
theorem w_1458 : Cond.code y_Mo_isDigit prog_14_method_6_code 1 (some .boolean) ∈ xws := xws_in (wt_6 (List.mem_of_getElem? (i := 190) rfl)) rfl
set_option maxRecDepth 100000 in
theorem w_1459 : Cond.methodLink "StyleCourtModel" 239 y_Mo_same ∈ xws := xws_in (wt_6 (List.mem_of_getElem? (i := 191) rfl)) rfl
set_option maxRecDepth 100000 in
theorem w_1461 : Cond.instanceMethod y_Mo_same ∈ xws := xws_in (wt_6 (List.mem_of_getElem? (i := 193) rfl)) rfl
set_option maxRecDepth 100000 in
theorem w_1462 : Cond.code y_Mo_same prog_14_method_14_code 6 (some .boolean) ∈ xws := xws_in (wt_6 (List.mem_of_getElem? (i := 194) rfl)) rfl
set_option maxRecDepth 100000 in
theorem w_1463 : Cond.methodLink "StyleCourtModel" 266 y_Mo_blanks ∈ xws := xws_in (wt_6 (List.mem_of_getElem? (i := 195) rfl)) rfl
set_option maxRecDepth 100000 in
theorem w_1465 : Cond.instanceMethod y_Mo_blanks ∈ xws := xws_in (wt_6 (List.mem_of_getElem? (i := 197) rfl)) rfl
set_option maxRecDepth 100000 in
theorem w_1466 : Cond.code y_Mo_blanks prog_14_method_18_code 1 none ∈ xws := xws_in (wt_6 (List.mem_of_getElem? (i := 198) rfl)) rfl
set_option maxRecDepth 100000 in
theorem w_1467 : Cond.methodLink "StyleCourtModel" 230 y_Mo_isBlank ∈ xws := xws_in (wt_6 (List.mem_of_getElem? (i := 199) rfl)) rfl
set_option maxRecDepth 100000 in
theorem w_1468 : Cond.static y_Mo_isBlank ∈ xws := xws_in (wt_6 (List.mem_of_getElem? (i := 200) rfl)) rfl
set_option maxRecDepth 100000 in
theorem w_1469 : Cond.code y_Mo_isBlank prog_14_method_7_code 1 (some .boolean) ∈ xws := xws_in (wt_6 (List.mem_of_getElem? (i := 201) rfl)) rfl
set_option maxRecDepth 100000 in
theorem w_1470 : Cond.methodLink "StyleCourtModel" 290 y_Mo_comment ∈ xws := xws_in (wt_6 (List.mem_of_getElem? (i := 202) rfl)) rfl
set_option maxRecDepth 100000 in
theorem w_1472 : Cond.instanceMethod y_Mo_comment ∈ xws := xws_in (wt_6 (List.mem_of_getElem? (i := 204) rfl)) rfl
set_option maxRecDepth 100000 in
theorem w_1473 : Cond.code y_Mo_comment prog_14_method_25_code 2 none ∈ xws := xws_in (wt_6 (List.mem_of_getElem? (i := 205) rfl)) rfl
set_option maxRecDepth 100000 in
theorem w_1474 : Cond.methodLink "StyleCourtModel" 293 y_Mo_defined ∈ xws := xws_in (wt_6 (List.mem_of_getElem? (i := 206) rfl)) rfl
set_option maxRecDepth 100000 in
theorem w_1476 : Cond.instanceMethod y_Mo_defined ∈ xws := xws_in (wt_6 (List.mem_of_getElem? (i := 208) rfl)) rfl
set_option maxRecDepth 100000 in
theorem w_1477 : Cond.code y_Mo_defined prog_14_method_23_code 5 none ∈ xws := xws_in (wt_6 (List.mem_of_getElem? (i := 209) rfl)) rfl
set_option maxRecDepth 100000 in
theorem w_1478 : Cond.methodLink "StyleCourtModel" 258 y_Mo_isFixed ∈ xws := xws_in (wt_6 (List.mem_of_getElem? (i := 210) rfl)) rfl
set_option maxRecDepth 100000 in
theorem w_1480 : Cond.instanceMethod y_Mo_isFixed ∈ xws := xws_in (wt_6 (List.mem_of_getElem? (i := 212) rfl)) rfl
set_option maxRecDepth 100000 in
theorem w_1481 : Cond.code y_Mo_isFixed prog_14_method_21_code 3 (some .boolean) ∈ xws := xws_in (wt_6 (List.mem_of_getElem? (i := 213) rfl)) rfl
set_option maxRecDepth 100000 in
theorem w_1482 : Cond.constantLong "StyleCourtModel" 243 27764 ∈ xws := xws_in (wt_6 (List.mem_of_getElem? (i := 214) rfl)) rfl
set_option maxRecDepth 100000 in
theorem w_1483 : Cond.methodLink "StyleCourtModel" 245 y_Mo_isWord ∈ xws := xws_in (wt_6 (List.mem_of_getElem? (i := 215) rfl)) rfl
set_option maxRecDepth 100000 in
theorem w_1485 : Cond.instanceMethod y_Mo_isWord ∈ xws := xws_in (wt_6 (List.mem_of_getElem? (i := 217) rfl)) rfl
set_option maxRecDepth 100000 in
theorem w_1486 : Cond.code y_Mo_isWord prog_14_method_15_code 8 (some .boolean) ∈ xws := xws_in (wt_6 (List.mem_of_getElem? (i := 218) rfl)) rfl
set_option maxRecDepth 100000 in
theorem w_1487 : Cond.constantLong "StyleCourtModel" 249 6385008 ∈ xws := xws_in (wt_6 (List.mem_of_getElem? (i := 219) rfl)) rfl
set_option maxRecDepth 100000 in
theorem w_1488 : Cond.methodLink "StyleCourtModel" 254 y_Mo_entity ∈ xws := xws_in (wt_6 (List.mem_of_getElem? (i := 220) rfl)) rfl
set_option maxRecDepth 100000 in
theorem w_1490 : Cond.instanceMethod y_Mo_entity ∈ xws := xws_in (wt_6 (List.mem_of_getElem? (i := 222) rfl)) rfl
set_option maxRecDepth 100000 in
theorem w_1491 : Cond.code y_Mo_entity prog_14_method_20_code 4 (some .int) ∈ xws := xws_in (wt_6 (List.mem_of_getElem? (i := 223) rfl)) rfl
set_option maxRecDepth 100000 in
theorem w_1492 : Cond.methodLink "StyleCourtModel" 269 y_Mo_stringFrom ∈ xws := xws_in (wt_6 (List.mem_of_getElem? (i := 224) rfl)) rfl
set_option maxRecDepth 100000 in
theorem w_1494 : Cond.instanceMethod y_Mo_stringFrom ∈ xws := xws_in (wt_6 (List.mem_of_getElem? (i := 226) rfl)) rfl
set_option maxRecDepth 100000 in
theorem w_1495 : Cond.code y_Mo_stringFrom prog_14_method_17_code 3 (some .int) ∈ xws := xws_in (wt_6 (List.mem_of_getElem? (i := 227) rfl)) rfl
set_option maxRecDepth 100000 in
theorem w_1496 : Cond.methodLink "StyleCourtModel" 272 y_Mo_behindString ∈ xws := xws_in (wt_6 (List.mem_of_getElem? (i := 228) rfl)) rfl
set_option maxRecDepth 100000 in
theorem w_1498 : Cond.instanceMethod y_Mo_behindString ∈ xws := xws_in (wt_6 (List.mem_of_getElem? (i := 230) rfl)) rfl
set_option maxRecDepth 100000 in
theorem w_1499 : Cond.code y_Mo_behindString prog_14_method_24_code 3 (some .int) ∈ xws := xws_in (wt_6 (List.mem_of_getElem? (i := 231) rfl)) rfl
set_option maxRecDepth 100000 in
theorem w_1500 : Cond.methodLink "StyleCourtModel" 296 y_Mo_opened ∈ xws := xws_in (wt_6 (List.mem_of_getElem? (i := 232) rfl)) rfl
set_option maxRecDepth 100000 in
theorem w_1502 : Cond.instanceMethod y_Mo_opened ∈ xws := xws_in (wt_6 (List.mem_of_getElem? (i := 234) rfl)) rfl
set_option maxRecDepth 100000 in
theorem w_1503 : Cond.code y_Mo_opened prog_14_method_26_code 8 (some .int) ∈ xws := xws_in (wt_6 (List.mem_of_getElem? (i := 235) rfl)) rfl
set_option maxRecDepth 100000 in
theorem w_1504 : Cond.methodLink "StyleCourtModel" 284 y_Mo_field ∈ xws := xws_in (wt_6 (List.mem_of_getElem? (i := 236) rfl)) rfl
set_option maxRecDepth 100000 in
theorem w_1506 : Cond.instanceMethod y_Mo_field ∈ xws := xws_in (wt_6 (List.mem_of_getElem? (i := 238) rfl)) rfl
set_option maxRecDepth 100000 in
theorem w_1507 : Cond.code y_Mo_field prog_14_method_27_code 6 none ∈ xws := xws_in (wt_6 (List.mem_of_getElem? (i := 239) rfl)) rfl
set_option maxRecDepth 100000 in
theorem w_1508 : Cond.methodLink "StyleCourtModel" 299 y_Mo_reference ∈ xws := xws_in (wt_7 (List.mem_of_getElem? (i := 0) rfl)) rfl
set_option maxRecDepth 100000 in
theorem w_1510 : Cond.instanceMethod y_Mo_reference ∈ xws := xws_in (wt_7 (List.mem_of_getElem? (i := 2) rfl)) rfl
set_option maxRecDepth 100000 in
theorem w_1511 : Cond.code y_Mo_reference prog_14_method_22_code 7 none ∈ xws := xws_in (wt_7 (List.mem_of_getElem? (i := 3) rfl)) rfl
set_option maxRecDepth 100000 in
theorem w_1512 : Cond.methodLink "StyleCourtModel" 262 y_Mo_piece ∈ xws := xws_in (wt_7 (List.mem_of_getElem? (i := 4) rfl)) rfl
set_option maxRecDepth 100000 in
theorem w_1514 : Cond.instanceMethod y_Mo_piece ∈ xws := xws_in (wt_7 (List.mem_of_getElem? (i := 6) rfl)) rfl
set_option maxRecDepth 100000 in
theorem w_1515 : Cond.code y_Mo_piece prog_14_method_19_code 4 none ∈ xws := xws_in (wt_7 (List.mem_of_getElem? (i := 7) rfl)) rfl
set_option maxRecDepth 100000 in
theorem w_1516 : Cond.methodLink "StyleCourtLaw" 82 y_Mo_style ∈ xws := xws_in (wt_7 (List.mem_of_getElem? (i := 8) rfl)) rfl
set_option maxRecDepth 100000 in
theorem w_1517 : Cond.instanceMethod y_Mo_style ∈ xws := xws_in (wt_7 (List.mem_of_getElem? (i := 9) rfl)) rfl
set_option maxRecDepth 100000 in
theorem w_1518 : Cond.selects "StyleCourtModel" y_Mo_style y_Mo_style ∈ xws := xws_in (wt_7 (List.mem_of_getElem? (i := 10) rfl)) rfl
set_option maxRecDepth 100000 in
theorem w_1519 : Cond.code y_Mo_style prog_14_method_43_code 3 (some .int) ∈ xws := xws_in (wt_7 (List.mem_of_getElem? (i := 11) rfl)) rfl
set_option maxRecDepth 100000 in
theorem w_1520 : Cond.methodLink "StyleCourtModel" 394 y_Mo_readStyle ∈ xws := xws_in (wt_7 (List.mem_of_getElem? (i := 12) rfl)) rfl
set_option maxRecDepth 100000 in
theorem w_1522 : Cond.instanceMethod y_Mo_readStyle ∈ xws := xws_in (wt_7 (List.mem_of_getElem? (i := 14) rfl)) rfl
set_option maxRecDepth 100000 in
theorem w_1523 : Cond.code y_Mo_readStyle prog_14_method_42_code 4 none ∈ xws := xws_in (wt_7 (List.mem_of_getElem? (i := 15) rfl)) rfl
set_option maxRecDepth 100000 in
theorem w_1524 : Cond.methodLink "StyleCourtModel" 335 y_Mo_next ∈ xws := xws_in (wt_7 (List.mem_of_getElem? (i := 16) rfl)) rfl
set_option maxRecDepth 100000 in
theorem w_1526 : Cond.instanceMethod y_Mo_next ∈ xws := xws_in (wt_7 (List.mem_of_getElem? (i := 18) rfl)) rfl
set_option maxRecDepth 100000 in
theorem w_1527 : Cond.code y_Mo_next prog_14_method_31_code 2 none ∈ xws := xws_in (wt_7 (List.mem_of_getElem? (i := 19) rfl)) rfl
set_option maxRecDepth 100000 in
theorem w_1528 : Cond.methodLink "StyleCourtModel" 385 y_Mo_selector ∈ xws := xws_in (wt_7 (List.mem_of_getElem? (i := 20) rfl)) rfl
set_option maxRecDepth 100000 in
theorem w_1530 : Cond.instanceMethod y_Mo_selector ∈ xws := xws_in (wt_7 (List.mem_of_getElem? (i := 22) rfl)) rfl
set_option maxRecDepth 100000 in
theorem w_1531 : Cond.code y_Mo_selector prog_14_method_38_code 3 none ∈ xws := xws_in (wt_7 (List.mem_of_getElem? (i := 23) rfl)) rfl
set_option maxRecDepth 100000 in
theorem w_1532 : Cond.methodLink "StyleCourtModel" 366 y_Mo_step ∈ xws := xws_in (wt_7 (List.mem_of_getElem? (i := 24) rfl)) rfl
set_option maxRecDepth 100000 in
theorem w_1534 : Cond.instanceMethod y_Mo_step ∈ xws := xws_in (wt_7 (List.mem_of_getElem? (i := 26) rfl)) rfl
set_option maxRecDepth 100000 in
theorem w_1535 : Cond.code y_Mo_step prog_14_method_37_code 4 none ∈ xws := xws_in (wt_7 (List.mem_of_getElem? (i := 27) rfl)) rfl
set_option maxRecDepth 100000 in
theorem w_1536 : Cond.methodLink "StyleCourtModel" 332 y_Mo_isSign ∈ xws := xws_in (wt_7 (List.mem_of_getElem? (i := 28) rfl)) rfl
set_option maxRecDepth 100000 in
theorem w_1538 : Cond.instanceMethod y_Mo_isSign ∈ xws := xws_in (wt_7 (List.mem_of_getElem? (i := 30) rfl)) rfl
set_option maxRecDepth 100000 in
theorem w_1539 : Cond.code y_Mo_isSign prog_14_method_32_code 2 (some .boolean) ∈ xws := xws_in (wt_7 (List.mem_of_getElem? (i := 31) rfl)) rfl
set_option maxRecDepth 100000 in
theorem w_1540 : Cond.methodLink "StyleCourtModel" 360 y_Mo_bracket ∈ xws := xws_in (wt_7 (List.mem_of_getElem? (i := 32) rfl)) rfl
set_option maxRecDepth 100000 in
theorem w_1542 : Cond.instanceMethod y_Mo_bracket ∈ xws := xws_in (wt_7 (List.mem_of_getElem? (i := 34) rfl)) rfl
set_option maxRecDepth 100000 in
theorem w_1543 : Cond.code y_Mo_bracket prog_14_method_35_code 1 none ∈ xws := xws_in (wt_7 (List.mem_of_getElem? (i := 35) rfl)) rfl
set_option maxRecDepth 100000 in
theorem w_1544 : Cond.methodLink "StyleCourtModel" 338 y_Mo_needKind ∈ xws := xws_in (wt_7 (List.mem_of_getElem? (i := 36) rfl)) rfl
set_option maxRecDepth 100000 in
theorem w_1546 : Cond.instanceMethod y_Mo_needKind ∈ xws := xws_in (wt_7 (List.mem_of_getElem? (i := 38) rfl)) rfl
set_option maxRecDepth 100000 in
theorem w_1547 : Cond.code y_Mo_needKind prog_14_method_34_code 2 none ∈ xws := xws_in (wt_7 (List.mem_of_getElem? (i := 39) rfl)) rfl
set_option maxRecDepth 100000 in
theorem w_1548 : Cond.methodLink "StyleCourtModel" 344 y_Mo_need ∈ xws := xws_in (wt_7 (List.mem_of_getElem? (i := 40) rfl)) rfl
set_option maxRecDepth 100000 in
theorem w_1550 : Cond.instanceMethod y_Mo_need ∈ xws := xws_in (wt_7 (List.mem_of_getElem? (i := 42) rfl)) rfl
set_option maxRecDepth 100000 in
theorem w_1551 : Cond.code y_Mo_need prog_14_method_33_code 2 none ∈ xws := xws_in (wt_7 (List.mem_of_getElem? (i := 43) rfl)) rfl
set_option maxRecDepth 100000 in
theorem w_1552 : Cond.methodLink "StyleCourtModel" 363 y_Mo_colon ∈ xws := xws_in (wt_7 (List.mem_of_getElem? (i := 44) rfl)) rfl
set_option maxRecDepth 100000 in
theorem w_1554 : Cond.instanceMethod y_Mo_colon ∈ xws := xws_in (wt_7 (List.mem_of_getElem? (i := 46) rfl)) rfl
set_option maxRecDepth 100000 in
theorem w_1555 : Cond.code y_Mo_colon prog_14_method_36_code 4 none ∈ xws := xws_in (wt_7 (List.mem_of_getElem? (i := 47) rfl)) rfl
set_option maxRecDepth 100000 in
theorem w_1556 : Cond.constantLong "StyleCourtModel" 347 439855772532 ∈ xws := xws_in (wt_7 (List.mem_of_getElem? (i := 48) rfl)) rfl
set_option maxRecDepth 100000 in
theorem w_1557 : Cond.constantLong "StyleCourtModel" 349 1818325876 ∈ xws := xws_in (wt_7 (List.mem_of_getElem? (i := 49) rfl)) rfl
set_option maxRecDepth 100000 in
theorem w_1558 : Cond.constantLong "StyleCourtModel" 351 435627783289 ∈ xws := xws_in (wt_7 (List.mem_of_getElem? (i := 50) rfl)) rfl
set_option maxRecDepth 100000 in
theorem w_1559 : Cond.constantLong "StyleCourtModel" 353 7238760 ∈ xws := xws_in (wt_7 (List.mem_of_getElem? (i := 51) rfl)) rfl
set_option maxRecDepth 100000 in
theorem w_1560 : Cond.constantLong "StyleCourtModel" 355 7237492 ∈ xws := xws_in (wt_7 (List.mem_of_getElem? (i := 52) rfl)) rfl
set_option maxRecDepth 100000 in
theorem w_1561 : Cond.methodLink "StyleCourtModel" 388 y_Mo_body ∈ xws := xws_in (wt_7 (List.mem_of_getElem? (i := 53) rfl)) rfl
set_option maxRecDepth 100000 in
theorem w_1563 : Cond.instanceMethod y_Mo_body ∈ xws := xws_in (wt_7 (List.mem_of_getElem? (i := 55) rfl)) rfl
set_option maxRecDepth 100000 in
theorem w_1564 : Cond.code y_Mo_body prog_14_method_41_code 3 none ∈ xws := xws_in (wt_7 (List.mem_of_getElem? (i := 56) rfl)) rfl
set_option maxRecDepth 100000 in
theorem w_1565 : Cond.methodLink "StyleCourtModel" 376 y_Mo_known ∈ xws := xws_in (wt_7 (List.mem_of_getElem? (i := 57) rfl)) rfl
set_option maxRecDepth 100000 in
theorem w_1567 : Cond.instanceMethod y_Mo_known ∈ xws := xws_in (wt_7 (List.mem_of_getElem? (i := 59) rfl)) rfl
set_option maxRecDepth 100000 in
theorem w_1568 : Cond.code y_Mo_known prog_14_method_39_code 4 (some .int) ∈ xws := xws_in (wt_7 (List.mem_of_getElem? (i := 60) rfl)) rfl
set_option maxRecDepth 100000 in
theorem w_1569 : Cond.methodLink "StyleCourtModel" 379 y_Mo_oneValue ∈ xws := xws_in (wt_7 (List.mem_of_getElem? (i := 61) rfl)) rfl
set_option maxRecDepth 100000 in
theorem w_1571 : Cond.instanceMethod y_Mo_oneValue ∈ xws := xws_in (wt_7 (List.mem_of_getElem? (i := 63) rfl)) rfl
set_option maxRecDepth 100000 in
theorem w_1572 : Cond.code y_Mo_oneValue prog_14_method_40_code 4 none ∈ xws := xws_in (wt_7 (List.mem_of_getElem? (i := 64) rfl)) rfl
set_option maxRecDepth 100000 in
theorem w_1573 : Cond.methodLink "StyleCourtLaw" 86 y_Mo_place ∈ xws := xws_in (wt_7 (List.mem_of_getElem? (i := 65) rfl)) rfl
set_option maxRecDepth 100000 in
theorem w_1574 : Cond.instanceMethod y_Mo_place ∈ xws := xws_in (wt_7 (List.mem_of_getElem? (i := 66) rfl)) rfl
set_option maxRecDepth 100000 in
theorem w_1575 : Cond.selects "StyleCourtModel" y_Mo_place y_Mo_place ∈ xws := xws_in (wt_7 (List.mem_of_getElem? (i := 67) rfl)) rfl
set_option maxRecDepth 100000 in
theorem w_1576 : Cond.code y_Mo_place prog_14_method_44_code 1 (some .int) ∈ xws := xws_in (wt_7 (List.mem_of_getElem? (i := 68) rfl)) rfl
set_option maxRecDepth 100000 in
theorem w_1577 : Cond.methodLink "StyleCourtLaw" 92 y_Mo_by ∈ xws := xws_in (wt_7 (List.mem_of_getElem? (i := 69) rfl)) rfl
set_option maxRecDepth 100000 in
theorem w_1578 : Cond.instanceMethod y_Mo_by ∈ xws := xws_in (wt_7 (List.mem_of_getElem? (i := 70) rfl)) rfl
set_option maxRecDepth 100000 in
theorem w_1579 : Cond.selects "StyleCourtModel" y_Mo_by y_Mo_by ∈ xws := xws_in (wt_7 (List.mem_of_getElem? (i := 71) rfl)) rfl
set_option maxRecDepth 100000 in
theorem w_1580 : Cond.code y_Mo_by prog_14_method_53_code 3 (some .int) ∈ xws := xws_in (wt_7 (List.mem_of_getElem? (i := 72) rfl)) rfl
set_option maxRecDepth 100000 in
theorem w_1581 : Cond.methodLink "StyleCourtModel" 414 y_Mo_asked ∈ xws := xws_in (wt_7 (List.mem_of_getElem? (i := 73) rfl)) rfl
set_option maxRecDepth 100000 in
theorem w_1583 : Cond.instanceMethod y_Mo_asked ∈ xws := xws_in (wt_7 (List.mem_of_getElem? (i := 75) rfl)) rfl
set_option maxRecDepth 100000 in
theorem w_1584 : Cond.code y_Mo_asked prog_14_method_52_code 1 (some .int) ∈ xws := xws_in (wt_7 (List.mem_of_getElem? (i := 76) rfl)) rfl
set_option maxRecDepth 100000 in
theorem w_1585 : Cond.constant "StyleCourtModel" 413 40000 ∈ xws := xws_in (wt_7 (List.mem_of_getElem? (i := 77) rfl)) rfl
set_option maxRecDepth 100000 in
theorem w_1586 : Cond.methodLink "StyleCourtModel" 418 y_Mo_isThere ∈ xws := xws_in (wt_7 (List.mem_of_getElem? (i := 78) rfl)) rfl
set_option maxRecDepth 100000 in
theorem w_1588 : Cond.instanceMethod y_Mo_isThere ∈ xws := xws_in (wt_7 (List.mem_of_getElem? (i := 80) rfl)) rfl
set_option maxRecDepth 100000 in
theorem w_1589 : Cond.code y_Mo_isThere prog_14_method_51_code 2 (some .boolean) ∈ xws := xws_in (wt_7 (List.mem_of_getElem? (i := 81) rfl)) rfl
set_option maxRecDepth 100000 in
theorem w_1590 : Cond.methodLink "StyleCourtModel" 421 y_Mo_counts ∈ xws := xws_in (wt_7 (List.mem_of_getElem? (i := 82) rfl)) rfl
set_option maxRecDepth 100000 in
theorem w_1592 : Cond.instanceMethod y_Mo_counts ∈ xws := xws_in (wt_7 (List.mem_of_getElem? (i := 84) rfl)) rfl
set_option maxRecDepth 100000 in
theorem w_1593 : Cond.code y_Mo_counts prog_14_method_50_code 8 (some .int) ∈ xws := xws_in (wt_7 (List.mem_of_getElem? (i := 85) rfl)) rfl
set_option maxRecDepth 100000 in
theorem w_1594 : Cond.methodLink "StyleCourtModel" 410 y_Mo_selectorFits ∈ xws := xws_in (wt_7 (List.mem_of_getElem? (i := 86) rfl)) rfl
set_option maxRecDepth 100000 in
theorem w_1596 : Cond.instanceMethod y_Mo_selectorFits ∈ xws := xws_in (wt_7 (List.mem_of_getElem? (i := 88) rfl)) rfl
set_option maxRecDepth 100000 in
theorem w_1597 : Cond.code y_Mo_selectorFits prog_14_method_49_code 8 (some .boolean) ∈ xws := xws_in (wt_7 (List.mem_of_getElem? (i := 89) rfl)) rfl
set_option maxRecDepth 100000 in
theorem w_1598 : Cond.methodLink "StyleCourtModel" 407 y_Mo_stepFits ∈ xws := xws_in (wt_7 (List.mem_of_getElem? (i := 90) rfl)) rfl
set_option maxRecDepth 100000 in
theorem w_1600 : Cond.instanceMethod y_Mo_stepFits ∈ xws := xws_in (wt_7 (List.mem_of_getElem? (i := 92) rfl)) rfl
set_option maxRecDepth 100000 in
theorem w_1601 : Cond.code y_Mo_stepFits prog_14_method_48_code 4 (some .boolean) ∈ xws := xws_in (wt_7 (List.mem_of_getElem? (i := 93) rfl)) rfl
set_option maxRecDepth 100000 in
theorem w_1602 : Cond.methodLink "StyleCourtModel" 404 y_Mo_isSo ∈ xws := xws_in (wt_7 (List.mem_of_getElem? (i := 94) rfl)) rfl
set_option maxRecDepth 100000 in
theorem w_1604 : Cond.instanceMethod y_Mo_isSo ∈ xws := xws_in (wt_7 (List.mem_of_getElem? (i := 96) rfl)) rfl
set_option maxRecDepth 100000 in
theorem w_1605 : Cond.code y_Mo_isSo prog_14_method_47_code 5 (some .boolean) ∈ xws := xws_in (wt_7 (List.mem_of_getElem? (i := 97) rfl)) rfl
set_option maxRecDepth 100000 in
theorem w_1606 : Cond.methodLink "StyleCourtModel" 397 y_Mo_fieldOf ∈ xws := xws_in (wt_7 (List.mem_of_getElem? (i := 98) rfl)) rfl
set_option maxRecDepth 100000 in
theorem w_1608 : Cond.instanceMethod y_Mo_fieldOf ∈ xws := xws_in (wt_7 (List.mem_of_getElem? (i := 100) rfl)) rfl
set_option maxRecDepth 100000 in
theorem w_1609 : Cond.code y_Mo_fieldOf prog_14_method_45_code 5 (some .int) ∈ xws := xws_in (wt_7 (List.mem_of_getElem? (i := 101) rfl)) rfl
set_option maxRecDepth 100000 in
theorem w_1610 : Cond.methodLink "StyleCourtModel" 401 y_Mo_among ∈ xws := xws_in (wt_7 (List.mem_of_getElem? (i := 102) rfl)) rfl
set_option maxRecDepth 100000 in
theorem w_1612 : Cond.instanceMethod y_Mo_among ∈ xws := xws_in (wt_7 (List.mem_of_getElem? (i := 104) rfl)) rfl
set_option maxRecDepth 100000 in
theorem w_1613 : Cond.code y_Mo_among prog_14_method_46_code 2 (some .int) ∈ xws := xws_in (wt_7 (List.mem_of_getElem? (i := 105) rfl)) rfl
set_option maxRecDepth 100000 in
theorem w_1614 : Cond.methodLink "StyleCourtLaw" 89 y_Mo_property ∈ xws := xws_in (wt_7 (List.mem_of_getElem? (i := 106) rfl)) rfl
set_option maxRecDepth 100000 in
theorem w_1615 : Cond.instanceMethod y_Mo_property ∈ xws := xws_in (wt_7 (List.mem_of_getElem? (i := 107) rfl)) rfl
set_option maxRecDepth 100000 in
theorem w_1616 : Cond.selects "StyleCourtModel" y_Mo_property y_Mo_property ∈ xws := xws_in (wt_7 (List.mem_of_getElem? (i := 108) rfl)) rfl
set_option maxRecDepth 100000 in
theorem w_1617 : Cond.code y_Mo_property prog_14_method_56_code 10 (some .int) ∈ xws := xws_in (wt_7 (List.mem_of_getElem? (i := 109) rfl)) rfl
set_option maxRecDepth 100000 in
theorem w_1618 : Cond.constantLong "StyleCourtModel" 433 30064 ∈ xws := xws_in (wt_7 (List.mem_of_getElem? (i := 110) rfl)) rfl
set_option maxRecDepth 100000 in
theorem w_1619 : Cond.constantLong "StyleCourtModel" 435 100 ∈ xws := xws_in (wt_7 (List.mem_of_getElem? (i := 111) rfl)) rfl
set_option maxRecDepth 100000 in
theorem w_1620 : Cond.constantLong "StyleCourtModel" 437 9999999 ∈ xws := xws_in (wt_7 (List.mem_of_getElem? (i := 112) rfl)) rfl
set_option maxRecDepth 100000 in
theorem w_1621 : Cond.methodLink "StyleCourtModel" 439 y_Mo_sayNumber ∈ xws := xws_in (wt_7 (List.mem_of_getElem? (i := 113) rfl)) rfl
set_option maxRecDepth 100000 in
theorem w_1623 : Cond.instanceMethod y_Mo_sayNumber ∈ xws := xws_in (wt_7 (List.mem_of_getElem? (i := 115) rfl)) rfl
set_option maxRecDepth 100000 in
theorem w_1624 : Cond.code y_Mo_sayNumber prog_14_method_55_code 5 none ∈ xws := xws_in (wt_7 (List.mem_of_getElem? (i := 116) rfl)) rfl
set_option maxRecDepth 100000 in
theorem w_1625 : Cond.constantLong "StyleCourtModel" 427 9 ∈ xws := xws_in (wt_7 (List.mem_of_getElem? (i := 117) rfl)) rfl
set_option maxRecDepth 100000 in
theorem w_1626 : Cond.constantLong "StyleCourtModel" 429 10 ∈ xws := xws_in (wt_7 (List.mem_of_getElem? (i := 118) rfl)) rfl
set_option maxRecDepth 100000 in
theorem w_1627 : Cond.constantLong "StyleCourtModel" 431 48 ∈ xws := xws_in (wt_7 (List.mem_of_getElem? (i := 119) rfl)) rfl
set_option maxRecDepth 100000 in
theorem w_1628 : Cond.methodLink "StyleCourtModel" 443 y_Mo_say ∈ xws := xws_in (wt_7 (List.mem_of_getElem? (i := 120) rfl)) rfl
set_option maxRecDepth 100000 in
theorem w_1630 : Cond.instanceMethod y_Mo_say ∈ xws := xws_in (wt_7 (List.mem_of_getElem? (i := 122) rfl)) rfl
set_option maxRecDepth 100000 in
theorem w_1631 : Cond.code y_Mo_say prog_14_method_54_code 4 none ∈ xws := xws_in (wt_7 (List.mem_of_getElem? (i := 123) rfl)) rfl
set_option maxRecDepth 100000 in
theorem w_1632 : Cond.methodLink "StyleCourtLaw" 95 y_Mo_select ∈ xws := xws_in (wt_7 (List.mem_of_getElem? (i := 124) rfl)) rfl
set_option maxRecDepth 100000 in
theorem w_1633 : Cond.instanceMethod y_Mo_select ∈ xws := xws_in (wt_7 (List.mem_of_getElem? (i := 125) rfl)) rfl
set_option maxRecDepth 100000 in
theorem w_1634 : Cond.selects "StyleCourtModel" y_Mo_select y_Mo_select ∈ xws := xws_in (wt_7 (List.mem_of_getElem? (i := 126) rfl)) rfl
set_option maxRecDepth 100000 in
theorem w_1635 : Cond.code y_Mo_select prog_14_method_57_code 4 (some .int) ∈ xws := xws_in (wt_7 (List.mem_of_getElem? (i := 127) rfl)) rfl
set_option maxRecDepth 100000 in
theorem w_1636 : Cond.methodLink "StyleCourtLaw" 98 y_Mo_found ∈ xws := xws_in (wt_7 (List.mem_of_getElem? (i := 128) rfl)) rfl
set_option maxRecDepth 100000 in
theorem w_1637 : Cond.instanceMethod y_Mo_found ∈ xws := xws_in (wt_7 (List.mem_of_getElem? (i := 129) rfl)) rfl
set_option maxRecDepth 100000 in
theorem w_1638 : Cond.selects "StyleCourtModel" y_Mo_found y_Mo_found ∈ xws := xws_in (wt_7 (List.mem_of_getElem? (i := 130) rfl)) rfl
set_option maxRecDepth 100000 in
theorem w_1639 : Cond.code y_Mo_found prog_14_method_58_code 2 (some .int) ∈ xws := xws_in (wt_7 (List.mem_of_getElem? (i := 131) rfl)) rfl
set_option maxRecDepth 100000 in
theorem w_1640 : Cond.methodLink "StyleCourtLaw" 102 y_Mo_fits ∈ xws := xws_in (wt_7 (List.mem_of_getElem? (i := 132) rfl)) rfl
set_option maxRecDepth 100000 in
theorem w_1641 : Cond.instanceMethod y_Mo_fits ∈ xws := xws_in (wt_7 (List.mem_of_getElem? (i := 133) rfl)) rfl
set_option maxRecDepth 100000 in
theorem w_1642 : Cond.selects "StyleCourtModel" y_Mo_fits y_Mo_fits ∈ xws := xws_in (wt_7 (List.mem_of_getElem? (i := 134) rfl)) rfl
set_option maxRecDepth 100000 in
theorem w_1643 : Cond.code y_Mo_fits prog_14_method_59_code 3 (some .int) ∈ xws := xws_in (wt_7 (List.mem_of_getElem? (i := 135) rfl)) rfl
set_option maxRecDepth 100000 in
theorem w_1644 : Cond.methodLink "StyleCourtLaw" 105 y_Mo_element ∈ xws := xws_in (wt_7 (List.mem_of_getElem? (i := 136) rfl)) rfl
set_option maxRecDepth 100000 in
theorem w_1645 : Cond.instanceMethod y_Mo_element ∈ xws := xws_in (wt_7 (List.mem_of_getElem? (i := 137) rfl)) rfl
set_option maxRecDepth 100000 in
theorem w_1646 : Cond.selects "StyleCourtModel" y_Mo_element y_Mo_element ∈ xws := xws_in (wt_7 (List.mem_of_getElem? (i := 138) rfl)) rfl
set_option maxRecDepth 100000 in
theorem w_1647 : Cond.code y_Mo_element prog_14_method_60_code 3 (some .int) ∈ xws := xws_in (wt_7 (List.mem_of_getElem? (i := 139) rfl)) rfl
set_option maxRecDepth 100000 in
theorem w_1648 : Cond.methodLink "StyleCourtLaw" 108 y_Mo_tell ∈ xws := xws_in (wt_7 (List.mem_of_getElem? (i := 140) rfl)) rfl
set_option maxRecDepth 100000 in
theorem w_1649 : Cond.instanceMethod y_Mo_tell ∈ xws := xws_in (wt_7 (List.mem_of_getElem? (i := 141) rfl)) rfl
set_option maxRecDepth 100000 in
theorem w_1650 : Cond.selects "StyleCourtModel" y_Mo_tell y_Mo_tell ∈ xws := xws_in (wt_7 (List.mem_of_getElem? (i := 142) rfl)) rfl
set_option maxRecDepth 100000 in
theorem w_1651 : Cond.code y_Mo_tell prog_14_method_61_code 6 (some .int) ∈ xws := xws_in (wt_7 (List.mem_of_getElem? (i := 143) rfl)) rfl
set_option maxRecDepth 100000 in
theorem w_1652 : Cond.constantLong "StyleCourtModel" 449 16384 ∈ xws := xws_in (wt_7 (List.mem_of_getElem? (i := 144) rfl)) rfl
set_option maxRecDepth 100000 in
theorem w_1653 : Cond.methodLink "StyleCourtLaw" 111 y_Mo_word ∈ xws := xws_in (wt_7 (List.mem_of_getElem? (i := 145) rfl)) rfl
set_option maxRecDepth 100000 in
theorem w_1654 : Cond.instanceMethod y_Mo_word ∈ xws := xws_in (wt_7 (List.mem_of_getElem? (i := 146) rfl)) rfl
set_option maxRecDepth 100000 in
theorem w_1655 : Cond.selects "StyleCourtModel" y_Mo_word y_Mo_word ∈ xws := xws_in (wt_7 (List.mem_of_getElem? (i := 147) rfl)) rfl
set_option maxRecDepth 100000 in
theorem w_1656 : Cond.code y_Mo_word prog_14_method_62_code 5 (some .long) ∈ xws := xws_in (wt_7 (List.mem_of_getElem? (i := 148) rfl)) rfl
set_option maxRecDepth 100000 in
theorem w_1657 : Cond.methodLink "StyleCourtLaw" 114 y_Mo_count ∈ xws := xws_in (wt_7 (List.mem_of_getElem? (i := 149) rfl)) rfl
set_option maxRecDepth 100000 in
theorem w_1658 : Cond.instanceMethod y_Mo_count ∈ xws := xws_in (wt_7 (List.mem_of_getElem? (i := 150) rfl)) rfl
set_option maxRecDepth 100000 in
theorem w_1659 : Cond.selects "StyleCourtModel" y_Mo_count y_Mo_count ∈ xws := xws_in (wt_7 (List.mem_of_getElem? (i := 151) rfl)) rfl
set_option maxRecDepth 100000 in
theorem w_1660 : Cond.code y_Mo_count prog_14_method_63_code 2 (some .int) ∈ xws := xws_in (wt_7 (List.mem_of_getElem? (i := 152) rfl)) rfl
set_option maxRecDepth 100000 in
theorem w_1661 : Cond.arrayClass .long ∈ xws := xws_in (wt_7 (List.mem_of_getElem? (i := 153) rfl)) rfl
set_option maxRecDepth 100000 in
theorem w_1672 : Cond.selects "[Ljava/lang/Object;" y_Oj_getClass y_Oj_getClass ∈ xws := xws_in (wt_7 (List.mem_of_getElem? (i := 164) rfl)) rfl
set_option maxRecDepth 100000 in
theorem w_1673 : Cond.declares y_Oj_getClass ∈ xws := xws_in (wt_7 (List.mem_of_getElem? (i := 165) rfl)) rfl
set_option maxRecDepth 100000 in
theorem w_1688 : Cond.fieldLink "java/lang/String" 9 "java/lang/String" "value" "[B" ∈ xws := xws_in (wt_7 (List.mem_of_getElem? (i := 180) rfl)) rfl
set_option maxRecDepth 100000 in
theorem w_1689 : Cond.fieldLink "java/lang/String" 15 "java/lang/String" "coder" "B" ∈ xws := xws_in (wt_7 (List.mem_of_getElem? (i := 181) rfl)) rfl
theorem ow_Sc_72 : ∀ a ∈ Bundle.ownAtoms "StyleCourt" 72 "java/lang/IndexOutOfBoundsException" ["java/lang/RuntimeException", "java/lang/Exception"], a ∈ xws ∨ a ∈ xhw := by
  refine xoc (Or.inl w_84) ?_
  refine xoc (Or.inl w_486) ?_
  refine xoc (Or.inl w_495) ?_
  refine xoc (Or.inl w_499) ?_
  refine xoc (Or.inl w_502) ?_
  refine xoc (Or.inl w_504) ?_
  refine xoc (Or.inl w_487) ?_
  refine xoc (Or.inl w_488) ?_
  refine xoc (Or.inl w_106) ?_
  refine xoc (Or.inl w_107) ?_
  refine xoc (Or.inl w_489) ?_
  refine xoc (Or.inl w_494) ?_
  refine xoc (Or.inl w_500) ?_
  refine xoc (Or.inl w_520) ?_
  refine xoc (Or.inl w_476) ?_
  refine xoc (Or.inl w_521) ?_
  refine xoc (Or.inl w_478) ?_
  refine xoc (Or.inl w_522) ?_
  refine xoc (Or.inl w_480) ?_
  refine xoc (Or.inl w_490) ?_
  refine xoc (Or.inr (List.mem_of_getElem? (i := 2) rfl)) ?_
  refine xoc (Or.inl w_492) ?_
  refine xoc (Or.inr (List.mem_of_getElem? (i := 3) rfl)) ?_
  refine xoc (Or.inl w_482) ?_
  refine xoc (Or.inl w_516) ?_
  refine xoc (Or.inl w_517) ?_
  refine xoc (Or.inl w_519) ?_
  refine xoc (Or.inl w_482) ?_
  refine xoc (Or.inl w_507) ?_
  refine xoc (Or.inl w_508) ?_
  refine xoc (Or.inl w_509) ?_
  refine xoc (Or.inl w_510) ?_
  refine xoc (Or.inl w_468) ?_
  refine xoc (Or.inl w_510) ?_
  refine xoc (Or.inl w_511) ?_
  refine xoc (Or.inl w_512) ?_
  refine xoc (Or.inl w_513) ?_
  refine xoc (Or.inl w_470) ?_
  refine xoc (Or.inl w_513) ?_
  refine xoc (Or.inl w_514) ?_
  refine xoc (Or.inl w_515) ?_
  refine xoc (Or.inl w_516) ?_
  refine xoc (Or.inl w_472) ?_
  refine xoc (Or.inl w_506) ?_
  refine xoc (Or.inl w_465) ?_
  refine xoc (Or.inl w_466) ?_
  refine xoc (Or.inl w_473) ?_
  refine xoc (Or.inl w_474) ?_
  refine xoc (Or.inl w_475) ?_
  refine xoc (Or.inl w_477) ?_
  refine xoc (Or.inl w_479) ?_
  refine xoc (Or.inl w_481) ?_
  refine xoc (Or.inr (List.mem_of_getElem? (i := 0) rfl)) ?_
  refine xoc (Or.inr (List.mem_of_getElem? (i := 1) rfl)) ?_
  refine xoc (Or.inl w_485) ?_
  refine xoc (Or.inl w_484) ?_
  refine xoc (Or.inl w_483) ?_
  exact fun _ h => absurd h List.not_mem_nil
theorem ow_Sc_83 : ∀ a ∈ Bundle.ownAtoms "StyleCourt" 83 "java/lang/IllegalArgumentException" ["java/lang/RuntimeException", "java/lang/Exception"], a ∈ xws ∨ a ∈ xhw := by
  refine xoc (Or.inl w_84) ?_
  refine xoc (Or.inl w_486) ?_
  refine xoc (Or.inl w_495) ?_
  refine xoc (Or.inl w_499) ?_
  refine xoc (Or.inl w_502) ?_
  refine xoc (Or.inl w_504) ?_
  refine xoc (Or.inl w_487) ?_
  refine xoc (Or.inl w_488) ?_
  refine xoc (Or.inl w_106) ?_
  refine xoc (Or.inl w_107) ?_
  refine xoc (Or.inl w_489) ?_
  refine xoc (Or.inl w_494) ?_
  refine xoc (Or.inl w_500) ?_
  refine xoc (Or.inl w_520) ?_
  refine xoc (Or.inl w_476) ?_
  refine xoc (Or.inl w_521) ?_
  refine xoc (Or.inl w_478) ?_
  refine xoc (Or.inl w_522) ?_
  refine xoc (Or.inl w_480) ?_
  refine xoc (Or.inl w_490) ?_
  refine xoc (Or.inr (List.mem_of_getElem? (i := 2) rfl)) ?_
  refine xoc (Or.inl w_492) ?_
  refine xoc (Or.inr (List.mem_of_getElem? (i := 3) rfl)) ?_
  refine xoc (Or.inl w_482) ?_
  refine xoc (Or.inl w_516) ?_
  refine xoc (Or.inl w_517) ?_
  refine xoc (Or.inl w_519) ?_
  refine xoc (Or.inl w_482) ?_
  refine xoc (Or.inl w_554) ?_
  refine xoc (Or.inl w_555) ?_
  refine xoc (Or.inl w_556) ?_
  refine xoc (Or.inl w_510) ?_
  refine xoc (Or.inl w_468) ?_
  refine xoc (Or.inl w_510) ?_
  refine xoc (Or.inl w_511) ?_
  refine xoc (Or.inl w_512) ?_
  refine xoc (Or.inl w_513) ?_
  refine xoc (Or.inl w_470) ?_
  refine xoc (Or.inl w_513) ?_
  refine xoc (Or.inl w_514) ?_
  refine xoc (Or.inl w_515) ?_
  refine xoc (Or.inl w_516) ?_
  refine xoc (Or.inl w_472) ?_
  refine xoc (Or.inl w_553) ?_
  refine xoc (Or.inl w_544) ?_
  refine xoc (Or.inl w_545) ?_
  refine xoc (Or.inl w_546) ?_
  refine xoc (Or.inl w_497) ?_
  refine xoc (Or.inl w_547) ?_
  refine xoc (Or.inl w_548) ?_
  refine xoc (Or.inl w_549) ?_
  refine xoc (Or.inl w_550) ?_
  refine xoc (Or.inr (List.mem_of_getElem? (i := 0) rfl)) ?_
  refine xoc (Or.inr (List.mem_of_getElem? (i := 1) rfl)) ?_
  refine xoc (Or.inl w_485) ?_
  refine xoc (Or.inl w_484) ?_
  refine xoc (Or.inl w_551) ?_
  exact fun _ h => absurd h List.not_mem_nil
theorem ow_Rd_32 : ∀ a ∈ Bundle.ownAtoms "StyleCourt$Reader" 32 "java/lang/UnsupportedOperationException" ["java/lang/RuntimeException", "java/lang/Exception"], a ∈ xws ∨ a ∈ xhw := by
  refine xoc (Or.inl w_84) ?_
  refine xoc (Or.inl w_486) ?_
  refine xoc (Or.inl w_495) ?_
  refine xoc (Or.inl w_499) ?_
  refine xoc (Or.inl w_502) ?_
  refine xoc (Or.inl w_504) ?_
  refine xoc (Or.inl w_487) ?_
  refine xoc (Or.inl w_488) ?_
  refine xoc (Or.inl w_106) ?_
  refine xoc (Or.inl w_107) ?_
  refine xoc (Or.inl w_489) ?_
  refine xoc (Or.inl w_494) ?_
  refine xoc (Or.inl w_500) ?_
  refine xoc (Or.inl w_520) ?_
  refine xoc (Or.inl w_476) ?_
  refine xoc (Or.inl w_521) ?_
  refine xoc (Or.inl w_478) ?_
  refine xoc (Or.inl w_522) ?_
  refine xoc (Or.inl w_480) ?_
  refine xoc (Or.inl w_490) ?_
  refine xoc (Or.inr (List.mem_of_getElem? (i := 2) rfl)) ?_
  refine xoc (Or.inl w_492) ?_
  refine xoc (Or.inr (List.mem_of_getElem? (i := 3) rfl)) ?_
  refine xoc (Or.inl w_482) ?_
  refine xoc (Or.inl w_516) ?_
  refine xoc (Or.inl w_517) ?_
  refine xoc (Or.inl w_519) ?_
  refine xoc (Or.inl w_482) ?_
  refine xoc (Or.inl w_603) ?_
  refine xoc (Or.inl w_604) ?_
  refine xoc (Or.inl w_605) ?_
  refine xoc (Or.inl w_510) ?_
  refine xoc (Or.inl w_468) ?_
  refine xoc (Or.inl w_510) ?_
  refine xoc (Or.inl w_511) ?_
  refine xoc (Or.inl w_512) ?_
  refine xoc (Or.inl w_513) ?_
  refine xoc (Or.inl w_470) ?_
  refine xoc (Or.inl w_513) ?_
  refine xoc (Or.inl w_514) ?_
  refine xoc (Or.inl w_515) ?_
  refine xoc (Or.inl w_516) ?_
  refine xoc (Or.inl w_472) ?_
  refine xoc (Or.inl w_602) ?_
  refine xoc (Or.inl w_593) ?_
  refine xoc (Or.inl w_594) ?_
  refine xoc (Or.inl w_595) ?_
  refine xoc (Or.inl w_498) ?_
  refine xoc (Or.inl w_596) ?_
  refine xoc (Or.inl w_597) ?_
  refine xoc (Or.inl w_598) ?_
  refine xoc (Or.inl w_599) ?_
  refine xoc (Or.inr (List.mem_of_getElem? (i := 0) rfl)) ?_
  refine xoc (Or.inr (List.mem_of_getElem? (i := 1) rfl)) ?_
  refine xoc (Or.inl w_485) ?_
  refine xoc (Or.inl w_484) ?_
  refine xoc (Or.inl w_600) ?_
  exact fun _ h => absurd h List.not_mem_nil
set_option maxRecDepth 100000 in
theorem wc_0 : Cond.castable "StyleCourt" "java/lang/Object" ∈ xws := xws_in (wt_7 (List.mem_of_getElem? (i := 166) rfl)) rfl
set_option maxRecDepth 100000 in
theorem wc_1 : Cond.castable "StyleCourt$Reader" "java/lang/Object" ∈ xws := xws_in (wt_7 (List.mem_of_getElem? (i := 167) rfl)) rfl
set_option maxRecDepth 100000 in
theorem wc_2 : Cond.castable "StyleCourt$Slice" "java/lang/Object" ∈ xws := xws_in (wt_7 (List.mem_of_getElem? (i := 170) rfl)) rfl
set_option maxRecDepth 100000 in
theorem wc_3 : Cond.castable "StyleCourt$Named" "java/lang/Object" ∈ xws := xws_in (wt_7 (List.mem_of_getElem? (i := 171) rfl)) rfl
set_option maxRecDepth 100000 in
theorem wc_4 : Cond.castable "StyleCourt$Element" "java/lang/Object" ∈ xws := xws_in (wt_7 (List.mem_of_getElem? (i := 169) rfl)) rfl
set_option maxRecDepth 100000 in
theorem wc_5 : Cond.castable "StyleCourt$Source" "java/lang/Object" ∈ xws := xws_in (wt_7 (List.mem_of_getElem? (i := 168) rfl)) rfl
set_option maxRecDepth 100000 in
theorem wc_6 : Cond.castable "StyleCourt$Condition" "java/lang/Object" ∈ xws := xws_in (wt_7 (List.mem_of_getElem? (i := 177) rfl)) rfl
set_option maxRecDepth 100000 in
theorem wc_7 : Cond.castable "StyleCourt$Step" "java/lang/Object" ∈ xws := xws_in (wt_7 (List.mem_of_getElem? (i := 176) rfl)) rfl
set_option maxRecDepth 100000 in
theorem wc_8 : Cond.castable "StyleCourt$Selector" "java/lang/Object" ∈ xws := xws_in (wt_7 (List.mem_of_getElem? (i := 175) rfl)) rfl
set_option maxRecDepth 100000 in
theorem wc_9 : Cond.castable "StyleCourt$Told" "java/lang/Object" ∈ xws := xws_in (wt_7 (List.mem_of_getElem? (i := 178) rfl)) rfl
set_option maxRecDepth 100000 in
theorem wc_10 : Cond.castable "StyleCourt$Rule" "java/lang/Object" ∈ xws := xws_in (wt_7 (List.mem_of_getElem? (i := 174) rfl)) rfl
set_option maxRecDepth 100000 in
theorem wc_11 : Cond.castable "StyleCourt$Style" "java/lang/Object" ∈ xws := xws_in (wt_7 (List.mem_of_getElem? (i := 172) rfl)) rfl
set_option maxRecDepth 100000 in
theorem wc_13 : Cond.castable "StyleCourtModel" "java/lang/Object" ∈ xws := xws_in (wt_7 (List.mem_of_getElem? (i := 173) rfl)) rfl
def xok4 (k : Nat) : Bool := Nat.beq k 0 || Nat.beq k 1 || Nat.beq k 2 || Nat.beq k 3 || Nat.beq k 4 || Nat.beq k 5 || Nat.beq k 6 || Nat.beq k 7 || Nat.beq k 8 || Nat.beq k 9 || Nat.beq k 10 || Nat.beq k 11 || Nat.beq k 13
theorem xok4_ok : ∀ ci, xok4 ci = true → ci < 100 ∧ ∃ r0, xcl[ci]? = some r0 ∧ (r0.1 = "java/lang/Object" ∨ Cond.castable r0.1 "java/lang/Object" ∈ xws) := by
  intro ci h
  simp only [xok4, Bool.or_eq_true] at h
  rcases h with (((((((((((h | h) | h) | h) | h) | h) | h) | h) | h) | h) | h) | h) | h
  · rw [Nat.eq_of_beq_eq_true h]; exact ⟨by decide, _, rfl, Or.inr wc_0⟩
  · rw [Nat.eq_of_beq_eq_true h]; exact ⟨by decide, _, rfl, Or.inr wc_1⟩
  · rw [Nat.eq_of_beq_eq_true h]; exact ⟨by decide, _, rfl, Or.inr wc_2⟩
  · rw [Nat.eq_of_beq_eq_true h]; exact ⟨by decide, _, rfl, Or.inr wc_3⟩
  · rw [Nat.eq_of_beq_eq_true h]; exact ⟨by decide, _, rfl, Or.inr wc_4⟩
  · rw [Nat.eq_of_beq_eq_true h]; exact ⟨by decide, _, rfl, Or.inr wc_5⟩
  · rw [Nat.eq_of_beq_eq_true h]; exact ⟨by decide, _, rfl, Or.inr wc_6⟩
  · rw [Nat.eq_of_beq_eq_true h]; exact ⟨by decide, _, rfl, Or.inr wc_7⟩
  · rw [Nat.eq_of_beq_eq_true h]; exact ⟨by decide, _, rfl, Or.inr wc_8⟩
  · rw [Nat.eq_of_beq_eq_true h]; exact ⟨by decide, _, rfl, Or.inr wc_9⟩
  · rw [Nat.eq_of_beq_eq_true h]; exact ⟨by decide, _, rfl, Or.inr wc_10⟩
  · rw [Nat.eq_of_beq_eq_true h]; exact ⟨by decide, _, rfl, Or.inr wc_11⟩
  · rw [Nat.eq_of_beq_eq_true h]; exact ⟨by decide, _, rfl, Or.inr wc_13⟩
def xok5 (k : Nat) : Bool := Nat.beq k 4
theorem xok5_ok : ∀ ci, xok5 ci = true → ci < 100 ∧ ∃ r0, xcl[ci]? = some r0 ∧ (r0.1 = "StyleCourt$Element" ∨ Cond.castable r0.1 "StyleCourt$Element" ∈ xws) := by
  intro ci h
  rw [show ci = 4 from Nat.eq_of_beq_eq_true h]; exact ⟨by decide, _, rfl, Or.inl rfl⟩
