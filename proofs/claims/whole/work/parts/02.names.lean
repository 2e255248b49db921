def xF0 : u_T := fun k => match k with
  | 0 => ("StyleCourt", "tape", "[B", true)
  | 1 => ("StyleCourt", "tapeLength", "I", false)
  | 2 => ("StyleCourt", "out", "[B", true)
  | 3 => ("StyleCourt", "outLength", "I", false)
  | 4 => ("StyleCourt", "foundOnes", "[I", true)
  | 5 => ("StyleCourt", "foundCount", "I", false)
  | 6 => ("StyleCourt", "askedWeight", "I", false)
  | 7 => ("StyleCourt", "latestReader", "LStyleCourt$Reader;", false)
  | 8 => ("StyleCourt", "latestSource", "LStyleCourt$Source;", false)
  | 9 => ("StyleCourt", "latestStyle", "LStyleCourt$Style;", false)
  | 10 => ("StyleCourt", "reach", "[LStyleCourt$Element;", true)
  | _ => ("StyleCourt", "shares", "[I", true)
def xT0 : Nat → FieldType := fun k => match k with
  | 0 => .array .byte
  | 1 => .int
  | 2 => .array .byte
  | 3 => .int
  | 4 => .array .int
  | 5 => .int
  | 6 => .int
  | 7 => .object "StyleCourt$Reader"
  | 8 => .object "StyleCourt$Source"
  | 9 => .object "StyleCourt$Style"
  | 10 => .array (.object "StyleCourt$Element")
  | _ => .array .int
def xF1 : u_T := fun k => match k with
  | 0 => ("StyleCourt$Reader", "bytes", "[B", true)
  | 1 => ("StyleCourt$Reader", "at", "I", false)
  | _ => ("StyleCourt$Reader", "brokenAt", "I", false)
def xT1 : Nat → FieldType := fun k => match k with
  | 0 => .array .byte
  | 1 => .int
  | _ => .int
def xF2 : u_T := fun k => match k with
  | 0 => ("StyleCourt$Slice", "bytes", "[B", true)
  | 1 => ("StyleCourt$Slice", "from", "I", true)
  | _ => ("StyleCourt$Slice", "length", "I", true)
def xT2 : Nat → FieldType := fun k => match k with
  | 0 => .array .byte
  | 1 => .int
  | _ => .int
def xF3 : u_T := fun k => match k with
  | 0 => ("StyleCourt$Named", "name", "LStyleCourt$Slice;", true)
  | _ => ("StyleCourt$Named", "text", "LStyleCourt$Slice;", true)
def xT3 : Nat → FieldType := fun k => match k with
  | 0 => .object "StyleCourt$Slice"
  | _ => .object "StyleCourt$Slice"
def xF4 : u_T := fun k => match k with
  | 0 => ("StyleCourt$Element", "name", "LStyleCourt$Slice;", true)
  | 1 => ("StyleCourt$Element", "parent", "LStyleCourt$Element;", true)
  | 2 => ("StyleCourt$Element", "before", "LStyleCourt$Element;", true)
  | 3 => ("StyleCourt$Element", "index", "I", true)
  | 4 => ("StyleCourt$Element", "number", "I", true)
  | 5 => ("StyleCourt$Element", "depth", "I", true)
  | 6 => ("StyleCourt$Element", "begin", "I", true)
  | 7 => ("StyleCourt$Element", "fields", "Ljava/util/ArrayList;", true)
  | 8 => ("StyleCourt$Element", "lastChild", "LStyleCourt$Element;", false)
  | 9 => ("StyleCourt$Element", "children", "I", false)
  | 10 => ("StyleCourt$Element", "followed", "Z", false)
  | 11 => ("StyleCourt$Element", "hasText", "Z", false)
  | 12 => ("StyleCourt$Element", "end", "I", false)
  | 13 => ("StyleCourt$Element", "firstText", "I", false)
  | _ => ("StyleCourt$Element", "endText", "I", false)
def xT4 : Nat → FieldType := fun k => match k with
  | 0 => .object "StyleCourt$Slice"
  | 1 => .object "StyleCourt$Element"
  | 2 => .object "StyleCourt$Element"
  | 3 => .int
  | 4 => .int
  | 5 => .int
  | 6 => .int
  | 7 => .object "java/util/ArrayList"
  | 8 => .object "StyleCourt$Element"
  | 9 => .int
  | 10 => .boolean
  | 11 => .boolean
  | 12 => .int
  | 13 => .int
  | _ => .int
def xF5 : u_T := fun k => match k with
  | 0 => ("StyleCourt$Source", "elements", "Ljava/util/ArrayList;", true)
  | 1 => ("StyleCourt$Source", "texts", "Ljava/util/ArrayList;", true)
  | 2 => ("StyleCourt$Source", "entities", "Ljava/util/ArrayList;", true)
  | 3 => ("StyleCourt$Source", "root", "LStyleCourt$Element;", true)
  | _ => ("StyleCourt$Source", "open", "LStyleCourt$Element;", false)
def xT5 : Nat → FieldType := fun k => match k with
  | 0 => .object "java/util/ArrayList"
  | 1 => .object "java/util/ArrayList"
  | 2 => .object "java/util/ArrayList"
  | 3 => .object "StyleCourt$Element"
  | _ => .object "StyleCourt$Element"
def xF6 : u_T := fun k => match k with
  | 0 => ("StyleCourt$Condition", "kind", "I", false)
  | 1 => ("StyleCourt$Condition", "name", "LStyleCourt$Slice;", false)
  | 2 => ("StyleCourt$Condition", "text", "LStyleCourt$Slice;", false)
  | _ => ("StyleCourt$Condition", "number", "I", false)
def xT6 : Nat → FieldType := fun k => match k with
  | 0 => .int
  | 1 => .object "StyleCourt$Slice"
  | 2 => .object "StyleCourt$Slice"
  | _ => .int
def xF7 : u_T := fun k => match k with
  | 0 => ("StyleCourt$Step", "link", "I", true)
  | 1 => ("StyleCourt$Step", "name", "LStyleCourt$Slice;", false)
  | _ => ("StyleCourt$Step", "conditions", "Ljava/util/ArrayList;", true)
def xT7 : Nat → FieldType := fun k => match k with
  | 0 => .int
  | 1 => .object "StyleCourt$Slice"
  | _ => .object "java/util/ArrayList"
def xF8 : u_T := fun k => match k with
  | 0 => ("StyleCourt$Selector", "steps", "Ljava/util/ArrayList;", true)
  | _ => ("StyleCourt$Selector", "weight", "I", false)
def xT8 : Nat → FieldType := fun k => match k with
  | 0 => .object "java/util/ArrayList"
  | _ => .int
def xF9 : u_T := fun k => match k with
  | 0 => ("StyleCourt$Told", "index", "I", true)
  | 1 => ("StyleCourt$Told", "which", "I", true)
  | 2 => ("StyleCourt$Told", "kind", "I", false)
  | 3 => ("StyleCourt$Told", "text", "LStyleCourt$Slice;", false)
  | 4 => ("StyleCourt$Told", "number", "I", false)
  | 5 => ("StyleCourt$Told", "share", "I", false)
  | _ => ("StyleCourt$Told", "strong", "Z", false)
def xT9 : Nat → FieldType := fun k => match k with
  | 0 => .int
  | 1 => .int
  | 2 => .int
  | 3 => .object "StyleCourt$Slice"
  | 4 => .int
  | 5 => .int
  | _ => .boolean
def xF10 : u_T := fun k => match k with
  | 0 => ("StyleCourt$Rule", "selectors", "Ljava/util/ArrayList;", true)
  | _ => ("StyleCourt$Rule", "allTold", "Ljava/util/ArrayList;", true)
def xT10 : Nat → FieldType := fun k => match k with
  | 0 => .object "java/util/ArrayList"
  | _ => .object "java/util/ArrayList"
def xF11 : u_T := fun k => match k with
  | 0 => ("StyleCourt$Style", "rules", "Ljava/util/ArrayList;", true)
  | 1 => ("StyleCourt$Style", "selectors", "Ljava/util/ArrayList;", true)
  | 2 => ("StyleCourt$Style", "names", "Ljava/util/ArrayList;", true)
  | _ => ("StyleCourt$Style", "toldCount", "I", false)
def xT11 : Nat → FieldType := fun k => match k with
  | 0 => .object "java/util/ArrayList"
  | 1 => .object "java/util/ArrayList"
  | 2 => .object "java/util/ArrayList"
  | _ => .int
def xF12 : u_T := fun k => match k with
  | 0 => ("java/util/AbstractList", "modCount", "I", false)
  | 1 => ("java/util/ArrayList", "elementData", "[Ljava/lang/Object;", false)
  | _ => ("java/util/ArrayList", "size", "I", false)
def xT12 : Nat → FieldType := fun k => match k with
  | 0 => .int
  | 1 => .array (.object "java/lang/Object")
  | _ => .int
def xF13 : u_T := fun k => match k with
  | 0 => ("StyleCourtModel", "thrown", "I", false)
  | 1 => ("StyleCourtModel", "tape", "[I", true)
  | 2 => ("StyleCourtModel", "taped", "I", false)
  | 3 => ("StyleCourtModel", "out", "[I", true)
  | 4 => ("StyleCourtModel", "outLong", "I", false)
  | 5 => ("StyleCourtModel", "place", "I", false)
  | 6 => ("StyleCourtModel", "fault", "I", false)
  | 7 => ("StyleCourtModel", "text", "[I", true)
  | 8 => ("StyleCourtModel", "base", "I", false)
  | 9 => ("StyleCourtModel", "length", "I", false)
  | 10 => ("StyleCourtModel", "elements", "I", false)
  | 11 => ("StyleCourtModel", "newElements", "I", false)
  | 12 => ("StyleCourtModel", "nameAt", "[I", true)
  | 13 => ("StyleCourtModel", "nameLong", "[I", true)
  | 14 => ("StyleCourtModel", "parent", "[I", true)
  | 15 => ("StyleCourtModel", "before", "[I", true)
  | 16 => ("StyleCourtModel", "many", "[I", true)
  | 17 => ("StyleCourtModel", "number", "[I", true)
  | 18 => ("StyleCourtModel", "depth", "[I", true)
  | 19 => ("StyleCourtModel", "fields", "[I", true)
  | 20 => ("StyleCourtModel", "begins", "[I", true)
  | 21 => ("StyleCourtModel", "ends", "[I", true)
  | 22 => ("StyleCourtModel", "pieceFrom", "[I", true)
  | 23 => ("StyleCourtModel", "pieceTo", "[I", true)
  | 24 => ("StyleCourtModel", "lastIn", "[I", true)
  | 25 => ("StyleCourtModel", "empty", "[Z", true)
  | 26 => ("StyleCourtModel", "fieldAt", "[I", true)
  | 27 => ("StyleCourtModel", "fieldLong", "[I", true)
  | 28 => ("StyleCourtModel", "valueAt", "[I", true)
  | 29 => ("StyleCourtModel", "valueLong", "[I", true)
  | 30 => ("StyleCourtModel", "pieceAt", "[I", true)
  | 31 => ("StyleCourtModel", "pieceLong", "[I", true)
  | 32 => ("StyleCourtModel", "pieces", "I", false)
  | 33 => ("StyleCourtModel", "entityAt", "[I", true)
  | 34 => ("StyleCourtModel", "entityLong", "[I", true)
  | 35 => ("StyleCourtModel", "entityText", "[I", true)
  | 36 => ("StyleCourtModel", "entityTextLong", "[I", true)
  | 37 => ("StyleCourtModel", "entities", "I", false)
  | 38 => ("StyleCourtModel", "at", "I", false)
  | 39 => ("StyleCourtModel", "topMany", "I", false)
  | 40 => ("StyleCourtModel", "lastTop", "I", false)
  | 41 => ("StyleCourtModel", "spare", "[I", true)
  | 42 => ("StyleCourtModel", "founds", "I", false)
  | 43 => ("StyleCourtModel", "found", "[I", true)
  | 44 => ("StyleCourtModel", "sourceLong", "I", false)
  | 45 => ("StyleCourtModel", "kind", "I", false)
  | 46 => ("StyleCourtModel", "from", "I", false)
  | 47 => ("StyleCourtModel", "to", "I", false)
  | 48 => ("StyleCourtModel", "value", "I", false)
  | 49 => ("StyleCourtModel", "sign", "I", false)
  | 50 => ("StyleCourtModel", "selectors", "I", false)
  | 51 => ("StyleCourtModel", "steps", "I", false)
  | 52 => ("StyleCourtModel", "tests", "I", false)
  | 53 => ("StyleCourtModel", "firstStep", "[I", true)
  | 54 => ("StyleCourtModel", "stepsOf", "[I", true)
  | 55 => ("StyleCourtModel", "bodyOf", "[I", true)
  | 56 => ("StyleCourtModel", "heavy", "[I", true)
  | 57 => ("StyleCourtModel", "stepAt", "[I", true)
  | 58 => ("StyleCourtModel", "stepLong", "[I", true)
  | 59 => ("StyleCourtModel", "link", "[I", true)
  | 60 => ("StyleCourtModel", "firstTest", "[I", true)
  | 61 => ("StyleCourtModel", "testsOf", "[I", true)
  | 62 => ("StyleCourtModel", "test", "[I", true)
  | 63 => ("StyleCourtModel", "testAt", "[I", true)
  | 64 => ("StyleCourtModel", "testLong", "[I", true)
  | 65 => ("StyleCourtModel", "testText", "[I", true)
  | 66 => ("StyleCourtModel", "testTextLong", "[I", true)
  | 67 => ("StyleCourtModel", "testNumber", "[I", true)
  | 68 => ("StyleCourtModel", "props", "I", false)
  | 69 => ("StyleCourtModel", "names", "I", false)
  | 70 => ("StyleCourtModel", "propName", "[I", true)
  | 71 => ("StyleCourtModel", "propBody", "[I", true)
  | 72 => ("StyleCourtModel", "propKind", "[I", true)
  | 73 => ("StyleCourtModel", "propAt", "[I", true)
  | 74 => ("StyleCourtModel", "propLong", "[I", true)
  | 75 => ("StyleCourtModel", "propNumber", "[I", true)
  | 76 => ("StyleCourtModel", "propFirst", "[Z", true)
  | 77 => ("StyleCourtModel", "knownAt", "[I", true)
  | 78 => ("StyleCourtModel", "knownLong", "[I", true)
  | 79 => ("StyleCourtModel", "styleLong", "I", false)
  | 80 => ("StyleCourtModel", "good", "[Z", true)
  | 81 => ("StyleCourtModel", "ahead", "[Z", true)
  | 82 => ("StyleCourtModel", "isFit", "[Z", true)
  | 83 => ("StyleCourtModel", "way", "[I", true)
  | _ => ("StyleCourtModel", "latestHeavy", "I", false)
def xT13 : Nat → FieldType := fun k => match k with
  | 0 => .int
  | 1 => .array .int
  | 2 => .int
  | 3 => .array .int
  | 4 => .int
  | 5 => .int
  | 6 => .int
  | 7 => .array .int
  | 8 => .int
  | 9 => .int
  | 10 => .int
  | 11 => .int
  | 12 => .array .int
  | 13 => .array .int
  | 14 => .array .int
  | 15 => .array .int
  | 16 => .array .int
  | 17 => .array .int
  | 18 => .array .int
  | 19 => .array .int
  | 20 => .array .int
  | 21 => .array .int
  | 22 => .array .int
  | 23 => .array .int
  | 24 => .array .int
  | 25 => .array .boolean
  | 26 => .array .int
  | 27 => .array .int
  | 28 => .array .int
  | 29 => .array .int
  | 30 => .array .int
  | 31 => .array .int
  | 32 => .int
  | 33 => .array .int
  | 34 => .array .int
  | 35 => .array .int
  | 36 => .array .int
  | 37 => .int
  | 38 => .int
  | 39 => .int
  | 40 => .int
  | 41 => .array .int
  | 42 => .int
  | 43 => .array .int
  | 44 => .int
  | 45 => .int
  | 46 => .int
  | 47 => .int
  | 48 => .int
  | 49 => .int
  | 50 => .int
  | 51 => .int
  | 52 => .int
  | 53 => .array .int
  | 54 => .array .int
  | 55 => .array .int
  | 56 => .array .int
  | 57 => .array .int
  | 58 => .array .int
  | 59 => .array .int
  | 60 => .array .int
  | 61 => .array .int
  | 62 => .array .int
  | 63 => .array .int
  | 64 => .array .int
  | 65 => .array .int
  | 66 => .array .int
  | 67 => .array .int
  | 68 => .int
  | 69 => .int
  | 70 => .array .int
  | 71 => .array .int
  | 72 => .array .int
  | 73 => .array .int
  | 74 => .array .int
  | 75 => .array .int
  | 76 => .array .boolean
  | 77 => .array .int
  | 78 => .array .int
  | 79 => .int
  | 80 => .array .boolean
  | 81 => .array .boolean
  | 82 => .array .boolean
  | 83 => .array .int
  | _ => .int
def xF14 : u_T := fun k => match k with
  | _ => ("", "", "", false)
def xT14 : Nat → FieldType := fun k => match k with
  | _ => .int
def xF15 : u_T := fun k => match k with
  | _ => ("", "", "", false)
def xT15 : Nat → FieldType := fun k => match k with
  | _ => .int
def xF16 : u_T := fun k => match k with
  | _ => ("", "", "", false)
def xT16 : Nat → FieldType := fun k => match k with
  | _ => .int
def xcl : List vw_C := [("StyleCourt", xF0, 12), ("StyleCourt$Reader", xF1, 3), ("StyleCourt$Slice", xF2, 3), ("StyleCourt$Named", xF3, 2), ("StyleCourt$Element", xF4, 15), ("StyleCourt$Source", xF5, 5), ("StyleCourt$Condition", xF6, 4), ("StyleCourt$Step", xF7, 3), ("StyleCourt$Selector", xF8, 2), ("StyleCourt$Told", xF9, 7), ("StyleCourt$Rule", xF10, 2), ("StyleCourt$Style", xF11, 4), ("java/util/ArrayList", xF12, 3), ("StyleCourtModel", xF13, 85), ("java/lang/IndexOutOfBoundsException", xF14, 0), ("java/lang/IllegalArgumentException", xF15, 0), ("java/lang/UnsupportedOperationException", xF16, 0)]
def xty : Nat → Nat → FieldType := fun c => match c with
  | 0 => xT0
  | 1 => xT1
  | 2 => xT2
  | 3 => xT3
  | 4 => xT4
  | 5 => xT5
  | 6 => xT6
  | 7 => xT7
  | 8 => xT8
  | 9 => xT9
  | 10 => xT10
  | 11 => xT11
  | 12 => xT12
  | 13 => xT13
  | 14 => xT14
  | 15 => xT15
  | _ => xT16
def xela : List FieldType := [.int, .byte, .long, .boolean, .object "java/lang/Object", .object "StyleCourt$Element"]
def xst : List (String × String × String) := [("StyleCourt", "KNOWN", "[B"), ("java/util/ArrayList", "DEFAULTCAPACITY_EMPTY_ELEMENTDATA", "[Ljava/lang/Object;"), ("java/lang/String", "COMPACT_STRINGS", "Z"), ("jdk/internal/util/Preconditions", "SIOOBE_FORMATTER", "Ljava/util/function/BiFunction;")]
def xsr : List (String × Nat × String) := [("StyleCourt", 70, "the tape is full"), ("StyleCourt", 81, "the tape is not that long"), ("StyleCourt$Reader", 30, "the text is broken"), ("StyleCourt$Condition", 45, "first"), ("StyleCourt$Condition", 53, "last"), ("StyleCourt$Condition", 55, "empty"), ("StyleCourt$Condition", 57, "nth"), ("StyleCourt$Condition", 62, "not"), ("StyleCourt", 254, "no such element"), ("StyleCourt$Told", 66, "up"), ("StyleCourt", 192, "not so many are found"), ("StyleCourt", 194, "no such selector"), ("StyleCourt", 221, "nothing is asked by that number"), ("StyleCourt", 223, "the element has no such part"), ("StyleCourt", 293, "the text is too long"), ("StyleCourt", 242, "no byte of what is out"), ("StyleCourt", 247, "nothing is counted by that number")]
def xgood : Cond → Bool
  | .castable _ _ => true
  | .declares _ => true
  | .methodLinkNest _ _ _ _ => true
  | .fieldLinkNest _ _ _ _ _ _ => true
  | .arrayOver (.object _) => true
  | w => goodWord w
theorem xgood_warm {w : Cond} (hg : xgood w = true) {args a' : Array Value} {s U : State} (hW : s.WarmedH U.vm) (h : w.before args s = true) : w.before a' U = true := by
  unfold xgood at hg
  split at hg
  · exact va_Nw.use rfl (va_Nw.warmC hW (va_Nw.of rfl h))
  · exact va_Nw.use rfl (va_Nw.warmD hW (va_Nw.of rfl h))
  · exact va_Nw.use rfl (va_Nw.warmM hW (va_Nw.of rfl h))
  · exact va_Nw.use rfl (va_Nw.warmF hW (va_Nw.of rfl h))
  · exact va_AO.use (va_AO.moved hW.alike (va_AO.of h))
  · exact word_at hW (good_of_word hg) h
def xws : List Cond := lw_tbl.filter xgood
theorem xws_in {w : Cond} (h : w ∈ lw_tbl) (g : xgood w = true) : w ∈ xws := List.mem_filter.mpr ⟨h, g⟩
theorem xws_at {w : Cond} (i : Nat) (h : lw_tbl[i]? = some w) (g : xgood w = true) : w ∈ xws := xws_in (List.mem_of_getElem? h) g
theorem xws_ps {ws : List Cond} (ps : List Nat) (hp : ws = ps.filterMap (fun i => lw_tbl[i]?)) (h : ws.all xgood = true) : ∀ w ∈ ws, w ∈ xws := by
  intro w hw
  have h1 := List.all_eq_true.mp h w hw
  rw [hp] at hw
  obtain ⟨i, -, hi⟩ := List.mem_filterMap.mp hw
  exact xws_in (List.mem_of_getElem? hi) h1
theorem xin_0 : ∀ w ∈ u_ws "StyleCourt" xF0 12, w ∈ xws := xws_ps [427, 429, 431, 433, 435, 437, 439, 441, 443, 445, 447, 449] (by decide +kernel) (by decide +kernel)
theorem xnm_0 : ∀ a, a < 12 → ∀ b, b < 12 → a ≠ b → (xF0 a).2.1 ≠ (xF0 b).2.1 := by decide +kernel
theorem xpd_0 : ∀ k, k < 12 → parseFieldDescriptor (xF0 k).2.2.1 = some (xT0 k) := by decide +kernel
theorem xin_1 : ∀ w ∈ u_ws "StyleCourt$Reader" xF1 3, w ∈ xws := xws_ps [145, 147, 149] (by decide +kernel) (by decide +kernel)
theorem xnm_1 : ∀ a, a < 3 → ∀ b, b < 3 → a ≠ b → (xF1 a).2.1 ≠ (xF1 b).2.1 := by decide +kernel
theorem xpd_1 : ∀ k, k < 3 → parseFieldDescriptor (xF1 k).2.2.1 = some (xT1 k) := by decide +kernel
theorem xin_2 : ∀ w ∈ u_ws "StyleCourt$Slice" xF2 3, w ∈ xws := xws_ps [203, 205, 207] (by decide +kernel) (by decide +kernel)
theorem xnm_2 : ∀ a, a < 3 → ∀ b, b < 3 → a ≠ b → (xF2 a).2.1 ≠ (xF2 b).2.1 := by decide +kernel
theorem xpd_2 : ∀ k, k < 3 → parseFieldDescriptor (xF2 k).2.2.1 = some (xT2 k) := by decide +kernel
theorem xin_3 : ∀ w ∈ u_ws "StyleCourt$Named" xF3 2, w ∈ xws := xws_ps [307, 309] (by decide +kernel) (by decide +kernel)
theorem xnm_3 : ∀ a, a < 2 → ∀ b, b < 2 → a ≠ b → (xF3 a).2.1 ≠ (xF3 b).2.1 := by decide +kernel
theorem xpd_3 : ∀ k, k < 2 → parseFieldDescriptor (xF3 k).2.2.1 = some (xT3 k) := by decide +kernel
theorem xin_4 : ∀ w ∈ u_ws "StyleCourt$Element" xF4 15, w ∈ xws := xws_ps [264, 266, 268, 270, 272, 274, 276, 278, 280, 282, 284, 286, 288, 290, 292] (by decide +kernel) (by decide +kernel)
theorem xnm_4 : ∀ a, a < 15 → ∀ b, b < 15 → a ≠ b → (xF4 a).2.1 ≠ (xF4 b).2.1 := by decide +kernel
theorem xpd_4 : ∀ k, k < 15 → parseFieldDescriptor (xF4 k).2.2.1 = some (xT4 k) := by decide +kernel
theorem xin_5 : ∀ w ∈ u_ws "StyleCourt$Source" xF5 5, w ∈ xws := xws_ps [379, 381, 383, 385, 387] (by decide +kernel) (by decide +kernel)
theorem xnm_5 : ∀ a, a < 5 → ∀ b, b < 5 → a ≠ b → (xF5 a).2.1 ≠ (xF5 b).2.1 := by decide +kernel
theorem xpd_5 : ∀ k, k < 5 → parseFieldDescriptor (xF5 k).2.2.1 = some (xT5 k) := by decide +kernel
theorem xin_6 : ∀ w ∈ u_ws "StyleCourt$Condition" xF6 4, w ∈ xws := xws_ps [810, 812, 814, 816] (by decide +kernel) (by decide +kernel)
theorem xnm_6 : ∀ a, a < 4 → ∀ b, b < 4 → a ≠ b → (xF6 a).2.1 ≠ (xF6 b).2.1 := by decide +kernel
theorem xpd_6 : ∀ k, k < 4 → parseFieldDescriptor (xF6 k).2.2.1 = some (xT6 k) := by decide +kernel
theorem xin_7 : ∀ w ∈ u_ws "StyleCourt$Step" xF7 3, w ∈ xws := xws_ps [786, 788, 790] (by decide +kernel) (by decide +kernel)
theorem xnm_7 : ∀ a, a < 3 → ∀ b, b < 3 → a ≠ b → (xF7 a).2.1 ≠ (xF7 b).2.1 := by decide +kernel
theorem xpd_7 : ∀ k, k < 3 → parseFieldDescriptor (xF7 k).2.2.1 = some (xT7 k) := by decide +kernel
theorem xin_8 : ∀ w ∈ u_ws "StyleCourt$Selector" xF8 2, w ∈ xws := xws_ps [763, 765] (by decide +kernel) (by decide +kernel)
theorem xnm_8 : ∀ a, a < 2 → ∀ b, b < 2 → a ≠ b → (xF8 a).2.1 ≠ (xF8 b).2.1 := by decide +kernel
theorem xpd_8 : ∀ k, k < 2 → parseFieldDescriptor (xF8 k).2.2.1 = some (xT8 k) := by decide +kernel
theorem xin_9 : ∀ w ∈ u_ws "StyleCourt$Told" xF9 7, w ∈ xws := xws_ps [937, 939, 941, 943, 945, 947, 949] (by decide +kernel) (by decide +kernel)
theorem xnm_9 : ∀ a, a < 7 → ∀ b, b < 7 → a ≠ b → (xF9 a).2.1 ≠ (xF9 b).2.1 := by decide +kernel
theorem xpd_9 : ∀ k, k < 7 → parseFieldDescriptor (xF9 k).2.2.1 = some (xT9 k) := by decide +kernel
theorem xin_10 : ∀ w ∈ u_ws "StyleCourt$Rule" xF10 2, w ∈ xws := xws_ps [739, 741] (by decide +kernel) (by decide +kernel)
theorem xnm_10 : ∀ a, a < 2 → ∀ b, b < 2 → a ≠ b → (xF10 a).2.1 ≠ (xF10 b).2.1 := by decide +kernel
theorem xpd_10 : ∀ k, k < 2 → parseFieldDescriptor (xF10 k).2.2.1 = some (xT10 k) := by decide +kernel
theorem xin_11 : ∀ w ∈ u_ws "StyleCourt$Style" xF11 4, w ∈ xws := xws_ps [404, 406, 408, 410] (by decide +kernel) (by decide +kernel)
theorem xnm_11 : ∀ a, a < 4 → ∀ b, b < 4 → a ≠ b → (xF11 a).2.1 ≠ (xF11 b).2.1 := by decide +kernel
theorem xpd_11 : ∀ k, k < 4 → parseFieldDescriptor (xF11 k).2.2.1 = some (xT11 k) := by decide +kernel
theorem xin_12 : ∀ w ∈ u_ws "java/util/ArrayList" xF12 3, w ∈ xws := xws_ps [183, 179, 181] (by decide +kernel) (by decide +kernel)
theorem xnm_12 : ∀ a, a < 3 → ∀ b, b < 3 → a ≠ b → (xF12 a).2.1 ≠ (xF12 b).2.1 := by decide +kernel
theorem xpd_12 : ∀ k, k < 3 → parseFieldDescriptor (xF12 k).2.2.1 = some (xT12 k) := by decide +kernel
theorem xin_13 : ∀ w ∈ u_ws "StyleCourtModel" xF13 85, w ∈ xws := xws_ps [1230, 1232, 1234, 1236, 1238, 1240, 1242, 1244, 1246, 1248, 1250, 1252, 1254, 1256, 1258, 1260, 1262, 1264, 1266, 1268, 1270, 1272, 1274, 1276, 1278, 1280, 1282, 1284, 1286, 1288, 1290, 1292, 1294, 1296, 1298, 1300, 1302, 1304, 1306, 1308, 1310, 1312, 1314, 1316, 1318, 1320, 1322, 1324, 1326, 1328, 1330, 1332, 1334, 1336, 1338, 1340, 1342, 1344, 1346, 1348, 1350, 1352, 1354, 1356, 1358, 1360, 1362, 1364, 1366, 1368, 1370, 1372, 1374, 1376, 1378, 1380, 1382, 1384, 1386, 1388, 1390, 1392, 1394, 1396, 1398] (by decide +kernel) (by decide +kernel)
theorem xnm_13 : ∀ a, a < 85 → ∀ b, b < 85 → a ≠ b → (xF13 a).2.1 ≠ (xF13 b).2.1 := by decide +kernel
theorem xpd_13 : ∀ k, k < 85 → parseFieldDescriptor (xF13 k).2.2.1 = some (xT13 k) := by decide +kernel
theorem xin_14 : ∀ w ∈ u_ws "java/lang/IndexOutOfBoundsException" xF14 0, w ∈ xws := xws_ps [] (by decide +kernel) (by decide +kernel)
theorem xnm_14 : ∀ a, a < 0 → ∀ b, b < 0 → a ≠ b → (xF14 a).2.1 ≠ (xF14 b).2.1 := by decide +kernel
theorem xpd_14 : ∀ k, k < 0 → parseFieldDescriptor (xF14 k).2.2.1 = some (xT14 k) := by decide +kernel
theorem xin_15 : ∀ w ∈ u_ws "java/lang/IllegalArgumentException" xF15 0, w ∈ xws := xws_ps [] (by decide +kernel) (by decide +kernel)
theorem xnm_15 : ∀ a, a < 0 → ∀ b, b < 0 → a ≠ b → (xF15 a).2.1 ≠ (xF15 b).2.1 := by decide +kernel
theorem xpd_15 : ∀ k, k < 0 → parseFieldDescriptor (xF15 k).2.2.1 = some (xT15 k) := by decide +kernel
theorem xin_16 : ∀ w ∈ u_ws "java/lang/UnsupportedOperationException" xF16 0, w ∈ xws := xws_ps [] (by decide +kernel) (by decide +kernel)
theorem xnm_16 : ∀ a, a < 0 → ∀ b, b < 0 → a ≠ b → (xF16 a).2.1 ≠ (xF16 b).2.1 := by decide +kernel
theorem xpd_16 : ∀ k, k < 0 → parseFieldDescriptor (xF16 k).2.2.1 = some (xT16 k) := by decide +kernel
theorem xcl_in : ∀ {ci : Nat} {r : vw_C}, xcl[ci]? = some r → ∀ w ∈ u_ws r.1 r.2.1 r.2.2, w ∈ xws
  | 0, _, h => by cases h; exact xin_0
  | 1, _, h => by cases h; exact xin_1
  | 2, _, h => by cases h; exact xin_2
  | 3, _, h => by cases h; exact xin_3
  | 4, _, h => by cases h; exact xin_4
  | 5, _, h => by cases h; exact xin_5
  | 6, _, h => by cases h; exact xin_6
  | 7, _, h => by cases h; exact xin_7
  | 8, _, h => by cases h; exact xin_8
  | 9, _, h => by cases h; exact xin_9
  | 10, _, h => by cases h; exact xin_10
  | 11, _, h => by cases h; exact xin_11
  | 12, _, h => by cases h; exact xin_12
  | 13, _, h => by cases h; exact xin_13
  | 14, _, h => by cases h; exact xin_14
  | 15, _, h => by cases h; exact xin_15
  | 16, _, h => by cases h; exact xin_16
  | n + 17, _, h => by simp [xcl] at h
theorem xcl_ty : ∀ {ci : Nat} {r : vw_C}, xcl[ci]? = some r → ∀ k, k < r.2.2 → parseFieldDescriptor (r.2.1 k).2.2.1 = some (xty ci k)
  | 0, _, h => by cases h; exact xpd_0
  | 1, _, h => by cases h; exact xpd_1
  | 2, _, h => by cases h; exact xpd_2
  | 3, _, h => by cases h; exact xpd_3
  | 4, _, h => by cases h; exact xpd_4
  | 5, _, h => by cases h; exact xpd_5
  | 6, _, h => by cases h; exact xpd_6
  | 7, _, h => by cases h; exact xpd_7
  | 8, _, h => by cases h; exact xpd_8
  | 9, _, h => by cases h; exact xpd_9
  | 10, _, h => by cases h; exact xpd_10
  | 11, _, h => by cases h; exact xpd_11
  | 12, _, h => by cases h; exact xpd_12
  | 13, _, h => by cases h; exact xpd_13
  | 14, _, h => by cases h; exact xpd_14
  | 15, _, h => by cases h; exact xpd_15
  | 16, _, h => by cases h; exact xpd_16
  | n + 17, _, h => by simp [xcl] at h
theorem xcl_nm : ∀ {ci : Nat} {r : vw_C}, xcl[ci]? = some r → ∀ a, a < r.2.2 → ∀ b, b < r.2.2 → a ≠ b → (r.2.1 a).2.1 ≠ (r.2.1 b).2.1
  | 0, _, h => by cases h; exact xnm_0
  | 1, _, h => by cases h; exact xnm_1
  | 2, _, h => by cases h; exact xnm_2
  | 3, _, h => by cases h; exact xnm_3
  | 4, _, h => by cases h; exact xnm_4
  | 5, _, h => by cases h; exact xnm_5
  | 6, _, h => by cases h; exact xnm_6
  | 7, _, h => by cases h; exact xnm_7
  | 8, _, h => by cases h; exact xnm_8
  | 9, _, h => by cases h; exact xnm_9
  | 10, _, h => by cases h; exact xnm_10
  | 11, _, h => by cases h; exact xnm_11
  | 12, _, h => by cases h; exact xnm_12
  | 13, _, h => by cases h; exact xnm_13
  | 14, _, h => by cases h; exact xnm_14
  | 15, _, h => by cases h; exact xnm_15
  | 16, _, h => by cases h; exact xnm_16
  | n + 17, _, h => by simp [xcl] at h
