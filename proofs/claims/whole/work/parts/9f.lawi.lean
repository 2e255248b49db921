/-! THE LAW, 9: all that holds at the start -/
theorem st_sr : ∀ q ∈ xsr, Cond.exactly (.string q.1 q.2.1) "java/lang/String" ∈ sFl := by decide +kernel
theorem st_sw : ∀ q ∈ xsr, Cond.stringRef q.1 q.2.1 q.2.2 ∈ lw_tbl := by decide +kernel
theorem st_i0 : Cond.instantiable "StyleCourt" 12 ∈ lw_tbl := by decide +kernel
theorem st_i1 : Cond.instantiable "StyleCourt$Reader" 3 ∈ lw_tbl := by decide +kernel
theorem st_i2 : Cond.instantiable "StyleCourt$Slice" 3 ∈ lw_tbl := by decide +kernel
theorem st_i3 : Cond.instantiable "StyleCourt$Named" 2 ∈ lw_tbl := by decide +kernel
theorem st_i4 : Cond.instantiable "StyleCourt$Element" 15 ∈ lw_tbl := by decide +kernel
theorem st_i5 : Cond.instantiable "StyleCourt$Source" 5 ∈ lw_tbl := by decide +kernel
theorem st_i6 : Cond.instantiable "StyleCourt$Condition" 4 ∈ lw_tbl := by decide +kernel
theorem st_i7 : Cond.instantiable "StyleCourt$Step" 3 ∈ lw_tbl := by decide +kernel
theorem st_i8 : Cond.instantiable "StyleCourt$Selector" 2 ∈ lw_tbl := by decide +kernel
theorem st_i9 : Cond.instantiable "StyleCourt$Told" 7 ∈ lw_tbl := by decide +kernel
theorem st_i10 : Cond.instantiable "StyleCourt$Rule" 2 ∈ lw_tbl := by decide +kernel
theorem st_i11 : Cond.instantiable "StyleCourt$Style" 4 ∈ lw_tbl := by decide +kernel
theorem st_i12 : Cond.instantiable "java/util/ArrayList" 3 ∈ lw_tbl := by decide +kernel
theorem st_i13 : Cond.instantiable "StyleCourtModel" 85 ∈ lw_tbl := by decide +kernel
theorem st_i14 : Cond.instantiable "java/lang/IndexOutOfBoundsException" 6 ∈ lw_tbl := by decide +kernel
theorem st_i15 : Cond.instantiable "java/lang/IllegalArgumentException" 6 ∈ lw_tbl := by decide +kernel
theorem st_i16 : Cond.instantiable "java/lang/UnsupportedOperationException" 6 ∈ lw_tbl := by decide +kernel
theorem st_a0 : Cond.arrayClass .int ∈ lw_tbl := by decide +kernel
theorem st_a1 : Cond.arrayClass .byte ∈ lw_tbl := by decide +kernel
theorem st_a2 : Cond.arrayClass .long ∈ lw_tbl := by decide +kernel
theorem st_a3 : Cond.arrayClass .boolean ∈ lw_tbl := by decide +kernel
theorem st_a4 : Cond.arrayOver (.object "java/lang/Object") ∈ lw_tbl := by decide +kernel
theorem st_a5 : Cond.arrayOver (.object "StyleCourt$Element") ∈ lw_tbl := by decide +kernel
theorem st_known {s : State} {args : Array Value} (hts : ∀ w ∈ lw_tbl, w.before args s = true) : ∀ c : Nat, ∃ z : ClassId × (Nat → Nat), ∀ q : vw_C, xcl[c]? = some q → u_Kn s q.1 q.2.1 q.2.2 z.1 z.2 := by
  have hx : ∀ {C : String} {T : u_T} {N n : Nat}, (∀ w ∈ u_ws C T N, w ∈ xws) → Cond.instantiable C n ∈ lw_tbl → ∃ z : ClassId × (Nat → Nat), u_Kn s C T N z.1 z.2 := by
    intro C T N n h1 h2
    obtain ⟨c, f, hk⟩ := u_known (C := C) (T := T) (N := N) (n := n) hts (fun w hw => (List.mem_filter.mp (h1 w hw)).1) (hts _ h2)
    exact ⟨(c, f), hk⟩
  intro c
  have one : ∀ {r : vw_C}, xcl[c]? = some r → (∃ z : ClassId × (Nat → Nat), u_Kn s r.1 r.2.1 r.2.2 z.1 z.2) → ∃ z : ClassId × (Nat → Nat), ∀ q : vw_C, xcl[c]? = some q → u_Kn s q.1 q.2.1 q.2.2 z.1 z.2 := by
    intro r h1 ⟨z, hz⟩
    exact ⟨z, fun q hq => by rw [h1] at hq; cases hq; exact hz⟩
  by_cases hc : c < 17
  rotate_left
  · refine ⟨(0, fun _ => 0), fun q hq => ?_⟩
    rw [List.getElem?_eq_none (by show 17 ≤ c; omega)] at hq
    cases hq
  have cs : c = 0 ∨ c = 1 ∨ c = 2 ∨ c = 3 ∨ c = 4 ∨ c = 5 ∨ c = 6 ∨ c = 7 ∨ c = 8 ∨ c = 9 ∨ c = 10 ∨ c = 11 ∨ c = 12 ∨ c = 13 ∨ c = 14 ∨ c = 15 ∨ c = 16 := by omega
  rcases cs with rfl | rfl | rfl | rfl | rfl | rfl | rfl | rfl | rfl | rfl | rfl | rfl | rfl | rfl | rfl | rfl | rfl
  · exact one (show xcl[0]? = some _ from rfl) (hx xin_0 st_i0)
  · exact one (show xcl[1]? = some _ from rfl) (hx xin_1 st_i1)
  · exact one (show xcl[2]? = some _ from rfl) (hx xin_2 st_i2)
  · exact one (show xcl[3]? = some _ from rfl) (hx xin_3 st_i3)
  · exact one (show xcl[4]? = some _ from rfl) (hx xin_4 st_i4)
  · exact one (show xcl[5]? = some _ from rfl) (hx xin_5 st_i5)
  · exact one (show xcl[6]? = some _ from rfl) (hx xin_6 st_i6)
  · exact one (show xcl[7]? = some _ from rfl) (hx xin_7 st_i7)
  · exact one (show xcl[8]? = some _ from rfl) (hx xin_8 st_i8)
  · exact one (show xcl[9]? = some _ from rfl) (hx xin_9 st_i9)
  · exact one (show xcl[10]? = some _ from rfl) (hx xin_10 st_i10)
  · exact one (show xcl[11]? = some _ from rfl) (hx xin_11 st_i11)
  · exact one (show xcl[12]? = some _ from rfl) (hx xin_12 st_i12)
  · exact one (show xcl[13]? = some _ from rfl) (hx xin_13 st_i13)
  · exact one (show xcl[14]? = some _ from rfl) (hx xin_14 st_i14)
  · exact one (show xcl[15]? = some _ from rfl) (hx xin_15 st_i15)
  · exact one (show xcl[16]? = some _ from rfl) (hx xin_16 st_i16)
theorem st_elems {s : State} {args : Array Value} (hts : ∀ w ∈ lw_tbl, w.before args s = true) : ∀ t : Nat, ∃ cA : ClassId, ∀ ty : FieldType, xela[t]? = some ty → ArrOfT s cA ty ∧ va_RA s cA ty := by
  have hp : ∀ {ty : FieldType}, (∀ C, ty ≠ .object C) → Cond.arrayClass ty ∈ lw_tbl → ∃ cA, ArrOfT s cA ty ∧ va_RA s cA ty := by
    intro ty hn hw
    obtain ⟨c, k, comp, h1, h2, h3⟩ := Cond.arrayClass_spec (hts _ hw)
    refine ⟨c, fun N z => ⟨(fun k h => by cases h), k, h2, comp, h3⟩, ?_⟩
    cases ty with
    | object C => exact absurd rfl (hn C)
    | _ => exact h1
  have ho : ∀ {C : String}, Cond.arrayOver (.object C) ∈ lw_tbl → ∃ cA, ArrOfT s cA (.object C) ∧ va_RA s cA (.object C) := by
    intro C hw
    obtain ⟨comp, c, k, h1, h2, h3, h4, h5⟩ := Cond.arrayOver_spec (hts _ hw)
    exact ⟨c, fun N z => ⟨(fun k h => by cases h), k, h3, comp, h4⟩, k, comp, h3, h4, h1, h5⟩
  intro t
  have one : ∀ {r : FieldType}, xela[t]? = some r → (∃ cA, ArrOfT s cA r ∧ va_RA s cA r) → ∃ cA : ClassId, ∀ ty : FieldType, xela[t]? = some ty → ArrOfT s cA ty ∧ va_RA s cA ty := by
    intro r h1 ⟨z, hz⟩
    exact ⟨z, fun q hq => by rw [h1] at hq; cases hq; exact hz⟩
  by_cases hc : t < 6
  rotate_left
  · refine ⟨0, fun q hq => ?_⟩
    rw [List.getElem?_eq_none (by show 6 ≤ t; omega)] at hq
    cases hq
  have cs : t = 0 ∨ t = 1 ∨ t = 2 ∨ t = 3 ∨ t = 4 ∨ t = 5 := by omega
  rcases cs with rfl | rfl | rfl | rfl | rfl | rfl
  · exact one (show xela[0]? = some _ from rfl) (hp (fun C z => by cases z) st_a0)
  · exact one (show xela[1]? = some _ from rfl) (hp (fun C z => by cases z) st_a1)
  · exact one (show xela[2]? = some _ from rfl) (hp (fun C z => by cases z) st_a2)
  · exact one (show xela[3]? = some _ from rfl) (hp (fun C z => by cases z) st_a3)
  · exact one (show xela[4]? = some _ from rfl) (ho st_a4)
  · exact one (show xela[5]? = some _ from rfl) (ho st_a5)
theorem st_LS {s : State} {args : Array Value} {q : String × String × String} (hl : (Cond.laysStatic q.1 q.2.1 q.2.2).before args s = true) (hr : (Cond.isRef (.static q.1 q.2.1 q.2.2)).before args s = true) : x_LS q s.heap.size s s.heap := by
  obtain ⟨c, k, i, f, a, cell, h1, h2, h3, h4, h5, h6, h7, h8, h9⟩ := Cond.laysStatic_spec hl
  have hv : ∃ v, (Term.static q.1 q.2.1 q.2.2).eval args s none [] s = some v ∧ (v = .null ∨ ∃ t, v = .ref t) := by
    cases hv : (Term.static q.1 q.2.1 q.2.2).eval args s none [] s with
    | none => simp [Cond.before, Cond.holds, Cond.value, hv] at hr
    | some v =>
      cases v with
      | null => exact ⟨_, rfl, Or.inl rfl⟩
      | ref t => exact ⟨_, rfl, Or.inr ⟨t, rfl⟩⟩
      | _ => simp [Cond.before, Cond.holds, Cond.value, hv] at hr
  obtain ⟨v, hv, hv2⟩ := hv
  obtain ⟨hst', a', cell', ha', hcell', -, hslot⟩ := Term.static_spec h2 hv
  cases h4.symm.trans ha'
  cases h5.symm.trans hcell'
  exact ⟨c, k, i, f, a, cell, v, h1, h2, h3, h4, h5, h6, h7, h8, h9, (Array.getElem?_eq_some_iff.mp h5).1, hslot, hv2⟩
theorem st_s3 {args : Array Value} {s : State} (hs : ∀ c ∈ sFl, c.before args s = true) : ∃ (a v : Nat) (cell : Cell), (Term.string "StyleCourt$Condition" 45).eval args s none [] s = some (.ref a) ∧ (va_O "java/lang/String" a (fun q => s.heap.size ≤ q) s s.heap ∧ va_OF "java/lang/String" "value" "[B" (.ref v) a (fun q => s.heap.size ≤ q) s s.heap ∧ va_OF "java/lang/String" "coder" "B" (.int 0) a (fun q => s.heap.size ≤ q) s s.heap) ∧ s.heap[v]? = some cell ∧ s.isArrayOf cell .byte ∧ cell.vm ≠ .unknown ∧ cell.slots = (txv [102, 105, 114, 115, 116]).toArray :=
  st_str (w := [102, 105, 114, 115, 116]) hs (by decide +kernel) (by decide +kernel) (by decide +kernel) (by decide +kernel) (by decide +kernel) (by decide)
theorem st_s4 {args : Array Value} {s : State} (hs : ∀ c ∈ sFl, c.before args s = true) : ∃ (a v : Nat) (cell : Cell), (Term.string "StyleCourt$Condition" 53).eval args s none [] s = some (.ref a) ∧ (va_O "java/lang/String" a (fun q => s.heap.size ≤ q) s s.heap ∧ va_OF "java/lang/String" "value" "[B" (.ref v) a (fun q => s.heap.size ≤ q) s s.heap ∧ va_OF "java/lang/String" "coder" "B" (.int 0) a (fun q => s.heap.size ≤ q) s s.heap) ∧ s.heap[v]? = some cell ∧ s.isArrayOf cell .byte ∧ cell.vm ≠ .unknown ∧ cell.slots = (txv [108, 97, 115, 116]).toArray :=
  st_str (w := [108, 97, 115, 116]) hs (by decide +kernel) (by decide +kernel) (by decide +kernel) (by decide +kernel) (by decide +kernel) (by decide)
theorem st_s5 {args : Array Value} {s : State} (hs : ∀ c ∈ sFl, c.before args s = true) : ∃ (a v : Nat) (cell : Cell), (Term.string "StyleCourt$Condition" 55).eval args s none [] s = some (.ref a) ∧ (va_O "java/lang/String" a (fun q => s.heap.size ≤ q) s s.heap ∧ va_OF "java/lang/String" "value" "[B" (.ref v) a (fun q => s.heap.size ≤ q) s s.heap ∧ va_OF "java/lang/String" "coder" "B" (.int 0) a (fun q => s.heap.size ≤ q) s s.heap) ∧ s.heap[v]? = some cell ∧ s.isArrayOf cell .byte ∧ cell.vm ≠ .unknown ∧ cell.slots = (txv [101, 109, 112, 116, 121]).toArray :=
  st_str (w := [101, 109, 112, 116, 121]) hs (by decide +kernel) (by decide +kernel) (by decide +kernel) (by decide +kernel) (by decide +kernel) (by decide)
theorem st_s6 {args : Array Value} {s : State} (hs : ∀ c ∈ sFl, c.before args s = true) : ∃ (a v : Nat) (cell : Cell), (Term.string "StyleCourt$Condition" 57).eval args s none [] s = some (.ref a) ∧ (va_O "java/lang/String" a (fun q => s.heap.size ≤ q) s s.heap ∧ va_OF "java/lang/String" "value" "[B" (.ref v) a (fun q => s.heap.size ≤ q) s s.heap ∧ va_OF "java/lang/String" "coder" "B" (.int 0) a (fun q => s.heap.size ≤ q) s s.heap) ∧ s.heap[v]? = some cell ∧ s.isArrayOf cell .byte ∧ cell.vm ≠ .unknown ∧ cell.slots = (txv [110, 116, 104]).toArray :=
  st_str (w := [110, 116, 104]) hs (by decide +kernel) (by decide +kernel) (by decide +kernel) (by decide +kernel) (by decide +kernel) (by decide)
theorem st_s7 {args : Array Value} {s : State} (hs : ∀ c ∈ sFl, c.before args s = true) : ∃ (a v : Nat) (cell : Cell), (Term.string "StyleCourt$Condition" 62).eval args s none [] s = some (.ref a) ∧ (va_O "java/lang/String" a (fun q => s.heap.size ≤ q) s s.heap ∧ va_OF "java/lang/String" "value" "[B" (.ref v) a (fun q => s.heap.size ≤ q) s s.heap ∧ va_OF "java/lang/String" "coder" "B" (.int 0) a (fun q => s.heap.size ≤ q) s s.heap) ∧ s.heap[v]? = some cell ∧ s.isArrayOf cell .byte ∧ cell.vm ≠ .unknown ∧ cell.slots = (txv [110, 111, 116]).toArray :=
  st_str (w := [110, 111, 116]) hs (by decide +kernel) (by decide +kernel) (by decide +kernel) (by decide +kernel) (by decide +kernel) (by decide)
theorem st_s9 {args : Array Value} {s : State} (hs : ∀ c ∈ sFl, c.before args s = true) : ∃ (a v : Nat) (cell : Cell), (Term.string "StyleCourt$Told" 66).eval args s none [] s = some (.ref a) ∧ (va_O "java/lang/String" a (fun q => s.heap.size ≤ q) s s.heap ∧ va_OF "java/lang/String" "value" "[B" (.ref v) a (fun q => s.heap.size ≤ q) s s.heap ∧ va_OF "java/lang/String" "coder" "B" (.int 0) a (fun q => s.heap.size ≤ q) s s.heap) ∧ s.heap[v]? = some cell ∧ s.isArrayOf cell .byte ∧ cell.vm ≠ .unknown ∧ cell.slots = (txv [117, 112]).toArray :=
  st_str (w := [117, 112]) hs (by decide +kernel) (by decide +kernel) (by decide +kernel) (by decide +kernel) (by decide +kernel) (by decide)
theorem st_kn {args : Array Value} {s : State} (hs : ∀ c ∈ sFl, c.before args s = true) : ∃ (t : Nat) (cell : Cell), (Term.static "StyleCourt" "KNOWN" "[B").eval args s none [] s = some (.ref t) ∧ s.heap[t]? = some cell ∧ s.isArrayOf cell .byte ∧ cell.vm ≠ .unknown ∧ cell.slots = (txv knB).toArray := by
  have m : ∀ j, j < 7 → Cond.eq (.elem (.static "StyleCourt" "KNOWN" "[B") (.int (Int32.ofNat j))) (.int (sb_b (knB.getD j 0))) ∈ sFl := by decide +kernel
  refine st_arr (w := txv knB) (by decide) (hs _ (by decide +kernel)) (va_eqt (hs _ (by decide +kernel))) (fun j hj => ?_)
  have hj : j < 7 := hj
  rw [va_eqt (hs _ (m j hj))]
  have cs : j = 0 ∨ j = 1 ∨ j = 2 ∨ j = 3 ∨ j = 4 ∨ j = 5 ∨ j = 6 := by omega
  rcases cs with rfl | rfl | rfl | rfl | rfl | rfl | rfl <;> rfl
theorem st_em {args : Array Value} {s : State} (hs : ∀ c ∈ sFl, c.before args s = true) : ∃ (t : Nat) (cell : Cell), (Term.static "java/util/ArrayList" "DEFAULTCAPACITY_EMPTY_ELEMENTDATA" "[Ljava/lang/Object;").eval args s none [] s = some (.ref t) ∧ s.heap[t]? = some cell ∧ s.isArrayOf cell (.object "java/lang/Object") ∧ cell.vm ≠ .unknown ∧ cell.slots = ([] : List Value).toArray :=
  st_arr (w := []) (by decide) (hs _ (by decide +kernel)) (va_eqt (hs _ (by decide +kernel))) (fun j hj => by cases hj)
