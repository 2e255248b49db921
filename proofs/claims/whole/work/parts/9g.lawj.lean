/-! THE LAW, 10: the start -/
theorem x_at2 {D : xD} {s : State} {q k : Nat} {vs : List Value} (hk : k = 200 ∨ k = 201 ∨ k = 204) (h : q < D.sz ∧ vs.length < 2 ^ 31 ∧ ∃ cell : Cell, s.heap[q]? = some cell ∧ s.isArrayOf cell (xel (k - 200)) ∧ cell.vm ≠ .unknown ∧ cell.slots = vs.toArray) : x_at D s s.heap q (k, vs) := by
  unfold x_at
  rcases hk with rfl | rfl | rfl <;> simpa using h
theorem x_at3 {D : xD} {s : State} {q : Nat} {vs : List Value} (h1 : q < D.sz) (h2 : xO_RO D s s.heap q vs) : x_at D s s.heap q (300, vs) := by
  unfold x_at
  simpa using ⟨h1, h2⟩
theorem txv_int (w : List Nat) : ∀ v ∈ txv w, ∃ n, v = .int n := fun v hv => by
  unfold txv at hv
  obtain ⟨b, -, rfl⟩ := List.mem_map.mp hv
  exact ⟨_, rfl⟩
theorem bf_b {D : xD} {s : State} {v : Nat} {w : List Nat} {cell : Cell} (hD : D.sz = s.heap.size) (hw : w.length < 2 ^ 31) (h1 : s.heap[v]? = some cell) (h2 : s.isArrayOf cell .byte) (h3 : cell.vm ≠ .unknown) (h4 : cell.slots = (txv w).toArray) : bfP D s v (201, txv w) :=
  ⟨x_at2 (Or.inr (Or.inl rfl)) ⟨by rw [hD]; exact (Array.getElem?_eq_some_iff.mp h1).1, by rw [txv_len]; exact hw, cell, h1, h2, h3, h4⟩, Or.inr ⟨Or.inr (Or.inl rfl), txv_int w⟩⟩
theorem bf_s {D : xD} {s : State} {a v : Nat} (hD : D.sz = s.heap.size) (h1 : va_O "java/lang/String" a (fun q => s.heap.size ≤ q) s s.heap) (h2 : va_OF "java/lang/String" "value" "[B" (.ref v) a (fun q => s.heap.size ≤ q) s s.heap) (h3 : va_OF "java/lang/String" "coder" "B" (.int 0) a (fun q => s.heap.size ≤ q) s s.heap) : bfP D s a (300, [.ref v]) := by
  refine ⟨x_at3 ?_ ⟨v, rfl, ?_, ?_, ?_⟩, Or.inl rfl⟩
  · obtain ⟨cell, c1, -⟩ := h1
    rw [hD]; exact (Array.getElem?_eq_some_iff.mp c1).1
  · rw [hD]; exact h1
  · rw [hD]; exact h2
  · rw [hD]; exact h3
theorem st_all {s : State} {b L : Nat} {xs : Nat → Int32} (hts : ∀ w ∈ lw_tbl, w.before #[Value.ref b] s = true) (hX : va_X b L xs s s.heap) (hbl : b < s.heap.size) (hL : L ≤ 3072) (hgv : (Jvm.Cond.and given_1 narrow_1).before #[Value.ref b] s = true) : ∃ (D : xD) (h : xH), D.sz = s.heap.size ∧ x_K D s ∧ x_E D s s.heap ∧ x_R D s h s.heap ∧ env D h ∧ h b = some (200, svL L xs) := by
  have hs : ∀ c ∈ sFl, c.before #[Value.ref b] s = true := flat_of_before _ hgv
  have hA : ∀ a : Nat, a < s.heap.size → ¬ s.heap.size ≤ a := fun a ha => Nat.not_le.mpr ha
  obtain ⟨fK, hfK⟩ := Classical.axiomOfChoice (st_known hts)
  obtain ⟨fE, hfE⟩ := Classical.axiomOfChoice (st_elems hts)
  have sr : ∀ i : Nat, ∃ a : Nat, ∀ q : String × Nat × String, xsr[i]? = some q → (Term.string q.1 q.2.1).eval #[Value.ref b] s none [] s = some (.ref a) := by
    intro i
    cases hq : xsr[i]? with
    | none => exact ⟨0, fun q h => by cases h⟩
    | some q =>
      obtain ⟨a, -, -, -, q1, -⟩ := Cond.exactly_spec (args := #[Value.ref b]) (first := s) (o := none) (s := s) (idx := []) (t := .string q.1 q.2.1) (cls := "java/lang/String") (hs _ (st_sr q (List.mem_of_getElem? hq)))
      exact ⟨a, fun q' h => by cases h; exact q1⟩
  obtain ⟨sa, hsa⟩ := Classical.axiomOfChoice sr
  obtain ⟨kn, knC, kn1, kn2, kn3, kn4, kn5⟩ := st_kn hs
  obtain ⟨em, emC, em1, em2, em3, em4, em5⟩ := st_em hs
  obtain ⟨a3, v3, c3, p31, ⟨p32, p33, p34⟩, p35, p36, p37, p38⟩ := st_s3 hs
  obtain ⟨a4, v4, c4, p41, ⟨p42, p43, p44⟩, p45, p46, p47, p48⟩ := st_s4 hs
  obtain ⟨a5, v5, c5, p51, ⟨p52, p53, p54⟩, p55, p56, p57, p58⟩ := st_s5 hs
  obtain ⟨a6, v6, c6, p61, ⟨p62, p63, p64⟩, p65, p66, p67, p68⟩ := st_s6 hs
  obtain ⟨a7, v7, c7, p71, ⟨p72, p73, p74⟩, p75, p76, p77, p78⟩ := st_s7 hs
  obtain ⟨a9, v9, c9, p91, ⟨p92, p93, p94⟩, p95, p96, p97, p98⟩ := st_s9 hs
  have zz := va_Zqof (A := fun q => s.heap.size ≤ q) (hts (.laysStatic "jdk/internal/util/Preconditions" "SIOOBE_FORMATTER" "Ljava/util/function/BiFunction;") (by decide +kernel)) (hts (.initialized "jdk/internal/util/Preconditions") (by decide +kernel)) (hs (.isRef (.static "jdk/internal/util/Preconditions" "SIOOBE_FORMATTER" "Ljava/util/function/BiFunction;")) (by decide +kernel)) hA
  obtain ⟨w3, hw3, hw3'⟩ : ∃ w : Value, va_Z "jdk/internal/util/Preconditions" "SIOOBE_FORMATTER" "Ljava/util/function/BiFunction;" w (fun q => s.heap.size ≤ q) s s.heap ∧ (w = .null ∨ ∃ a : Nat, w = .ref a) := by
    rcases zz with z | ⟨t, z⟩
    · exact ⟨_, z, Or.inl rfl⟩
    · exact ⟨_, z, Or.inr ⟨t, rfl⟩⟩
  obtain ⟨mi, hmi⟩ := va_Mi.of (hs (.isRef (.mirror "[Ljava/lang/Object;")) (by decide +kernel))
  obtain ⟨n14, n15, nn1, nn2, nn3⟩ := va_Nc.of (hs (.not (.castable "java/lang/IndexOutOfBoundsException" "java/lang/IllegalArgumentException")) (by decide +kernel))
  obtain ⟨D, hD⟩ : ∃ D : xD, D = (fun c => if c < 100 then (fK c).1 else fE (c - 100), fun c => (fK c).2, s.heap.size, fun i => if i = 0 then .ref kn else if i = 1 then .ref em else if i = 2 then .int 1 else if i = 3 then w3 else if i = 2000 then .ref mi else .ref (sa (i - 1000))) := ⟨_, rfl⟩
  have hsz : D.sz = s.heap.size := by rw [hD]
  have hc : ∀ c, c < 100 → D.cid c = (fK c).1 := fun c h => by
    rw [hD]
    exact if_pos h
  have hsl : ∀ c, D.slo c = (fK c).2 := fun c => by rw [hD]
  have he : ∀ t, D.cid (100 + t) = fE t := fun t => by
    rw [hD]
    show (if 100 + t < 100 then (fK (100 + t)).1 else fE (100 + t - 100)) = _
    rw [if_neg (by omega), Nat.add_sub_cancel_left]
  have v0' : D.sv 0 = .ref kn := by rw [hD]; rfl
  have v1' : D.sv 1 = .ref em := by rw [hD]; rfl
  have v2' : D.sv 2 = .int 1 := by rw [hD]; rfl
  have v3' : D.sv 3 = w3 := by rw [hD]; rfl
  have vm' : D.sv 2000 = .ref mi := by rw [hD]; rfl
  have vs' : ∀ i, i < 17 → D.sv (1000 + i) = .ref (sa i) := fun i hi => by
    rw [hD]
    show (if 1000 + i = 0 then _ else if 1000 + i = 1 then _ else if 1000 + i = 2 then _ else if 1000 + i = 3 then _ else if 1000 + i = 2000 then _ else Value.ref (sa (1000 + i - 1000))) = _
    rw [if_neg (by omega), if_neg (by omega), if_neg (by omega), if_neg (by omega), if_neg (by omega), Nat.add_sub_cancel_left]
  have str : ∀ {i a : Nat} {q : String × Nat × String}, xsr[i]? = some q → (Term.string q.1 q.2.1).eval #[Value.ref b] s none [] s = some (.ref a) → i < 17 → D.sv (1000 + i) = .ref a := by
    intro i a q h1 h2 h3
    rw [vs' i h3]
    have := hsa i q h1
    rw [h2] at this
    cases this
    rfl
  have hcl : ∀ c q, xcl[c]? = some q → c < 100 := fun c q h => by
    have := (List.getElem?_eq_some_iff.mp h).1
    have : c < 17 := this
    omega
  obtain ⟨scr, x1, x2, x3, x4, x5⟩ := hX
  have hscr : scr.slots = (svL L xs).toArray := by
    apply Array.ext'
    apply List.ext_getElem?
    intro j
    by_cases hj : j < L
    · rw [Array.getElem?_toList, x5 j hj]
      exact (svL_at hj).symm
    · rw [List.getElem?_eq_none (by rw [Array.length_toList]; omega)]
      show none = (svL L xs)[j]?
      rw [List.getElem?_eq_none (by rw [svL_len]; omega)]
  obtain ⟨P, hPd⟩ : ∃ P : List (Nat × xC), P = [(b, (200, svL L xs)), (kn, (201, txv knB)), (em, (204, [])), (a3, (300, [.ref v3])), (v3, (201, txv [102, 105, 114, 115, 116])), (a4, (300, [.ref v4])), (v4, (201, txv [108, 97, 115, 116])), (a5, (300, [.ref v5])), (v5, (201, txv [101, 109, 112, 116, 121])), (a6, (300, [.ref v6])), (v6, (201, txv [110, 116, 104])), (a7, (300, [.ref v7])), (v7, (201, txv [110, 111, 116])), (a9, (300, [.ref v9])), (v9, (201, txv [117, 112]))] := ⟨_, rfl⟩
  have hbf : ∀ z ∈ P, bfP D s z.1 z.2 := by
    rw [hPd]
    intro z hz
    simp only [List.mem_cons, List.not_mem_nil, or_false] at hz
    rcases hz with rfl | rfl | rfl | rfl | rfl | rfl | rfl | rfl | rfl | rfl | rfl | rfl | rfl | rfl | rfl
    · refine ⟨x_at2 (Or.inl rfl) ⟨by rw [hsz]; exact hbl, by rw [svL_len]; omega, scr, x1, x2, x3, hscr⟩, Or.inr ⟨Or.inl rfl, fun v hv => ?_⟩⟩
      have hv : v ∈ svL L xs := hv
      unfold svL at hv
      obtain ⟨j, -, rfl⟩ := List.mem_map.mp hv
      exact ⟨_, rfl⟩
    · exact bf_b hsz (by decide) kn2 kn3 kn4 kn5
    · exact ⟨x_at2 (Or.inr (Or.inr rfl)) ⟨by rw [hsz]; exact (Array.getElem?_eq_some_iff.mp em2).1, by decide, emC, em2, em3, em4, em5⟩, Or.inr ⟨Or.inr (Or.inr rfl), fun v hv => by cases hv⟩⟩
    · exact bf_s hsz p32 p33 p34
    · exact bf_b hsz (by decide) p35 p36 p37 p38
    · exact bf_s hsz p42 p43 p44
    · exact bf_b hsz (by decide) p45 p46 p47 p48
    · exact bf_s hsz p52 p53 p54
    · exact bf_b hsz (by decide) p55 p56 p57 p58
    · exact bf_s hsz p62 p63 p64
    · exact bf_b hsz (by decide) p65 p66 p67 p68
    · exact bf_s hsz p72 p73 p74
    · exact bf_b hsz (by decide) p75 p76 p77 p78
    · exact bf_s hsz p92 p93 p94
    · exact bf_b hsz (by decide) p95 p96 p97 p98
  have at' : ∀ {q : Nat} {c : xC}, (q, c) ∈ P → hpL P q = some c := fun h => hpL_at (R := bfP D s) hbf (fun q c c' h1 h2 => bfP_one h1 h2) h
  refine ⟨D, hpL P, hsz, ⟨fun c q hq => ?_, fun t ty ht => ?_⟩, ⟨fun i q hq => ?_, fun i q hq => ?_, ?_, ?_, mi, vm', hmi, ?_⟩, fun a c h => ?_, ⟨⟨kn, v0', at' (by rw [hPd]; simp)⟩, ⟨em, v1', at' (by rw [hPd]; simp)⟩, v2', by rw [v3']; exact hw3', ⟨mi, vm'⟩, ⟨a3, v3, str (show xsr[3]? = some _ from rfl) p31 (by decide), at' (by rw [hPd]; simp), at' (by rw [hPd]; simp)⟩, ⟨a4, v4, str (show xsr[4]? = some _ from rfl) p41 (by decide), at' (by rw [hPd]; simp), at' (by rw [hPd]; simp)⟩, ⟨a5, v5, str (show xsr[5]? = some _ from rfl) p51 (by decide), at' (by rw [hPd]; simp), at' (by rw [hPd]; simp)⟩, ⟨a6, v6, str (show xsr[6]? = some _ from rfl) p61 (by decide), at' (by rw [hPd]; simp), at' (by rw [hPd]; simp)⟩, ⟨a7, v7, str (show xsr[7]? = some _ from rfl) p71 (by decide), at' (by rw [hPd]; simp), at' (by rw [hPd]; simp)⟩, ⟨a9, v9, str (show xsr[9]? = some _ from rfl) p91 (by decide), at' (by rw [hPd]; simp), at' (by rw [hPd]; simp)⟩⟩, at' (by rw [hPd]; simp)⟩
  · rw [hc c (hcl c q hq), hsl]
    exact hfK c q hq
  · rw [he]
    exact hfE t ty ht
  · have hi : i < 4 := (List.getElem?_eq_some_iff.mp hq).1
    have cs : i = 0 ∨ i = 1 ∨ i = 2 ∨ i = 3 := by omega
    rw [hsz]
    rcases cs with rfl | rfl | rfl | rfl
    · cases hq
      rw [v0']
      exact va_Zof (hts (.laysStatic "StyleCourt" "KNOWN" "[B") (by decide +kernel)) (hts (.initialized "StyleCourt") (by decide +kernel)) kn1 hA
    · cases hq
      rw [v1']
      exact va_Zof (hts (.laysStatic "java/util/ArrayList" "DEFAULTCAPACITY_EMPTY_ELEMENTDATA" "[Ljava/lang/Object;") (by decide +kernel)) (hts (.initialized "java/util/ArrayList") (by decide +kernel)) em1 hA
    · cases hq
      rw [v2']
      exact va_Zof (hts (.laysStatic "java/lang/String" "COMPACT_STRINGS" "Z") (by decide +kernel)) (hts (.initialized "java/lang/String") (by decide +kernel)) (va_eqt (hs (.eq (.static "java/lang/String" "COMPACT_STRINGS" "Z") (.int 1)) (by decide +kernel))) hA
    · cases hq
      rw [v3']
      exact hw3
  · have hi : i < 17 := (List.getElem?_eq_some_iff.mp hq).1
    exact ⟨sa i, vs' i hi, vk_R.of (hts _ (st_sw q (List.mem_of_getElem? hq))) (hsa i q hq)⟩
  · rw [hsz]
    exact st_LS (q := xt1) (hts (.laysStatic "java/lang/Throwable" "UNASSIGNED_STACK" "[Ljava/lang/StackTraceElement;") (by decide +kernel)) (hs (.isRef (.static "java/lang/Throwable" "UNASSIGNED_STACK" "[Ljava/lang/StackTraceElement;")) (by decide +kernel))
  · rw [hsz]
    exact st_LS (q := xt2) (hts (.laysStatic "java/lang/Throwable" "SUPPRESSED_SENTINEL" "Ljava/util/List;") (by decide +kernel)) (hs (.isRef (.static "java/lang/Throwable" "SUPPRESSED_SENTINEL" "Ljava/util/List;")) (by decide +kernel))
  · rw [hc 14 (by decide), hc 15 (by decide)]
    have e14 : s.vm.findClass "java/lang/IndexOutOfBoundsException" = some (fK 14).1 := (hfK 14 _ rfl).2.1
    have e15 : s.vm.findClass "java/lang/IllegalArgumentException" = some (fK 15).1 := (hfK 15 _ rfl).2.1
    cases nn1.symm.trans e14
    cases nn2.symm.trans e15
    exact nn3
  · exact (hbf (a, c) (hpL_in h)).1
