/-! THE LAW, 8: the start -/
theorem st_arr {args : Array Value} {s : State} {tm : Term} {ty : FieldType} {w : List Value} (hN : w.length < 2 ^ 31) (harr : (Cond.arrayOf tm ty).before args s = true) (hlen : (Term.length tm).eval args s none [] s = some (.int (Int32.ofNat w.length))) (hel : ∀ j : Nat, j < w.length → (Term.elem tm (.int (Int32.ofNat j))).eval args s none [] s = some (w.getD j .null)) : ∃ (t : Nat) (cell : Cell), tm.eval args s none [] s = some (.ref t) ∧ s.heap[t]? = some cell ∧ s.isArrayOf cell ty ∧ cell.vm ≠ .unknown ∧ cell.slots = w.toArray := by
  obtain ⟨t, ht, cell, hcell, hof, hkn, hle, hsz, hval, -⟩ := va_Tof (A := fun q => s.heap.size ≤ q) (f := fun j => w.getD j .null) hN harr hlen hel (fun a ha => Nat.not_le.mpr ha)
  refine ⟨t, cell, ht, hcell, hof, hkn, ?_⟩
  obtain ⟨b, cell', ht', harr', -⟩ := Term.length_spec hlen
  have hlt' : cell'.slots.size < 2 ^ 31 := by
    simp only [Term.eval, ht', harr', Option.bind_eq_bind, Option.bind_some] at hlen
    by_cases hlt : cell'.slots.size < 2147483648
    · exact hlt
    · simp [hlt] at hlen
  obtain ⟨hcell', -, -, -⟩ := State.arrayAt?_spec harr'
  have eb : t = b := by
    rw [ht] at ht'
    cases ht'; rfl
  subst eb
  cases hcell.symm.trans hcell'
  have e1 : cell.slots.size = w.length := (nI_eq (by omega) (by omega)).mp hsz
  apply Array.ext'
  apply List.ext_getElem?
  intro j
  by_cases hj : j < w.length
  · have := hval j hj
    rw [Array.getElem?_toList, this]
    show some (w.getD j .null) = w[j]?
    rw [List.getD_eq_getElem?_getD, List.getElem?_eq_getElem hj]
    rfl
  · rw [List.getElem?_eq_none (by rw [Array.length_toList]; omega)]
    show none = w[j]?
    rw [List.getElem?_eq_none (by omega)]
abbrev sFl : List Cond := flatC (Jvm.Cond.and given_1 narrow_1)
abbrev sFv (own : String) (k : Nat) : Term := .field (.string own k) "java/lang/String" "value" "[B"
theorem st_str {args : Array Value} {s : State} {own : String} {k : Nat} {w : List Nat} (hs : ∀ c ∈ sFl, c.before args s = true) (m1 : Cond.exactly (.string own k) "java/lang/String" ∈ sFl) (m2 : Cond.eq (.field (.string own k) "java/lang/String" "coder" "B") (.int 0) ∈ sFl) (m3 : Cond.arrayOf (sFv own k) .byte ∈ sFl) (m4 : Cond.eq (.length (sFv own k)) (.int (Int32.ofNat w.length)) ∈ sFl) (m5 : ∀ j, j < w.length → Cond.eq (.elem (sFv own k) (.int (Int32.ofNat j))) (.int (sb_b (w.getD j 0))) ∈ sFl) (hw : w.length < 2 ^ 31) : ∃ (a v : Nat) (cell : Cell), (Term.string own k).eval args s none [] s = some (.ref a) ∧ (va_O "java/lang/String" a (fun q => s.heap.size ≤ q) s s.heap ∧ va_OF "java/lang/String" "value" "[B" (.ref v) a (fun q => s.heap.size ≤ q) s s.heap ∧ va_OF "java/lang/String" "coder" "B" (.int 0) a (fun q => s.heap.size ≤ q) s s.heap) ∧ s.heap[v]? = some cell ∧ s.isArrayOf cell .byte ∧ cell.vm ≠ .unknown ∧ cell.slots = (txv w).toArray := by
  have hA : ∀ a : Nat, a < s.heap.size → ¬ s.heap.size ≤ a := fun a ha => Nat.not_le.mpr ha
  obtain ⟨a, c, cA, kA, q1, q2, q3, q4, q5, q6, -⟩ := Cond.exactly_spec (args := args) (first := s) (o := none) (s := s) (idx := []) (t := .string own k) (cls := "java/lang/String") (hs _ m1)
  have hl : (txv w).length = w.length := by simp [txv]
  obtain ⟨v, cell, r1, r2, r3, r4, r5⟩ := st_arr (w := txv w) (by rw [hl]; exact hw) (hs _ m3) (by rw [hl]; exact va_eqt (hs _ m4)) (fun j hj => by
    rw [hl] at hj
    rw [va_eqt (hs _ (m5 j hj))]
    congr 1
    unfold txv
    rw [List.getD_eq_getElem?_getD, List.getD_eq_getElem?_getD, List.getElem?_map, List.getElem?_eq_getElem hj]
    rfl)
  exact ⟨a, v, cell, q1, ⟨va_Oof (hs _ m1) q1 hA, vk_OFof q1 r1 hA, vk_OFof q1 (va_eqt (hs _ m2)) hA⟩, r2, r3, r4, r5⟩
/-- what stands at an address of before the run -/
def bfP (D : xD) (s : State) (q : Nat) (c : xC) : Prop := x_at D s s.heap q c ∧ (c.1 = 300 ∨ ((c.1 = 200 ∨ c.1 = 201 ∨ c.1 = 204) ∧ ∀ v ∈ c.2, ∃ n, v = .int n))
theorem bfP_one {D : xD} {s : State} {q : Nat} {c c' : xC} (h : bfP D s q c) (h' : bfP D s q c') : c = c' := by
  obtain ⟨k, vs⟩ := c
  obtain ⟨k', vs'⟩ := c'
  have arr : ∀ {k : Nat} {vs : List Value}, x_at D s s.heap q (k, vs) → (k = 200 ∨ k = 201 ∨ k = 204) → ∃ cell : Cell, s.heap[q]? = some cell ∧ s.isArrayOf cell (xel (k - 200)) ∧ cell.slots = vs.toArray := by
    intro k vs h hk
    unfold x_at at h
    have h : q < D.sz ∧ vs.length < 2 ^ 31 ∧ ∃ cell : Cell, s.heap[q]? = some cell ∧ s.isArrayOf cell (xel (k - 200)) ∧ cell.vm ≠ .unknown ∧ cell.slots = vs.toArray := by
      rcases hk with rfl | rfl | rfl <;> simpa using h
    obtain ⟨-, -, cell, c1, c2, -, c4⟩ := h
    exact ⟨cell, c1, c2, c4⟩
  have str : ∀ {vs : List Value}, x_at D s s.heap q (300, vs) → xO_RO D s s.heap q vs := by
    intro vs h
    unfold x_at at h
    have h : q < D.sz ∧ xO_RO D s s.heap q vs := by simpa using h
    exact h.2
  have mix : ∀ {k : Nat} {vs vs' : List Value}, x_at D s s.heap q (k, vs) → (k = 200 ∨ k = 201 ∨ k = 204) → (∀ v ∈ vs, ∃ n, v = .int n) → x_at D s s.heap q (300, vs') → False := by
    intro k vs vs' h1 hk hi h2
    obtain ⟨cell, c1, -, c4⟩ := arr h1 hk
    obtain ⟨v, -, -, ⟨cf, kk, i, f, cell2, -, -, g5, -, g6, -⟩, -⟩ := str h2
    cases c1.symm.trans g5
    rw [c4] at g6
    have : (.ref v : Value) ∈ vs := by
      rw [List.getElem?_toArray] at g6
      exact List.mem_of_getElem? g6
    obtain ⟨n, e⟩ := hi _ this
    cases e
  obtain ⟨h1, h2⟩ := h
  obtain ⟨h1', h2'⟩ := h'
  rcases h2 with z | ⟨z, hi⟩
  · have z : k = 300 := z
    subst z
    rcases h2' with z' | ⟨z', hi'⟩
    · have z' : k' = 300 := z'
      subst z'
      obtain ⟨v, rfl, -, ⟨cf, kk, i, f, cell, g1, -, g3, -, g4, -⟩, -⟩ := str h1
      obtain ⟨v', rfl, -, ⟨cf', kk', i', f', cell', g1', -, g3', -, g4', -⟩, -⟩ := str h1'
      cases g1.symm.trans g1'
      cases g3.symm.trans g3'
      cases g4.symm.trans g4'
      rfl
    · exact (mix h1' z' hi' h1).elim
  · rcases h2' with z' | ⟨z', hi'⟩
    · have z' : k' = 300 := z'
      subst z'
      exact (mix h1 z hi h1').elim
    · obtain ⟨cell, c1, ⟨-, kc, c2, comp, c3⟩, c4⟩ := arr h1 z
      obtain ⟨cell', c1', ⟨-, kc', c2', comp', c3'⟩, c4'⟩ := arr h1' z'
      cases c1.symm.trans c1'
      cases c2.symm.trans c2'
      rw [c3] at c3'
      have e1 : vs = vs' := by
        have := c4.symm.trans c4'
        simpa using this
      subst e1
      have z : k = 200 ∨ k = 201 ∨ k = 204 := z
      have z' : k' = 200 ∨ k' = 201 ∨ k' = 204 := z'
      rcases z with rfl | rfl | rfl <;> rcases z' with rfl | rfl | rfl <;> first | rfl | (simp [xel, xela] at c3')
/-- the heap of before the run -/
def hpL (P : List (Nat × xC)) : xH := fun q => (P.find? (fun z => z.1 == q)).map (fun z => z.2)
theorem hpL_in {P : List (Nat × xC)} {q : Nat} {c : xC} (h : hpL P q = some c) : (q, c) ∈ P := by
  unfold hpL at h
  obtain ⟨z, h1, h2⟩ := Option.map_eq_some_iff.mp h
  have h3 := List.find?_some h1
  have h3 : z.1 = q := by simpa using h3
  have := List.mem_of_find?_eq_some h1
  rw [← h2, ← h3]
  exact this
theorem hpL_at {P : List (Nat × xC)} {R : Nat → xC → Prop} (hR : ∀ z ∈ P, R z.1 z.2) (h1 : ∀ q c c', R q c → R q c' → c = c') {q : Nat} {c : xC} (h : (q, c) ∈ P) : hpL P q = some c := by
  unfold hpL
  cases hf : P.find? (fun z => z.1 == q) with
  | none =>
    have := List.find?_eq_none.mp hf _ h
    simp at this
  | some z =>
    have h3 := List.find?_some hf
    have h3 : z.1 = q := by simpa using h3
    have h4 := hR _ (List.mem_of_find?_eq_some hf)
    have h5 := hR _ h
    rw [h3] at h4
    show some z.2 = some c
    rw [h1 _ _ _ h4 h5]
