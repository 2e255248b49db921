/-! THE REFERENCE, 29: a new one -/
def dfM (k : Nat) : Value := if arK k = true then .null else .int 0
def z5 (k : Nat) : Int32 := if k = 5 then -1 else 0
/-- how far its arrays stand -/
def iI (hb : xH) (m b : Nat) (s : Nat → Int32) (ad : Nat → Nat) (f : Nat → Value) (h : xH) : Prop := h m = some (13, (List.range 85).map f) ∧ (∀ k ∈ arF, k < b → h (ad k) = some (kdK k, List.replicate (arN k) (.int 0)) ∧ ad k ≠ m ∧ f k = .ref (ad k) ∧ hb (ad k) = none) ∧ (∀ j ∈ arF, j < b → ∀ k ∈ arF, k < b → ad j = ad k → j = k) ∧ (∀ k, k < 85 → arK k = false → f k = .int (s k)) ∧ ∀ q, q ≠ m → (∀ k ∈ arF, k < b → ad k ≠ q) → h q = hb q
def upn {α : Type} (f : Nat → α) (k : Nat) (v : α) : Nat → α := fun j => if j = k then v else f j
theorem upn_set (f : Nat → Value) {k : Nat} (v : Value) : ((List.range 85).map f).set k v = (List.range 85).map (upn f k v) := by
  apply List.ext_getElem?
  intro i
  rw [List.getElem?_set, List.getElem?_map, List.getElem?_map, List.length_map, List.length_range]
  by_cases hi : i < 85
  · rw [List.getElem?_range hi]
    by_cases z : k = i
    · subst z
      rw [if_pos rfl, if_pos hi]
      simp [upn]
    · rw [if_neg z]
      simp [upn, Ne.symm z]
  · rw [List.getElem?_eq_none (by rw [List.length_range]; omega)]
    by_cases z : k = i
    · subst z
      rw [if_pos rfl, if_neg hi]; rfl
    · rw [if_neg z]; rfl
theorem arF_of' (k : Nat) (h : arK k = true) : k ∈ arF := by
  by_cases z : k < 85
  · exact arF_of k z h
  · exfalso
    unfold arK arN at h
    split at h <;> first | omega | cases h
theorem iI.arr {hb h : xH} {m b k q : Nat} {s : Nat → Int32} {ad : Nat → Nat} {f : Nat → Value} (I : iI hb m b s ad f h) (hq : h q = none) (hk : arK k = true) (h1 : ∀ j ∈ arF, j < k + 1 → j < b ∨ j = k) (h2 : b ≤ k) : iI hb m (k + 1) s (upn ad k q) (upn f k (.ref q)) (xset (xset h q (kdK k, List.replicate (arN k) (.int 0))) m (13, (List.range 85).map (upn f k (.ref q)))) := by
  obtain ⟨i1, i2, i3, i4, i5⟩ := I
  have nqm : q ≠ m := fun z => by rw [z, i1] at hq; cases hq
  have old : ∀ j ∈ arF, j < b → q ≠ ad j := fun j hj hb z => by rw [z, (i2 j hj hb).1] at hq; cases hq
  refine ⟨xset_same _ _ _, fun j hj hjk => ?_, fun j hj hjk j' hj' hjk' e => ?_, fun j hj hjz => ?_, fun p hp hpa => ?_⟩
  · by_cases z : j = k
    · subst z
      rw [show upn ad j q j = q from if_pos rfl]
      refine ⟨xst2 nqm (xset_same _ _ _), nqm, if_pos rfl, ?_⟩
      rw [← i5 q nqm (fun j hj hb => Ne.symm (old j hj hb))]
      exact hq
    · have hb : j < b := (h1 j hj hjk).resolve_right z
      rw [show upn ad k q j = ad j from if_neg z]
      obtain ⟨e1, e2, e3, e4⟩ := i2 j hj hb
      exact ⟨xst2 e2 (xst2 (Ne.symm (old j hj hb)) e1), e2, (if_neg z).trans e3, e4⟩
  · by_cases z : j = k
    · by_cases z' : j' = k
      · rw [z, z']
      · have hb : j' < b := (h1 j' hj' hjk').resolve_right z'
        rw [show upn ad k q j = q from if_pos z, show upn ad k q j' = ad j' from if_neg z'] at e
        exact absurd e (old j' hj' hb)
    · have hb : j < b := (h1 j hj hjk).resolve_right z
      rw [show upn ad k q j = ad j from if_neg z] at e
      by_cases z' : j' = k
      · rw [show upn ad k q j' = q from if_pos z'] at e
        exact absurd e.symm (old j hj hb)
      · have hb' : j' < b := (h1 j' hj' hjk').resolve_right z'
        rw [show upn ad k q j' = ad j' from if_neg z'] at e
        exact i3 j hj hb j' hj' hb' e
  · have : j ≠ k := fun z => by rw [z, hk] at hjz; cases hjz
    exact (if_neg this).trans (i4 j hj hjz)
  · have hkm : k ∈ arF ∨ k ∉ arF := Classical.em _
    by_cases pq : p = q
    · subst pq
      rcases hkm with y | y
      · exact absurd (if_pos rfl) (hpa k y (Nat.lt_succ_self _))
      · rw [← i5 p hp (fun j hj hb => Ne.symm (old j hj hb))]
        exact absurd (arF_of' k hk) y
    · have e1 : xset (xset h q (kdK k, List.replicate (arN k) (.int 0))) m (13, (List.range 85).map (upn f k (.ref q))) p = h p := by
        unfold xset
        rw [if_neg hp, if_neg pq]
      rw [e1]
      refine i5 p hp (fun j hj hb => ?_)
      have := hpa j hj (by omega)
      rw [show upn ad k q j = ad j from if_neg (by omega)] at this
      exact this
theorem iI.five {hb h : xH} {m b : Nat} {ad : Nat → Nat} {f : Nat → Value} (I : iI hb m b (fun _ => 0) ad f h) : iI hb m b z5 ad (upn f 5 (.int (-1))) (xset h m (13, (List.range 85).map (upn f 5 (.int (-1))))) := by
  obtain ⟨i1, i2, i3, i4, i5⟩ := I
  refine ⟨xset_same _ _ _, fun j hj hjb => ?_, i3, fun j hj hjz => ?_, fun p hp hpa => ?_⟩
  · obtain ⟨e1, e2, e3, e4⟩ := i2 j hj hjb
    have : j ≠ 5 := fun z => by rw [z] at hj; exact absurd hj (by decide)
    exact ⟨xst2 e2 e1, e2, (if_neg this).trans e3, e4⟩
  · unfold upn z5
    by_cases z : j = 5
    · rw [if_pos z, if_pos z]
    · rw [if_neg z, if_neg z]; exact i4 j hj hjz
  · have e1 : xset h m (13, (List.range 85).map (upn f 5 (.int (-1)))) p = h p := by
      unfold xset
      rw [if_neg hp]
    rw [e1]
    exact i5 p hp hpa
def S00 : MS := (z5, fun _ _ => 0)
theorem iI.fin {hb h : xH} {m : Nat} {ad : Nat → Nat} {f : Nat → Value} (I : iI hb m 84 z5 ad f h) : mok (m, ad) ∧ h = mH hb (m, ad) S00 ∧ ∀ k ∈ arF, hb (ad k) = none := by
  obtain ⟨i1, i2, i3, i4, i5⟩ := I
  have hlt : ∀ k ∈ arF, k < 84 := by decide
  have M : mok (m, ad) := ⟨fun k hk => (i2 k hk (hlt k hk)).2.1, fun j hj k hk => i3 j hj (hlt j hj) k hk (hlt k hk)⟩
  refine ⟨M, ?_, fun k hk => (i2 k hk (hlt k hk)).2.2.2⟩
  funext q
  by_cases z : q = m
  · subst z
    rw [i1]
    show _ = mH hb (q, ad) S00 (q, ad).1
    rw [mH_m]
    congr 2
    unfold mV
    apply List.map_congr_left
    intro k hk
    have hk := List.mem_range.mp hk
    unfold mv
    by_cases y : arK k = true
    · rw [if_pos y]
      have := arF_of k hk y
      exact (i2 k this (hlt k this)).2.2.1
    · rw [if_neg y]
      exact i4 k hk (by simpa using y)
  · by_cases y : ∃ k ∈ arF, ad k = q
    · obtain ⟨k, hk, rfl⟩ := y
      rw [(i2 k hk (hlt k hk)).1]
      show _ = mH hb (m, ad) S00 ((m, ad).2 k)
      rw [mH_a M hk]
      congr 2
      unfold mA
      show _ = (List.range (arN k)).map (fun _ => Value.int 0)
      rw [List.map_const', List.length_range]
    · rw [mH_o z (fun k hk e => y ⟨k, hk, e⟩)]
      exact i5 q z (fun k hk _ e => y ⟨k, hk, e⟩)
section
variable {l : Launch} {D : xD}
set_option maxRecDepth 20000 in
theorem c_Mo_init {h : xH} {m : Nat} (hm : h m = some (13, (List.range 85).map dfM)) : xMet l D 1 y_Mo_init [.ref m] h 57 196324 (fun o h' => o = .inl none ∧ ∃ ad : Nat → Nat, mok (m, ad) ∧ h' = mH h (m, ad) S00 ∧ ∀ k ∈ arF, h (ad k) = none) := by
  refine m_Mo_init (Nat.le_of_ble_eq_true rfl) fun X hl hD hP hA => ?_
  subst hl hD
  have e509 : ∀ (h1 : xH) (ad : Nat → Nat) (f : Nat → Value), iI h m 84 z5 ad f h1 → xG X 509 [(0, .ref m)] [] h1 0 0 := by
    intro h1 ad f I
    refine xgo [] 5 hA ?_
    obtain ⟨a1, a2, a3⟩ := I.fin
    exact xP hP ⟨rfl, ad, a1, a2, a3⟩
  have e501 : ∀ (h1 : xH) (ad : Nat → Nat) (f : Nat → Value), iI h m 83 z5 ad f h1 → xG X 501 [(0, .ref m)] [] h1 1 24 := by
    intro h1 ad f I
    refine xgo [509] 8 hA ?_
    refine xna (N := 24) (by rfl) (by decide) (Nat.le_of_ble_eq_true rfl) (Nat.le_of_ble_eq_true rfl) fun q hq => ?_
    refine xp (fs' := (List.range 85).map (upn f 83 (.ref q))) (xst2 (xnn I.1 hq) I.1) rfl (upn_set f _) ?_
    exact e509 _ _ _ (I.arr (k := 83) hq (by rfl) (by decide) (by decide))
  have e493 : ∀ (h1 : xH) (ad : Nat → Nat) (f : Nat → Value), iI h m 82 z5 ad f h1 → xG X 493 [(0, .ref m)] [] h1 2 144 := by
    intro h1 ad f I
    refine xgo [501] 8 hA ?_
    refine xna (N := 120) (by rfl) (by decide) (Nat.le_of_ble_eq_true rfl) (Nat.le_of_ble_eq_true rfl) fun q hq => ?_
    refine xp (fs' := (List.range 85).map (upn f 82 (.ref q))) (xst2 (xnn I.1 hq) I.1) rfl (upn_set f _) ?_
    exact e501 _ _ _ (I.arr (k := 82) hq (by rfl) (by decide) (by decide))
  have e484 : ∀ (h1 : xH) (ad : Nat → Nat) (f : Nat → Value), iI h m 81 z5 ad f h1 → xG X 484 [(0, .ref m)] [] h1 3 644 := by
    intro h1 ad f I
    refine xgo [493] 8 hA ?_
    refine xna (N := 500) (by rfl) (by decide) (Nat.le_of_ble_eq_true rfl) (Nat.le_of_ble_eq_true rfl) fun q hq => ?_
    refine xp (fs' := (List.range 85).map (upn f 81 (.ref q))) (xst2 (xnn I.1 hq) I.1) rfl (upn_set f _) ?_
    exact e493 _ _ _ (I.arr (k := 81) hq (by rfl) (by decide) (by decide))
  have e475 : ∀ (h1 : xH) (ad : Nat → Nat) (f : Nat → Value), iI h m 79 z5 ad f h1 → xG X 475 [(0, .ref m)] [] h1 4 1144 := by
    intro h1 ad f I
    refine xgo [484] 8 hA ?_
    refine xna (N := 500) (by rfl) (by decide) (Nat.le_of_ble_eq_true rfl) (Nat.le_of_ble_eq_true rfl) fun q hq => ?_
    refine xp (fs' := (List.range 85).map (upn f 80 (.ref q))) (xst2 (xnn I.1 hq) I.1) rfl (upn_set f _) ?_
    exact e484 _ _ _ (I.arr (k := 80) hq (by rfl) (by decide) (by decide))
  have e467 : ∀ (h1 : xH) (ad : Nat → Nat) (f : Nat → Value), iI h m 78 z5 ad f h1 → xG X 467 [(0, .ref m)] [] h1 5 1174 := by
    intro h1 ad f I
    refine xgo [475] 8 hA ?_
    refine xna (N := 30) (by rfl) (by decide) (Nat.le_of_ble_eq_true rfl) (Nat.le_of_ble_eq_true rfl) fun q hq => ?_
    refine xp (fs' := (List.range 85).map (upn f 78 (.ref q))) (xst2 (xnn I.1 hq) I.1) rfl (upn_set f _) ?_
    exact e475 _ _ _ (I.arr (k := 78) hq (by rfl) (by decide) (by decide))
  have e459 : ∀ (h1 : xH) (ad : Nat → Nat) (f : Nat → Value), iI h m 77 z5 ad f h1 → xG X 459 [(0, .ref m)] [] h1 6 1204 := by
    intro h1 ad f I
    refine xgo [467] 8 hA ?_
    refine xna (N := 30) (by rfl) (by decide) (Nat.le_of_ble_eq_true rfl) (Nat.le_of_ble_eq_true rfl) fun q hq => ?_
    refine xp (fs' := (List.range 85).map (upn f 77 (.ref q))) (xst2 (xnn I.1 hq) I.1) rfl (upn_set f _) ?_
    exact e467 _ _ _ (I.arr (k := 77) hq (by rfl) (by decide) (by decide))
  have e450 : ∀ (h1 : xH) (ad : Nat → Nat) (f : Nat → Value), iI h m 76 z5 ad f h1 → xG X 450 [(0, .ref m)] [] h1 7 1804 := by
    intro h1 ad f I
    refine xgo [459] 8 hA ?_
    refine xna (N := 600) (by rfl) (by decide) (Nat.le_of_ble_eq_true rfl) (Nat.le_of_ble_eq_true rfl) fun q hq => ?_
    refine xp (fs' := (List.range 85).map (upn f 76 (.ref q))) (xst2 (xnn I.1 hq) I.1) rfl (upn_set f _) ?_
    exact e459 _ _ _ (I.arr (k := 76) hq (by rfl) (by decide) (by decide))
  have e441 : ∀ (h1 : xH) (ad : Nat → Nat) (f : Nat → Value), iI h m 75 z5 ad f h1 → xG X 441 [(0, .ref m)] [] h1 8 2404 := by
    intro h1 ad f I
    refine xgo [450] 8 hA ?_
    refine xna (N := 600) (by rfl) (by decide) (Nat.le_of_ble_eq_true rfl) (Nat.le_of_ble_eq_true rfl) fun q hq => ?_
    refine xp (fs' := (List.range 85).map (upn f 75 (.ref q))) (xst2 (xnn I.1 hq) I.1) rfl (upn_set f _) ?_
    exact e450 _ _ _ (I.arr (k := 75) hq (by rfl) (by decide) (by decide))
  have e432 : ∀ (h1 : xH) (ad : Nat → Nat) (f : Nat → Value), iI h m 74 z5 ad f h1 → xG X 432 [(0, .ref m)] [] h1 9 3004 := by
    intro h1 ad f I
    refine xgo [441] 8 hA ?_
    refine xna (N := 600) (by rfl) (by decide) (Nat.le_of_ble_eq_true rfl) (Nat.le_of_ble_eq_true rfl) fun q hq => ?_
    refine xp (fs' := (List.range 85).map (upn f 74 (.ref q))) (xst2 (xnn I.1 hq) I.1) rfl (upn_set f _) ?_
    exact e441 _ _ _ (I.arr (k := 74) hq (by rfl) (by decide) (by decide))
  have e423 : ∀ (h1 : xH) (ad : Nat → Nat) (f : Nat → Value), iI h m 73 z5 ad f h1 → xG X 423 [(0, .ref m)] [] h1 10 3604 := by
    intro h1 ad f I
    refine xgo [432] 8 hA ?_
    refine xna (N := 600) (by rfl) (by decide) (Nat.le_of_ble_eq_true rfl) (Nat.le_of_ble_eq_true rfl) fun q hq => ?_
    refine xp (fs' := (List.range 85).map (upn f 73 (.ref q))) (xst2 (xnn I.1 hq) I.1) rfl (upn_set f _) ?_
    exact e432 _ _ _ (I.arr (k := 73) hq (by rfl) (by decide) (by decide))
  have e414 : ∀ (h1 : xH) (ad : Nat → Nat) (f : Nat → Value), iI h m 72 z5 ad f h1 → xG X 414 [(0, .ref m)] [] h1 11 4204 := by
    intro h1 ad f I
    refine xgo [423] 8 hA ?_
    refine xna (N := 600) (by rfl) (by decide) (Nat.le_of_ble_eq_true rfl) (Nat.le_of_ble_eq_true rfl) fun q hq => ?_
    refine xp (fs' := (List.range 85).map (upn f 72 (.ref q))) (xst2 (xnn I.1 hq) I.1) rfl (upn_set f _) ?_
    exact e423 _ _ _ (I.arr (k := 72) hq (by rfl) (by decide) (by decide))
  have e405 : ∀ (h1 : xH) (ad : Nat → Nat) (f : Nat → Value), iI h m 71 z5 ad f h1 → xG X 405 [(0, .ref m)] [] h1 12 4804 := by
    intro h1 ad f I
    refine xgo [414] 8 hA ?_
    refine xna (N := 600) (by rfl) (by decide) (Nat.le_of_ble_eq_true rfl) (Nat.le_of_ble_eq_true rfl) fun q hq => ?_
    refine xp (fs' := (List.range 85).map (upn f 71 (.ref q))) (xst2 (xnn I.1 hq) I.1) rfl (upn_set f _) ?_
    exact e414 _ _ _ (I.arr (k := 71) hq (by rfl) (by decide) (by decide))
  have e396 : ∀ (h1 : xH) (ad : Nat → Nat) (f : Nat → Value), iI h m 68 z5 ad f h1 → xG X 396 [(0, .ref m)] [] h1 13 5404 := by
    intro h1 ad f I
    refine xgo [405] 8 hA ?_
    refine xna (N := 600) (by rfl) (by decide) (Nat.le_of_ble_eq_true rfl) (Nat.le_of_ble_eq_true rfl) fun q hq => ?_
    refine xp (fs' := (List.range 85).map (upn f 70 (.ref q))) (xst2 (xnn I.1 hq) I.1) rfl (upn_set f _) ?_
    exact e405 _ _ _ (I.arr (k := 70) hq (by rfl) (by decide) (by decide))
  have e387 : ∀ (h1 : xH) (ad : Nat → Nat) (f : Nat → Value), iI h m 67 z5 ad f h1 → xG X 387 [(0, .ref m)] [] h1 14 9404 := by
    intro h1 ad f I
    refine xgo [396] 8 hA ?_
    refine xna (N := 4000) (by rfl) (by decide) (Nat.le_of_ble_eq_true rfl) (Nat.le_of_ble_eq_true rfl) fun q hq => ?_
    refine xp (fs' := (List.range 85).map (upn f 67 (.ref q))) (xst2 (xnn I.1 hq) I.1) rfl (upn_set f _) ?_
    exact e396 _ _ _ (I.arr (k := 67) hq (by rfl) (by decide) (by decide))
  have e378 : ∀ (h1 : xH) (ad : Nat → Nat) (f : Nat → Value), iI h m 66 z5 ad f h1 → xG X 378 [(0, .ref m)] [] h1 15 13404 := by
    intro h1 ad f I
    refine xgo [387] 8 hA ?_
    refine xna (N := 4000) (by rfl) (by decide) (Nat.le_of_ble_eq_true rfl) (Nat.le_of_ble_eq_true rfl) fun q hq => ?_
    refine xp (fs' := (List.range 85).map (upn f 66 (.ref q))) (xst2 (xnn I.1 hq) I.1) rfl (upn_set f _) ?_
    exact e387 _ _ _ (I.arr (k := 66) hq (by rfl) (by decide) (by decide))
  have e369 : ∀ (h1 : xH) (ad : Nat → Nat) (f : Nat → Value), iI h m 65 z5 ad f h1 → xG X 369 [(0, .ref m)] [] h1 16 17404 := by
    intro h1 ad f I
    refine xgo [378] 8 hA ?_
    refine xna (N := 4000) (by rfl) (by decide) (Nat.le_of_ble_eq_true rfl) (Nat.le_of_ble_eq_true rfl) fun q hq => ?_
    refine xp (fs' := (List.range 85).map (upn f 65 (.ref q))) (xst2 (xnn I.1 hq) I.1) rfl (upn_set f _) ?_
    exact e378 _ _ _ (I.arr (k := 65) hq (by rfl) (by decide) (by decide))
  have e360 : ∀ (h1 : xH) (ad : Nat → Nat) (f : Nat → Value), iI h m 64 z5 ad f h1 → xG X 360 [(0, .ref m)] [] h1 17 21404 := by
    intro h1 ad f I
    refine xgo [369] 8 hA ?_
    refine xna (N := 4000) (by rfl) (by decide) (Nat.le_of_ble_eq_true rfl) (Nat.le_of_ble_eq_true rfl) fun q hq => ?_
    refine xp (fs' := (List.range 85).map (upn f 64 (.ref q))) (xst2 (xnn I.1 hq) I.1) rfl (upn_set f _) ?_
    exact e369 _ _ _ (I.arr (k := 64) hq (by rfl) (by decide) (by decide))
  have e351 : ∀ (h1 : xH) (ad : Nat → Nat) (f : Nat → Value), iI h m 63 z5 ad f h1 → xG X 351 [(0, .ref m)] [] h1 18 25404 := by
    intro h1 ad f I
    refine xgo [360] 8 hA ?_
    refine xna (N := 4000) (by rfl) (by decide) (Nat.le_of_ble_eq_true rfl) (Nat.le_of_ble_eq_true rfl) fun q hq => ?_
    refine xp (fs' := (List.range 85).map (upn f 63 (.ref q))) (xst2 (xnn I.1 hq) I.1) rfl (upn_set f _) ?_
    exact e360 _ _ _ (I.arr (k := 63) hq (by rfl) (by decide) (by decide))
  have e342 : ∀ (h1 : xH) (ad : Nat → Nat) (f : Nat → Value), iI h m 62 z5 ad f h1 → xG X 342 [(0, .ref m)] [] h1 19 29404 := by
    intro h1 ad f I
    refine xgo [351] 8 hA ?_
    refine xna (N := 4000) (by rfl) (by decide) (Nat.le_of_ble_eq_true rfl) (Nat.le_of_ble_eq_true rfl) fun q hq => ?_
    refine xp (fs' := (List.range 85).map (upn f 62 (.ref q))) (xst2 (xnn I.1 hq) I.1) rfl (upn_set f _) ?_
    exact e351 _ _ _ (I.arr (k := 62) hq (by rfl) (by decide) (by decide))
  have e333 : ∀ (h1 : xH) (ad : Nat → Nat) (f : Nat → Value), iI h m 61 z5 ad f h1 → xG X 333 [(0, .ref m)] [] h1 20 30404 := by
    intro h1 ad f I
    refine xgo [342] 8 hA ?_
    refine xna (N := 1000) (by rfl) (by decide) (Nat.le_of_ble_eq_true rfl) (Nat.le_of_ble_eq_true rfl) fun q hq => ?_
    refine xp (fs' := (List.range 85).map (upn f 61 (.ref q))) (xst2 (xnn I.1 hq) I.1) rfl (upn_set f _) ?_
    exact e342 _ _ _ (I.arr (k := 61) hq (by rfl) (by decide) (by decide))
  have e324 : ∀ (h1 : xH) (ad : Nat → Nat) (f : Nat → Value), iI h m 60 z5 ad f h1 → xG X 324 [(0, .ref m)] [] h1 21 31404 := by
    intro h1 ad f I
    refine xgo [333] 8 hA ?_
    refine xna (N := 1000) (by rfl) (by decide) (Nat.le_of_ble_eq_true rfl) (Nat.le_of_ble_eq_true rfl) fun q hq => ?_
    refine xp (fs' := (List.range 85).map (upn f 60 (.ref q))) (xst2 (xnn I.1 hq) I.1) rfl (upn_set f _) ?_
    exact e333 _ _ _ (I.arr (k := 60) hq (by rfl) (by decide) (by decide))
  have e315 : ∀ (h1 : xH) (ad : Nat → Nat) (f : Nat → Value), iI h m 59 z5 ad f h1 → xG X 315 [(0, .ref m)] [] h1 22 32404 := by
    intro h1 ad f I
    refine xgo [324] 8 hA ?_
    refine xna (N := 1000) (by rfl) (by decide) (Nat.le_of_ble_eq_true rfl) (Nat.le_of_ble_eq_true rfl) fun q hq => ?_
    refine xp (fs' := (List.range 85).map (upn f 59 (.ref q))) (xst2 (xnn I.1 hq) I.1) rfl (upn_set f _) ?_
    exact e324 _ _ _ (I.arr (k := 59) hq (by rfl) (by decide) (by decide))
  have e306 : ∀ (h1 : xH) (ad : Nat → Nat) (f : Nat → Value), iI h m 58 z5 ad f h1 → xG X 306 [(0, .ref m)] [] h1 23 33404 := by
    intro h1 ad f I
    refine xgo [315] 8 hA ?_
    refine xna (N := 1000) (by rfl) (by decide) (Nat.le_of_ble_eq_true rfl) (Nat.le_of_ble_eq_true rfl) fun q hq => ?_
    refine xp (fs' := (List.range 85).map (upn f 58 (.ref q))) (xst2 (xnn I.1 hq) I.1) rfl (upn_set f _) ?_
    exact e315 _ _ _ (I.arr (k := 58) hq (by rfl) (by decide) (by decide))
  have e297 : ∀ (h1 : xH) (ad : Nat → Nat) (f : Nat → Value), iI h m 57 z5 ad f h1 → xG X 297 [(0, .ref m)] [] h1 24 34404 := by
    intro h1 ad f I
    refine xgo [306] 8 hA ?_
    refine xna (N := 1000) (by rfl) (by decide) (Nat.le_of_ble_eq_true rfl) (Nat.le_of_ble_eq_true rfl) fun q hq => ?_
    refine xp (fs' := (List.range 85).map (upn f 57 (.ref q))) (xst2 (xnn I.1 hq) I.1) rfl (upn_set f _) ?_
    exact e306 _ _ _ (I.arr (k := 57) hq (by rfl) (by decide) (by decide))
  have e289 : ∀ (h1 : xH) (ad : Nat → Nat) (f : Nat → Value), iI h m 56 z5 ad f h1 → xG X 289 [(0, .ref m)] [] h1 25 34527 := by
    intro h1 ad f I
    refine xgo [297] 8 hA ?_
    refine xna (N := 123) (by rfl) (by decide) (Nat.le_of_ble_eq_true rfl) (Nat.le_of_ble_eq_true rfl) fun q hq => ?_
    refine xp (fs' := (List.range 85).map (upn f 56 (.ref q))) (xst2 (xnn I.1 hq) I.1) rfl (upn_set f _) ?_
    exact e297 _ _ _ (I.arr (k := 56) hq (by rfl) (by decide) (by decide))
  have e281 : ∀ (h1 : xH) (ad : Nat → Nat) (f : Nat → Value), iI h m 55 z5 ad f h1 → xG X 281 [(0, .ref m)] [] h1 26 34650 := by
    intro h1 ad f I
    refine xgo [289] 8 hA ?_
    refine xna (N := 123) (by rfl) (by decide) (Nat.le_of_ble_eq_true rfl) (Nat.le_of_ble_eq_true rfl) fun q hq => ?_
    refine xp (fs' := (List.range 85).map (upn f 55 (.ref q))) (xst2 (xnn I.1 hq) I.1) rfl (upn_set f _) ?_
    exact e289 _ _ _ (I.arr (k := 55) hq (by rfl) (by decide) (by decide))
  have e273 : ∀ (h1 : xH) (ad : Nat → Nat) (f : Nat → Value), iI h m 54 z5 ad f h1 → xG X 273 [(0, .ref m)] [] h1 27 34773 := by
    intro h1 ad f I
    refine xgo [281] 8 hA ?_
    refine xna (N := 123) (by rfl) (by decide) (Nat.le_of_ble_eq_true rfl) (Nat.le_of_ble_eq_true rfl) fun q hq => ?_
    refine xp (fs' := (List.range 85).map (upn f 54 (.ref q))) (xst2 (xnn I.1 hq) I.1) rfl (upn_set f _) ?_
    exact e281 _ _ _ (I.arr (k := 54) hq (by rfl) (by decide) (by decide))
  have e265 : ∀ (h1 : xH) (ad : Nat → Nat) (f : Nat → Value), iI h m 44 z5 ad f h1 → xG X 265 [(0, .ref m)] [] h1 28 34896 := by
    intro h1 ad f I
    refine xgo [273] 8 hA ?_
    refine xna (N := 123) (by rfl) (by decide) (Nat.le_of_ble_eq_true rfl) (Nat.le_of_ble_eq_true rfl) fun q hq => ?_
    refine xp (fs' := (List.range 85).map (upn f 53 (.ref q))) (xst2 (xnn I.1 hq) I.1) rfl (upn_set f _) ?_
    exact e273 _ _ _ (I.arr (k := 53) hq (by rfl) (by decide) (by decide))
  have e256 : ∀ (h1 : xH) (ad : Nat → Nat) (f : Nat → Value), iI h m 42 z5 ad f h1 → xG X 256 [(0, .ref m)] [] h1 29 35396 := by
    intro h1 ad f I
    refine xgo [265] 8 hA ?_
    refine xna (N := 500) (by rfl) (by decide) (Nat.le_of_ble_eq_true rfl) (Nat.le_of_ble_eq_true rfl) fun q hq => ?_
    refine xp (fs' := (List.range 85).map (upn f 43 (.ref q))) (xst2 (xnn I.1 hq) I.1) rfl (upn_set f _) ?_
    exact e265 _ _ _ (I.arr (k := 43) hq (by rfl) (by decide) (by decide))
  have e247 : ∀ (h1 : xH) (ad : Nat → Nat) (f : Nat → Value), iI h m 37 z5 ad f h1 → xG X 247 [(0, .ref m)] [] h1 30 43588 := by
    intro h1 ad f I
    refine xgo [256] 8 hA ?_
    refine xna (N := 8192) (by rfl) (by decide) (Nat.le_of_ble_eq_true rfl) (Nat.le_of_ble_eq_true rfl) fun q hq => ?_
    refine xp (fs' := (List.range 85).map (upn f 41 (.ref q))) (xst2 (xnn I.1 hq) I.1) rfl (upn_set f _) ?_
    exact e256 _ _ _ (I.arr (k := 41) hq (by rfl) (by decide) (by decide))
  have e239 : ∀ (h1 : xH) (ad : Nat → Nat) (f : Nat → Value), iI h m 36 z5 ad f h1 → xG X 239 [(0, .ref m)] [] h1 31 43628 := by
    intro h1 ad f I
    refine xgo [247] 8 hA ?_
    refine xna (N := 40) (by rfl) (by decide) (Nat.le_of_ble_eq_true rfl) (Nat.le_of_ble_eq_true rfl) fun q hq => ?_
    refine xp (fs' := (List.range 85).map (upn f 36 (.ref q))) (xst2 (xnn I.1 hq) I.1) rfl (upn_set f _) ?_
    exact e247 _ _ _ (I.arr (k := 36) hq (by rfl) (by decide) (by decide))
  have e231 : ∀ (h1 : xH) (ad : Nat → Nat) (f : Nat → Value), iI h m 35 z5 ad f h1 → xG X 231 [(0, .ref m)] [] h1 32 43668 := by
    intro h1 ad f I
    refine xgo [239] 8 hA ?_
    refine xna (N := 40) (by rfl) (by decide) (Nat.le_of_ble_eq_true rfl) (Nat.le_of_ble_eq_true rfl) fun q hq => ?_
    refine xp (fs' := (List.range 85).map (upn f 35 (.ref q))) (xst2 (xnn I.1 hq) I.1) rfl (upn_set f _) ?_
    exact e239 _ _ _ (I.arr (k := 35) hq (by rfl) (by decide) (by decide))
  have e223 : ∀ (h1 : xH) (ad : Nat → Nat) (f : Nat → Value), iI h m 34 z5 ad f h1 → xG X 223 [(0, .ref m)] [] h1 33 43708 := by
    intro h1 ad f I
    refine xgo [231] 8 hA ?_
    refine xna (N := 40) (by rfl) (by decide) (Nat.le_of_ble_eq_true rfl) (Nat.le_of_ble_eq_true rfl) fun q hq => ?_
    refine xp (fs' := (List.range 85).map (upn f 34 (.ref q))) (xst2 (xnn I.1 hq) I.1) rfl (upn_set f _) ?_
    exact e231 _ _ _ (I.arr (k := 34) hq (by rfl) (by decide) (by decide))
  have e215 : ∀ (h1 : xH) (ad : Nat → Nat) (f : Nat → Value), iI h m 32 z5 ad f h1 → xG X 215 [(0, .ref m)] [] h1 34 43748 := by
    intro h1 ad f I
    refine xgo [223] 8 hA ?_
    refine xna (N := 40) (by rfl) (by decide) (Nat.le_of_ble_eq_true rfl) (Nat.le_of_ble_eq_true rfl) fun q hq => ?_
    refine xp (fs' := (List.range 85).map (upn f 33 (.ref q))) (xst2 (xnn I.1 hq) I.1) rfl (upn_set f _) ?_
    exact e223 _ _ _ (I.arr (k := 33) hq (by rfl) (by decide) (by decide))
  have e206 : ∀ (h1 : xH) (ad : Nat → Nat) (f : Nat → Value), iI h m 31 z5 ad f h1 → xG X 206 [(0, .ref m)] [] h1 35 63748 := by
    intro h1 ad f I
    refine xgo [215] 8 hA ?_
    refine xna (N := 20000) (by rfl) (by decide) (Nat.le_of_ble_eq_true rfl) (Nat.le_of_ble_eq_true rfl) fun q hq => ?_
    refine xp (fs' := (List.range 85).map (upn f 31 (.ref q))) (xst2 (xnn I.1 hq) I.1) rfl (upn_set f _) ?_
    exact e215 _ _ _ (I.arr (k := 31) hq (by rfl) (by decide) (by decide))
  have e197 : ∀ (h1 : xH) (ad : Nat → Nat) (f : Nat → Value), iI h m 30 z5 ad f h1 → xG X 197 [(0, .ref m)] [] h1 36 83748 := by
    intro h1 ad f I
    refine xgo [206] 8 hA ?_
    refine xna (N := 20000) (by rfl) (by decide) (Nat.le_of_ble_eq_true rfl) (Nat.le_of_ble_eq_true rfl) fun q hq => ?_
    refine xp (fs' := (List.range 85).map (upn f 30 (.ref q))) (xst2 (xnn I.1 hq) I.1) rfl (upn_set f _) ?_
    exact e206 _ _ _ (I.arr (k := 30) hq (by rfl) (by decide) (by decide))
  have e188 : ∀ (h1 : xH) (ad : Nat → Nat) (f : Nat → Value), iI h m 29 z5 ad f h1 → xG X 188 [(0, .ref m)] [] h1 37 89748 := by
    intro h1 ad f I
    refine xgo [197] 8 hA ?_
    refine xna (N := 6000) (by rfl) (by decide) (Nat.le_of_ble_eq_true rfl) (Nat.le_of_ble_eq_true rfl) fun q hq => ?_
    refine xp (fs' := (List.range 85).map (upn f 29 (.ref q))) (xst2 (xnn I.1 hq) I.1) rfl (upn_set f _) ?_
    exact e197 _ _ _ (I.arr (k := 29) hq (by rfl) (by decide) (by decide))
  have e179 : ∀ (h1 : xH) (ad : Nat → Nat) (f : Nat → Value), iI h m 28 z5 ad f h1 → xG X 179 [(0, .ref m)] [] h1 38 95748 := by
    intro h1 ad f I
    refine xgo [188] 8 hA ?_
    refine xna (N := 6000) (by rfl) (by decide) (Nat.le_of_ble_eq_true rfl) (Nat.le_of_ble_eq_true rfl) fun q hq => ?_
    refine xp (fs' := (List.range 85).map (upn f 28 (.ref q))) (xst2 (xnn I.1 hq) I.1) rfl (upn_set f _) ?_
    exact e188 _ _ _ (I.arr (k := 28) hq (by rfl) (by decide) (by decide))
  have e170 : ∀ (h1 : xH) (ad : Nat → Nat) (f : Nat → Value), iI h m 27 z5 ad f h1 → xG X 170 [(0, .ref m)] [] h1 39 101748 := by
    intro h1 ad f I
    refine xgo [179] 8 hA ?_
    refine xna (N := 6000) (by rfl) (by decide) (Nat.le_of_ble_eq_true rfl) (Nat.le_of_ble_eq_true rfl) fun q hq => ?_
    refine xp (fs' := (List.range 85).map (upn f 27 (.ref q))) (xst2 (xnn I.1 hq) I.1) rfl (upn_set f _) ?_
    exact e179 _ _ _ (I.arr (k := 27) hq (by rfl) (by decide) (by decide))
  have e161 : ∀ (h1 : xH) (ad : Nat → Nat) (f : Nat → Value), iI h m 26 z5 ad f h1 → xG X 161 [(0, .ref m)] [] h1 40 107748 := by
    intro h1 ad f I
    refine xgo [170] 8 hA ?_
    refine xna (N := 6000) (by rfl) (by decide) (Nat.le_of_ble_eq_true rfl) (Nat.le_of_ble_eq_true rfl) fun q hq => ?_
    refine xp (fs' := (List.range 85).map (upn f 26 (.ref q))) (xst2 (xnn I.1 hq) I.1) rfl (upn_set f _) ?_
    exact e170 _ _ _ (I.arr (k := 26) hq (by rfl) (by decide) (by decide))
  have e152 : ∀ (h1 : xH) (ad : Nat → Nat) (f : Nat → Value), iI h m 25 z5 ad f h1 → xG X 152 [(0, .ref m)] [] h1 41 108748 := by
    intro h1 ad f I
    refine xgo [161] 8 hA ?_
    refine xna (N := 1000) (by rfl) (by decide) (Nat.le_of_ble_eq_true rfl) (Nat.le_of_ble_eq_true rfl) fun q hq => ?_
    refine xp (fs' := (List.range 85).map (upn f 25 (.ref q))) (xst2 (xnn I.1 hq) I.1) rfl (upn_set f _) ?_
    exact e161 _ _ _ (I.arr (k := 25) hq (by rfl) (by decide) (by decide))
  have e143 : ∀ (h1 : xH) (ad : Nat → Nat) (f : Nat → Value), iI h m 24 z5 ad f h1 → xG X 143 [(0, .ref m)] [] h1 42 109748 := by
    intro h1 ad f I
    refine xgo [152] 8 hA ?_
    refine xna (N := 1000) (by rfl) (by decide) (Nat.le_of_ble_eq_true rfl) (Nat.le_of_ble_eq_true rfl) fun q hq => ?_
    refine xp (fs' := (List.range 85).map (upn f 24 (.ref q))) (xst2 (xnn I.1 hq) I.1) rfl (upn_set f _) ?_
    exact e152 _ _ _ (I.arr (k := 24) hq (by rfl) (by decide) (by decide))
  have e134 : ∀ (h1 : xH) (ad : Nat → Nat) (f : Nat → Value), iI h m 23 z5 ad f h1 → xG X 134 [(0, .ref m)] [] h1 43 110748 := by
    intro h1 ad f I
    refine xgo [143] 8 hA ?_
    refine xna (N := 1000) (by rfl) (by decide) (Nat.le_of_ble_eq_true rfl) (Nat.le_of_ble_eq_true rfl) fun q hq => ?_
    refine xp (fs' := (List.range 85).map (upn f 23 (.ref q))) (xst2 (xnn I.1 hq) I.1) rfl (upn_set f _) ?_
    exact e143 _ _ _ (I.arr (k := 23) hq (by rfl) (by decide) (by decide))
  have e125 : ∀ (h1 : xH) (ad : Nat → Nat) (f : Nat → Value), iI h m 22 z5 ad f h1 → xG X 125 [(0, .ref m)] [] h1 44 111748 := by
    intro h1 ad f I
    refine xgo [134] 8 hA ?_
    refine xna (N := 1000) (by rfl) (by decide) (Nat.le_of_ble_eq_true rfl) (Nat.le_of_ble_eq_true rfl) fun q hq => ?_
    refine xp (fs' := (List.range 85).map (upn f 22 (.ref q))) (xst2 (xnn I.1 hq) I.1) rfl (upn_set f _) ?_
    exact e134 _ _ _ (I.arr (k := 22) hq (by rfl) (by decide) (by decide))
  have e116 : ∀ (h1 : xH) (ad : Nat → Nat) (f : Nat → Value), iI h m 21 z5 ad f h1 → xG X 116 [(0, .ref m)] [] h1 45 112748 := by
    intro h1 ad f I
    refine xgo [125] 8 hA ?_
    refine xna (N := 1000) (by rfl) (by decide) (Nat.le_of_ble_eq_true rfl) (Nat.le_of_ble_eq_true rfl) fun q hq => ?_
    refine xp (fs' := (List.range 85).map (upn f 21 (.ref q))) (xst2 (xnn I.1 hq) I.1) rfl (upn_set f _) ?_
    exact e125 _ _ _ (I.arr (k := 21) hq (by rfl) (by decide) (by decide))
  have e107 : ∀ (h1 : xH) (ad : Nat → Nat) (f : Nat → Value), iI h m 20 z5 ad f h1 → xG X 107 [(0, .ref m)] [] h1 46 113748 := by
    intro h1 ad f I
    refine xgo [116] 8 hA ?_
    refine xna (N := 1000) (by rfl) (by decide) (Nat.le_of_ble_eq_true rfl) (Nat.le_of_ble_eq_true rfl) fun q hq => ?_
    refine xp (fs' := (List.range 85).map (upn f 20 (.ref q))) (xst2 (xnn I.1 hq) I.1) rfl (upn_set f _) ?_
    exact e116 _ _ _ (I.arr (k := 20) hq (by rfl) (by decide) (by decide))
  have e98 : ∀ (h1 : xH) (ad : Nat → Nat) (f : Nat → Value), iI h m 19 z5 ad f h1 → xG X 98 [(0, .ref m)] [] h1 47 114748 := by
    intro h1 ad f I
    refine xgo [107] 8 hA ?_
    refine xna (N := 1000) (by rfl) (by decide) (Nat.le_of_ble_eq_true rfl) (Nat.le_of_ble_eq_true rfl) fun q hq => ?_
    refine xp (fs' := (List.range 85).map (upn f 19 (.ref q))) (xst2 (xnn I.1 hq) I.1) rfl (upn_set f _) ?_
    exact e107 _ _ _ (I.arr (k := 19) hq (by rfl) (by decide) (by decide))
  have e89 : ∀ (h1 : xH) (ad : Nat → Nat) (f : Nat → Value), iI h m 18 z5 ad f h1 → xG X 89 [(0, .ref m)] [] h1 48 115748 := by
    intro h1 ad f I
    refine xgo [98] 8 hA ?_
    refine xna (N := 1000) (by rfl) (by decide) (Nat.le_of_ble_eq_true rfl) (Nat.le_of_ble_eq_true rfl) fun q hq => ?_
    refine xp (fs' := (List.range 85).map (upn f 18 (.ref q))) (xst2 (xnn I.1 hq) I.1) rfl (upn_set f _) ?_
    exact e98 _ _ _ (I.arr (k := 18) hq (by rfl) (by decide) (by decide))
  have e80 : ∀ (h1 : xH) (ad : Nat → Nat) (f : Nat → Value), iI h m 17 z5 ad f h1 → xG X 80 [(0, .ref m)] [] h1 49 116748 := by
    intro h1 ad f I
    refine xgo [89] 8 hA ?_
    refine xna (N := 1000) (by rfl) (by decide) (Nat.le_of_ble_eq_true rfl) (Nat.le_of_ble_eq_true rfl) fun q hq => ?_
    refine xp (fs' := (List.range 85).map (upn f 17 (.ref q))) (xst2 (xnn I.1 hq) I.1) rfl (upn_set f _) ?_
    exact e89 _ _ _ (I.arr (k := 17) hq (by rfl) (by decide) (by decide))
  have e71 : ∀ (h1 : xH) (ad : Nat → Nat) (f : Nat → Value), iI h m 16 z5 ad f h1 → xG X 71 [(0, .ref m)] [] h1 50 117748 := by
    intro h1 ad f I
    refine xgo [80] 8 hA ?_
    refine xna (N := 1000) (by rfl) (by decide) (Nat.le_of_ble_eq_true rfl) (Nat.le_of_ble_eq_true rfl) fun q hq => ?_
    refine xp (fs' := (List.range 85).map (upn f 16 (.ref q))) (xst2 (xnn I.1 hq) I.1) rfl (upn_set f _) ?_
    exact e80 _ _ _ (I.arr (k := 16) hq (by rfl) (by decide) (by decide))
  have e62 : ∀ (h1 : xH) (ad : Nat → Nat) (f : Nat → Value), iI h m 15 z5 ad f h1 → xG X 62 [(0, .ref m)] [] h1 51 118748 := by
    intro h1 ad f I
    refine xgo [71] 8 hA ?_
    refine xna (N := 1000) (by rfl) (by decide) (Nat.le_of_ble_eq_true rfl) (Nat.le_of_ble_eq_true rfl) fun q hq => ?_
    refine xp (fs' := (List.range 85).map (upn f 15 (.ref q))) (xst2 (xnn I.1 hq) I.1) rfl (upn_set f _) ?_
    exact e71 _ _ _ (I.arr (k := 15) hq (by rfl) (by decide) (by decide))
  have e53 : ∀ (h1 : xH) (ad : Nat → Nat) (f : Nat → Value), iI h m 14 z5 ad f h1 → xG X 53 [(0, .ref m)] [] h1 52 119748 := by
    intro h1 ad f I
    refine xgo [62] 8 hA ?_
    refine xna (N := 1000) (by rfl) (by decide) (Nat.le_of_ble_eq_true rfl) (Nat.le_of_ble_eq_true rfl) fun q hq => ?_
    refine xp (fs' := (List.range 85).map (upn f 14 (.ref q))) (xst2 (xnn I.1 hq) I.1) rfl (upn_set f _) ?_
    exact e62 _ _ _ (I.arr (k := 14) hq (by rfl) (by decide) (by decide))
  have e44 : ∀ (h1 : xH) (ad : Nat → Nat) (f : Nat → Value), iI h m 13 z5 ad f h1 → xG X 44 [(0, .ref m)] [] h1 53 120748 := by
    intro h1 ad f I
    refine xgo [53] 8 hA ?_
    refine xna (N := 1000) (by rfl) (by decide) (Nat.le_of_ble_eq_true rfl) (Nat.le_of_ble_eq_true rfl) fun q hq => ?_
    refine xp (fs' := (List.range 85).map (upn f 13 (.ref q))) (xst2 (xnn I.1 hq) I.1) rfl (upn_set f _) ?_
    exact e53 _ _ _ (I.arr (k := 13) hq (by rfl) (by decide) (by decide))
  have e35 : ∀ (h1 : xH) (ad : Nat → Nat) (f : Nat → Value), iI h m 8 z5 ad f h1 → xG X 35 [(0, .ref m)] [] h1 54 121748 := by
    intro h1 ad f I
    refine xgo [44] 8 hA ?_
    refine xna (N := 1000) (by rfl) (by decide) (Nat.le_of_ble_eq_true rfl) (Nat.le_of_ble_eq_true rfl) fun q hq => ?_
    refine xp (fs' := (List.range 85).map (upn f 12 (.ref q))) (xst2 (xnn I.1 hq) I.1) rfl (upn_set f _) ?_
    exact e44 _ _ _ (I.arr (k := 12) hq (by rfl) (by decide) (by decide))
  have e27 : ∀ (h1 : xH) (ad : Nat → Nat) (f : Nat → Value), iI h m 4 z5 ad f h1 → xG X 27 [(0, .ref m)] [] h1 55 171748 := by
    intro h1 ad f I
    refine xgo [35] 8 hA ?_
    refine xna (N := 50000) (by rfl) (by decide) (Nat.le_of_ble_eq_true rfl) (Nat.le_of_ble_eq_true rfl) fun q hq => ?_
    refine xp (fs' := (List.range 85).map (upn f 7 (.ref q))) (xst2 (xnn I.1 hq) I.1) rfl (upn_set f _) ?_
    exact e35 _ _ _ (I.arr (k := 7) hq (by rfl) (by decide) (by decide))
  have e22 : ∀ (h1 : xH) (ad : Nat → Nat) (f : Nat → Value), iI h m 4 (fun _ => 0) ad f h1 → xG X 22 [(0, .ref m)] [] h1 55 171748 := by
    intro h1 ad f I
    refine xgo [27] 8 hA ?_
    refine xp (fs' := (List.range 85).map (upn f 5 (.int (-1)))) I.1 rfl (upn_set f _) ?_
    exact e27 _ _ _ I.five
  have e13 : ∀ (h1 : xH) (ad : Nat → Nat) (f : Nat → Value), iI h m 2 (fun _ => 0) ad f h1 → xG X 13 [(0, .ref m)] [] h1 56 188132 := by
    intro h1 ad f I
    refine xgo [22] 8 hA ?_
    refine xna (N := 16384) (by rfl) (by decide) (Nat.le_of_ble_eq_true rfl) (Nat.le_of_ble_eq_true rfl) fun q hq => ?_
    refine xp (fs' := (List.range 85).map (upn f 3 (.ref q))) (xst2 (xnn I.1 hq) I.1) rfl (upn_set f _) ?_
    exact e22 _ _ _ (I.arr (k := 3) hq (by rfl) (by decide) (by decide))
  have e4 : ∀ (h1 : xH) (ad : Nat → Nat) (f : Nat → Value), iI h m 0 (fun _ => 0) ad f h1 → xG X 4 [(0, .ref m)] [] h1 57 196324 := by
    intro h1 ad f I
    refine xgo [13] 8 hA ?_
    refine xna (N := 8192) (by rfl) (by decide) (Nat.le_of_ble_eq_true rfl) (Nat.le_of_ble_eq_true rfl) fun q hq => ?_
    refine xp (fs' := (List.range 85).map (upn f 1 (.ref q))) (xst2 (xnn I.1 hq) I.1) rfl (upn_set f _) ?_
    exact e13 _ _ _ (I.arr (k := 1) hq (by rfl) (by decide) (by decide))
  refine xgo [4] 8 hA ?_
  exact (e4 h (fun _ => 0) dfM ⟨hm, fun k _ hk => by omega, fun j _ hj => by omega, fun k _ hz => if_neg (by rw [hz]; decide), fun q _ _ => rfl⟩).locs (by simp [lv_args])
end
theorem mR00 : mR S00 AS0 := by
  refine ⟨⟨rfl, fun k hk => (by cases hk), by decide⟩, ⟨rfl, fun k hk => (by cases hk)⟩, ⟨rfl, fun i k hk => (by cases hk), rfl⟩, rfl, ⟨⟨rfl, rfl, rfl⟩, ⟨⟨fun k hk => (by cases hk), by decide, fun b hb => (by cases hb)⟩, by decide, fun z => absurd rfl z⟩, ⟨fun k hk => (by cases hk), fun i p hp => (by cases hp)⟩, rfl, ⟨0, by rfl⟩, SI.zero []⟩, ⟨rfl, ⟨fun k hk => (by cases hk), by decide, fun b hb => (by cases hb)⟩, by decide, ⟨rfl, rfl, rfl, ⟨0, 0, rfl, rfl, by decide, by decide, fun i q hq => (by cases hq)⟩, fun i q hq => (by cases hq), fun i q hq => (by cases hq), by decide, by decide, by decide⟩, YS0, 0, by rfl, rfl, rfl⟩, rfl⟩
