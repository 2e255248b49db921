/-! WHAT FITS -/
/-- a field is as a condition says -/
def fvH (ty : List Nat) (c : CN) (fo : Option (List Nat × List Nat)) : Bool := match fo with
  | none => false
  | some q => match c.2.2.1 with
    | none => true
    | some u => decide (q.2 = sub ty u)
def fH (ts ty : List Nat) (S : SS) (c : CN) (i : Nat) : Bool := fvH ty c (((S.fd i).find? (fun q => decide (sub ts q.1 = sub ty c.2.1))).map (nmB ts))
def elN (ts : List Nat) (S : SS) (i : Nat) : List Nat := sub ts (S.F 0 i, S.F 1 i)
def cH (ts ty : List Nat) (S : SS) (c : CN) (i : Nat) : Bool := if c.1 = 1 then decide (S.F 4 i = 1) else if c.1 = 2 then decide (S.F 10 i = 0) else if c.1 = 3 then (S.F 8 i == 0 && S.F 11 i == 0) else if c.1 = 4 then decide (S.F 4 i = c.2.2.2) else if c.1 = 5 then !decide (elN ts S i = sub ty c.2.1) else fH ts ty S c i
def nmH (ts ty : List Nat) (S : SS) (n : Option (Nat × Nat)) (i : Nat) : Bool := match n with
  | none => true
  | some a => decide (sub ty a = elN ts S i)
def stH (ts ty : List Nat) (S : SS) (s : ST) (i : Nat) : Bool := nmH ts ty S s.1 i && s.2.2.all (fun c => cH ts ty S c i)
def anc (F : SF) : Nat → Nat → List Nat
  | 0, _ => []
  | n + 1, i => if F 2 i = 0 then [] else (F 2 i - 1) :: anc F n (F 2 i - 1)
def parO (F : SF) (i : Nat) : Option Nat := if F 2 i = 0 then none else some (F 2 i - 1)
def befO (F : SF) (i : Nat) : Option Nat := if F 3 i = 0 then none else some (F 3 i - 1)
def back (F : SF) (lk i : Nat) : List Nat := if lk = 43 then (befO F i).toList else if lk = 47 then anc F 20 i else (parO F i).toList
/-- the steps ahead fit: the link behind them, the steps from the last to the first, the element -/
def ch2 (ts ty : List Nat) (S : SS) : Nat → List ST → Nat → Bool
  | _, [], _ => true
  | lk, s :: rest, i => (back S.F lk i).any (fun y => stH ts ty S s y && ch2 ts ty S s.2.1 rest y)
def mt (ts ty : List Nat) (S : SS) (l : List ST) (i : Nat) : Bool := match l.reverse with
  | [] => false
  | s :: rest => stH ts ty S s i && ch2 ts ty S s.2.1 rest i
/-- how elements hang together -/
def SW (S : SS) : Prop := S.n ≤ 500 ∧ ∀ k, k < S.n → (S.F 2 k ≤ k ∧ S.F 3 k ≤ k ∧ S.F 5 k < 20) ∧ (S.F 2 k = 0 → S.F 5 k = 0) ∧ (S.F 2 k ≠ 0 → S.F 5 k = S.F 5 (S.F 2 k - 1) + 1) ∧ (S.F 3 k ≠ 0 → S.F 2 (S.F 3 k - 1) = S.F 2 k) ∧ S.F 4 k ≤ 500 ∧ S.F 8 k ≤ 500 ∧ S.F 10 k ≤ 1 ∧ S.F 11 k ≤ 1
def upN (F : SF) : Nat → Nat → Nat
  | 0, i => i
  | k + 1, i => upN F k (F 2 i - 1)
theorem upN_snoc (F : SF) : ∀ k i, upN F (k + 1) i = F 2 (upN F k i) - 1
  | 0, _ => rfl
  | k + 1, i => by show upN F (k + 1) (F 2 i - 1) = _; rw [upN_snoc F k]; rfl
/-- what e is in, at depth d -/
def ap (S : SS) (e d : Nat) : Nat := upN S.F (S.F 5 e - d) e
theorem ap_self (S : SS) (e : Nat) : ap S e (S.F 5 e) = e := by rw [ap, Nat.sub_self]; rfl
theorem ap_ok {S : SS} (W : SW S) {e : Nat} (he : e < S.n) : ∀ k, k ≤ S.F 5 e → upN S.F k e < S.n ∧ S.F 5 (upN S.F k e) = S.F 5 e - k
  | 0, _ => ⟨he, rfl⟩
  | k + 1, hk => by
    obtain ⟨h1, h2⟩ := ap_ok W he k (by omega)
    obtain ⟨⟨w1, w2, w3⟩, w4, w5, -⟩ := W.2 _ h1
    have hne : S.F 2 (upN S.F k e) ≠ 0 := fun z => by have := w4 z; omega
    have := w5 hne
    rw [upN_snoc]
    exact ⟨by omega, by omega⟩
theorem ap_lt {S : SS} (W : SW S) {e d : Nat} (he : e < S.n) (hd : d ≤ S.F 5 e) : ap S e d < S.n ∧ S.F 5 (ap S e d) = d := by
  obtain ⟨h1, h2⟩ := ap_ok W he (S.F 5 e - d) (by omega)
  exact ⟨h1, by unfold ap; omega⟩
theorem ap_par {S : SS} (W : SW S) {e d : Nat} (he : e < S.n) (hd : d + 1 ≤ S.F 5 e) : S.F 2 (ap S e (d + 1)) = ap S e d + 1 := by
  obtain ⟨h1, h2⟩ := ap_lt W he hd
  obtain ⟨⟨w1, w2, w3⟩, w4, w5, -⟩ := W.2 _ h1
  have hne : S.F 2 (ap S e (d + 1)) ≠ 0 := fun z => by have := w4 z; omega
  have e1 : ap S e d = S.F 2 (ap S e (d + 1)) - 1 := by
    unfold ap
    rw [← upN_snoc]
    congr 1
    omega
  omega
theorem anc_mem {S : SS} (W : SW S) {e : Nat} (he : e < S.n) : ∀ (m d x : Nat), d ≤ m → d ≤ S.F 5 e → x < S.n → S.F 5 x = d → S.F 2 x = S.F 2 (ap S e d) → ∀ y, y ∈ anc S.F m x ↔ ∃ d', d' < d ∧ y = ap S e d'
  | 0, d, x, hm, hd, hx, h5, h2, y => by
    have : d = 0 := by omega
    subst this
    exact ⟨fun z => (by cases z), fun ⟨d', z, _⟩ => absurd z (Nat.not_lt_zero _)⟩
  | m + 1, d, x, hm, hd, hx, h5, h2, y => by
    unfold anc
    by_cases z : S.F 2 x = 0
    · rw [if_pos z]
      have := (W.2 x hx).2.1 z
      have hd0 : d = 0 := by omega
      subst hd0
      exact ⟨fun z => (by cases z), fun ⟨d', z, _⟩ => absurd z (Nat.not_lt_zero _)⟩
    · rw [if_neg z]
      have h5' := (W.2 x hx).2.2.1 z
      obtain ⟨d1, rfl⟩ : ∃ d1, d = d1 + 1 := ⟨d - 1, by omega⟩
      have hp := ap_par W he (d := d1) hd
      have e1 : S.F 2 x - 1 = ap S e d1 := by omega
      obtain ⟨g1, g2⟩ := ap_lt W he (d := d1) (by omega)
      rw [e1]
      have ih := anc_mem W he m d1 (ap S e d1) (by omega) (by omega) g1 g2 rfl y
      rw [List.mem_cons, ih]
      constructor
      · rintro (rfl | ⟨d', q1, q2⟩)
        · exact ⟨d1, by omega, rfl⟩
        · exact ⟨d', by omega, q2⟩
      · rintro ⟨d', q1, q2⟩
        by_cases q : d' = d1
        · subst q; exact Or.inl q2
        · exact Or.inr ⟨d', by omega, q2⟩
/-- a row by depth -/
abbrev RW : Type := Nat → Option Nat
def rwOk (S : SS) (e : Nat) (R : RW) : Prop := ∀ d i, d ≤ S.F 5 e → R d = some i → i < S.n ∧ S.F 5 i = d ∧ S.F 2 i = S.F 2 (ap S e d)
/-- the deeper one behind k turns -/
def dpR (F : SF) (lk : Nat) (R : RW) (dep : Nat) : Nat → Option Nat
  | 0 => none
  | k + 1 => if lk = 47 ∧ ((dpR F lk R dep k).bind (parO F)).isSome = true then (dpR F lk R dep k).bind (parO F) else R (dep - k)
def mvR (F : SF) (lk : Nat) (R : RW) (dep : Nat) : RW := fun d => if lk = 43 then (R d).bind (befO F) else (dpR F lk R dep (dep - d)).bind (parO F)
theorem dpR_ok {S : SS} (W : SW S) {e lk : Nat} {R : RW} (he : e < S.n) (hR : rwOk S e R) : ∀ k, k ≤ S.F 5 e + 1 → ∀ i, dpR S.F lk R (S.F 5 e) k = some i → i < S.n ∧ S.F 5 i + k = S.F 5 e + 1 ∧ S.F 2 i = S.F 2 (ap S e (S.F 5 i))
  | 0, _, i, h => by cases h
  | k + 1, hk, i, h => by
    unfold dpR at h
    split at h
    · rename_i hc
      cases h1 : dpR S.F lk R (S.F 5 e) k with
      | none => rw [h1] at h; cases h
      | some j =>
        rw [h1] at h
        obtain ⟨a1, a2, a3⟩ := dpR_ok W he hR k (by omega) j h1
        have hne : S.F 2 j ≠ 0 := fun z => by have := (W.2 j a1).2.1 z; omega
        have h' : parO S.F j = some i := h
        rw [parO, if_neg hne] at h'
        cases h'
        have h5 := (W.2 j a1).2.2.1 hne
        have hj := (W.2 j a1).1.1
        have e1 : S.F 5 j = S.F 5 (S.F 2 j - 1) + 1 := h5
        have hk0 : k ≠ 0 := fun z => by subst z; exact absurd h1 (by simp [dpR])
        have hp := ap_par W he (d := S.F 5 (S.F 2 j - 1)) (by omega)
        have e2 : S.F 2 j - 1 = ap S e (S.F 5 (S.F 2 j - 1)) := by
          rw [← e1, ← a3] at hp; omega
        refine ⟨by omega, by omega, ?_⟩
        rw [← e2]
    · obtain ⟨b1, b2, b3⟩ := hR (S.F 5 e - k) i (by omega) h
      exact ⟨b1, by omega, by rw [b2]; exact b3⟩
theorem dpR_47 {S : SS} (W : SW S) {e : Nat} {R : RW} (he : e < S.n) (hR : rwOk S e R) : ∀ k, k ≤ S.F 5 e + 1 → ((dpR S.F 47 R (S.F 5 e) k).isSome = true ↔ ∃ d, d ≤ S.F 5 e ∧ S.F 5 e + 1 ≤ d + k ∧ (R d).isSome = true)
  | 0, _ => ⟨fun z => (by cases z), fun ⟨d, q1, q2, _⟩ => by omega⟩
  | k + 1, hk => by
    have ih := dpR_47 W he hR k (by omega)
    have hpar : ((dpR S.F 47 R (S.F 5 e) k).bind (parO S.F)).isSome = true ↔ (dpR S.F 47 R (S.F 5 e) k).isSome = true := by
      cases h1 : dpR S.F 47 R (S.F 5 e) k with
      | none => exact Iff.rfl
      | some j =>
        obtain ⟨a1, a2, a3⟩ := dpR_ok W he hR k (by omega) j h1
        have hne : S.F 2 j ≠ 0 := fun z => by have := (W.2 j a1).2.1 z; omega
        show (parO S.F j).isSome = true ↔ _
        rw [parO, if_neg hne]
        exact Iff.rfl
    unfold dpR
    by_cases hc : ((dpR S.F 47 R (S.F 5 e) k).bind (parO S.F)).isSome = true
    · rw [if_pos ⟨rfl, hc⟩]
      refine ⟨fun _ => ?_, fun _ => hc⟩
      obtain ⟨d, q1, q2, q3⟩ := ih.mp (hpar.mp hc)
      exact ⟨d, q1, by omega, q3⟩
    · rw [if_neg (fun z => hc z.2)]
      have hn : ¬ ∃ d, d ≤ S.F 5 e ∧ S.F 5 e + 1 ≤ d + k ∧ (R d).isSome = true := fun z => hc (hpar.mpr (ih.mpr z))
      constructor
      · intro z
        exact ⟨S.F 5 e - k, by omega, by omega, z⟩
      · rintro ⟨d, q1, q2, q3⟩
        by_cases q : S.F 5 e + 1 ≤ d + k
        · exact absurd ⟨d, q1, q, q3⟩ hn
        · have : d = S.F 5 e - k := by omega
          rw [← this]; exact q3
def memR (R : RW) (dep x : Nat) : Prop := ∃ d, d ≤ dep ∧ R d = some x
theorem mvR_mem {S : SS} (W : SW S) {e lk : Nat} {R : RW} (he : e < S.n) (hR : rwOk S e R) (y : Nat) : memR (mvR S.F lk R (S.F 5 e)) (S.F 5 e) y ↔ ∃ x, memR R (S.F 5 e) x ∧ y ∈ back S.F lk x := by
  unfold mvR back
  by_cases h43 : lk = 43
  · simp only [if_pos h43]
    constructor
    · rintro ⟨d, hd, h⟩
      have h : (R d).bind (befO S.F) = some y := h
      cases h1 : R d with
      | none => rw [h1] at h; cases h
      | some x =>
        rw [h1] at h
        exact ⟨x, ⟨d, hd, h1⟩, by rw [show befO S.F x = some y from h]; simp⟩
    · rintro ⟨x, ⟨d, hd, h1⟩, h2⟩
      refine ⟨d, hd, ?_⟩
      show (R d).bind (befO S.F) = some y
      rw [h1]
      show befO S.F x = some y
      exact Option.mem_toList.mp h2
  · simp only [if_neg h43]
    by_cases h47 : lk = 47
    · subst h47
      simp only [if_true]
      have key : ∀ d, d ≤ S.F 5 e → ∀ y, (dpR S.F 47 R (S.F 5 e) (S.F 5 e - d)).bind (parO S.F) = some y ↔ (∃ d', d' ≤ S.F 5 e ∧ d < d' ∧ (R d').isSome = true) ∧ y = ap S e d := by
        intro d hd y
        have hs := dpR_47 W he hR (S.F 5 e - d) (by omega)
        cases h1 : dpR S.F 47 R (S.F 5 e) (S.F 5 e - d) with
        | none =>
          rw [h1] at hs
          refine ⟨fun z => (by cases z), fun ⟨⟨d', q1, q2, q3⟩, _⟩ => ?_⟩
          exact absurd (hs.mpr ⟨d', q1, by omega, q3⟩) (by simp)
        | some j =>
          rw [h1] at hs
          obtain ⟨a1, a2, a3⟩ := dpR_ok W he hR (S.F 5 e - d) (by omega) j h1
          obtain ⟨d', q1, q2, q3⟩ := hs.mp rfl
          have hne : S.F 2 j ≠ 0 := fun z => by have := (W.2 j a1).2.1 z; omega
          have e5 : S.F 5 j = d + 1 := by omega
          have hp := ap_par W he (d := d) (by omega)
          rw [e5] at a3
          show parO S.F j = some y ↔ _
          rw [parO, if_neg hne]
          have e6 : S.F 2 j - 1 = ap S e d := by omega
          rw [e6]
          constructor
          · intro z
            cases z
            exact ⟨⟨d', q1, by omega, q3⟩, rfl⟩
          · rintro ⟨-, rfl⟩
            rfl
      constructor
      · rintro ⟨d, hd, h⟩
        obtain ⟨⟨d', q1, q2, q3⟩, q4⟩ := (key d hd y).mp h
        obtain ⟨x, hx⟩ := Option.isSome_iff_exists.mp q3
        obtain ⟨b1, b2, b3⟩ := hR d' x q1 hx
        exact ⟨x, ⟨d', q1, hx⟩, (anc_mem W he 20 d' x (by have := (W.2 x b1).1.2.2; omega) q1 b1 b2 b3 y).mpr ⟨d, q2, q4⟩⟩
      · rintro ⟨x, ⟨d', q1, hx⟩, h⟩
        obtain ⟨b1, b2, b3⟩ := hR d' x q1 hx
        obtain ⟨d, q2, q4⟩ := (anc_mem W he 20 d' x (by have := (W.2 x b1).1.2.2; omega) q1 b1 b2 b3 y).mp h
        exact ⟨d, by omega, (key d (by omega) y).mpr ⟨⟨d', q1, q2, by rw [hx]; rfl⟩, q4⟩⟩
    · simp only [if_neg h47]
      have key : ∀ k, dpR S.F lk R (S.F 5 e) (k + 1) = R (S.F 5 e - k) := fun k => by
        show (if _ then _ else _) = _
        rw [if_neg (fun z => h47 z.1)]
      constructor
      · rintro ⟨d, hd, h⟩
        have h : (dpR S.F lk R (S.F 5 e) (S.F 5 e - d)).bind (parO S.F) = some y := h
        by_cases hd2 : d = S.F 5 e
        · subst hd2
          rw [Nat.sub_self] at h; cases h
        · have e1 : S.F 5 e - d = (S.F 5 e - d - 1) + 1 := by omega
          rw [e1, key] at h
          cases h1 : R (S.F 5 e - (S.F 5 e - d - 1)) with
          | none => rw [h1] at h; cases h
          | some x =>
            rw [h1] at h
            exact ⟨x, ⟨_, by omega, h1⟩, by rw [show parO S.F x = some y from h]; simp⟩
      · rintro ⟨x, ⟨d', q1, hx⟩, h⟩
        have h : parO S.F x = some y := Option.mem_toList.mp h
        obtain ⟨b1, b2, b3⟩ := hR d' x q1 hx
        have hne : S.F 2 x ≠ 0 := fun z => by rw [parO, if_pos z] at h; cases h
        have h5 := (W.2 x b1).2.2.1 hne
        refine ⟨d' - 1, by omega, ?_⟩
        show (dpR S.F lk R (S.F 5 e) (S.F 5 e - (d' - 1))).bind (parO S.F) = some y
        have e1 : S.F 5 e - (d' - 1) = (S.F 5 e - d') + 1 := by omega
        rw [e1, key]
        have e2 : S.F 5 e - (S.F 5 e - d') = d' := by omega
        rw [e2, hx]
        exact h
theorem mvR_ok {S : SS} (W : SW S) {e lk : Nat} {R : RW} (he : e < S.n) (hR : rwOk S e R) : rwOk S e (mvR S.F lk R (S.F 5 e)) := by
  intro d i hd h
  unfold mvR at h
  split at h
  · cases h1 : R d with
    | none => rw [h1] at h; cases h
    | some x =>
      rw [h1] at h
      obtain ⟨b1, b2, b3⟩ := hR d x hd h1
      have h : befO S.F x = some i := h
      unfold befO at h
      split at h
      · cases h
      · rename_i hne
        cases h
        obtain ⟨⟨w1, w2, w3⟩, w4, w5, w6, -⟩ := W.2 x b1
        have w7 := w6 hne
        obtain ⟨⟨v1, v2, v3⟩, v4, v5, -⟩ := W.2 (S.F 3 x - 1) (by omega)
        refine ⟨by omega, ?_, by rw [w7]; exact b3⟩
        by_cases z : S.F 2 x = 0
        · rw [v4 (by rw [w7]; exact z), ← b2, w4 z]
        · rw [v5 (by rw [w7]; exact z), w7, ← w5 z, b2]
  · cases h1 : dpR S.F lk R (S.F 5 e) (S.F 5 e - d) with
    | none => rw [h1] at h; cases h
    | some j =>
      rw [h1] at h
      obtain ⟨a1, a2, a3⟩ := dpR_ok W he hR (S.F 5 e - d) (by omega) j h1
      have h : parO S.F j = some i := h
      unfold parO at h
      split at h
      · cases h
      · rename_i hne
        cases h
        have h5 := (W.2 j a1).2.2.1 hne
        have hj := (W.2 j a1).1.1
        have e5 : S.F 5 j = d + 1 := by omega
        rw [e5] at a3
        have hk0 : S.F 5 e - d ≠ 0 := fun z => by rw [z] at h1; exact absurd h1 (by simp [dpR])
        have hp := ap_par W he (d := d) (by omega)
        have e6 : S.F 2 j - 1 = ap S e d := by omega
        exact ⟨by omega, by omega, by rw [e6]⟩
/-- something of the row is so -/
def exR (R : RW) (dep : Nat) (P : Nat → Bool) : Bool := (List.range (dep + 1)).any (fun d => (R d).any P)
theorem exR_iff {R : RW} {dep : Nat} {P : Nat → Bool} : exR R dep P = true ↔ ∃ x, memR R dep x ∧ P x = true := by
  unfold exR
  rw [List.any_eq_true]
  constructor
  · rintro ⟨d, hd, h⟩
    cases h1 : R d with
    | none => rw [h1] at h; cases h
    | some x =>
      rw [h1] at h
      exact ⟨x, ⟨d, by have := List.mem_range.mp hd; omega, h1⟩, h⟩
  · rintro ⟨x, ⟨d, hd, h1⟩, h⟩
    exact ⟨d, List.mem_range.mpr (by omega), by rw [h1]; exact h⟩
def flt (P : Nat → Bool) (R : RW) : RW := fun d => (R d).filter P
theorem exR_step {S : SS} (W : SW S) {ts ty : List Nat} {e lk : Nat} {s : ST} {rest : List ST} {R : RW} (he : e < S.n) (hR : rwOk S e R) : exR R (S.F 5 e) (ch2 ts ty S lk (s :: rest)) = exR (flt (stH ts ty S s) (mvR S.F lk R (S.F 5 e))) (S.F 5 e) (ch2 ts ty S s.2.1 rest) := by
  rw [Bool.eq_iff_iff, exR_iff, exR_iff]
  constructor
  · rintro ⟨x, hx, h⟩
    have h : (back S.F lk x).any (fun y => stH ts ty S s y && ch2 ts ty S s.2.1 rest y) = true := h
    rw [List.any_eq_true] at h
    obtain ⟨y, hy, h2⟩ := h
    rw [Bool.and_eq_true] at h2
    obtain ⟨d, hd, h3⟩ := (mvR_mem W he hR y).mpr ⟨x, hx, hy⟩
    refine ⟨y, ⟨d, hd, ?_⟩, h2.2⟩
    show (mvR S.F lk R (S.F 5 e) d).filter _ = some y
    rw [h3, Option.filter_some, if_pos h2.1]
  · rintro ⟨y, ⟨d, hd, h3⟩, h⟩
    have h3 : (mvR S.F lk R (S.F 5 e) d).filter (stH ts ty S s) = some y := h3
    obtain ⟨h4, h5⟩ := Option.filter_eq_some_iff.mp h3
    obtain ⟨x, hx, hy⟩ := (mvR_mem W he hR y).mp ⟨d, hd, h4⟩
    refine ⟨x, hx, ?_⟩
    show (back S.F lk x).any (fun y => stH ts ty S s y && ch2 ts ty S s.2.1 rest y) = true
    rw [List.any_eq_true]
    exact ⟨y, hy, by rw [h5, h]; rfl⟩
theorem flt_ok {S : SS} {e : Nat} {R : RW} {P : Nat → Bool} (hR : rwOk S e R) : rwOk S e (flt P R) := fun d i hd h => hR d i hd (Option.filter_eq_some_iff.mp h).1
/-- the row that has e alone -/
def rw1 (e dep : Nat) : RW := fun d => if d = dep then some e else none
theorem rw1_ok {S : SS} {e : Nat} (he : e < S.n) : rwOk S e (rw1 e (S.F 5 e)) := by
  intro d i hd h
  unfold rw1 at h
  split at h
  · rename_i z
    cases h
    subst z
    exact ⟨he, rfl, by rw [ap_self]⟩
  · cases h
theorem rw1_ex {S : SS} {e : Nat} (P : Nat → Bool) : exR (rw1 e (S.F 5 e)) (S.F 5 e) P = P e := by
  rw [Bool.eq_iff_iff, exR_iff]
  constructor
  · rintro ⟨x, ⟨d, hd, h1⟩, h⟩
    unfold rw1 at h1
    split at h1
    · cases h1; exact h
    · cases h1
  · intro h
    exact ⟨e, ⟨S.F 5 e, Nat.le_refl _, by unfold rw1; rw [if_pos rfl]⟩, h⟩
