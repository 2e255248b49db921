/-! WHAT SOURCES KEEP TO -/
/-- how elements hang together: their number, the root's children and last child, numbers of elements -/
abbrev V1 : Type := Nat × Nat × Nat × (Nat → Nat → Nat)
def msk (F : SF) : Nat → Nat → Nat := fun f k => if (f == 2 || f == 3 || f == 4 || f == 5 || f == 8 || f == 9 || f == 10) = true then F f k else 0
def v1 (S : SS) : V1 := (S.n, S.tm, S.tl, msk S.F)
def CNv (v : V1) (p : Nat) : Nat := if p = 0 then v.2.1 else v.2.2.2 8 (p - 1)
def LCv (v : V1) (p : Nat) : Nat := if p = 0 then v.2.2.1 else v.2.2.2 9 (p - 1)
def SI1e (v : V1) (k : Nat) : Prop := (v.2.2.2 2 k ≤ k ∧ v.2.2.2 3 k ≤ k ∧ v.2.2.2 5 k < 20) ∧ (v.2.2.2 2 k = 0 → v.2.2.2 5 k = 0) ∧ (v.2.2.2 2 k ≠ 0 → v.2.2.2 5 k = v.2.2.2 5 (v.2.2.2 2 k - 1) + 1) ∧ (v.2.2.2 3 k ≠ 0 → v.2.2.2 2 (v.2.2.2 3 k - 1) = v.2.2.2 2 k) ∧ (v.2.2.2 4 k ≤ v.1 ∧ v.2.2.2 8 k ≤ v.1 ∧ v.2.2.2 10 k ≤ 1) ∧ (v.2.2.2 9 k ≤ v.1 ∧ (v.2.2.2 9 k ≠ 0 → v.2.2.2 2 (v.2.2.2 9 k - 1) = k + 1)) ∧
  (v.2.2.2 4 k ≤ CNv v (v.2.2.2 2 k) ∧ (v.2.2.2 10 k = 0 ↔ v.2.2.2 4 k = CNv v (v.2.2.2 2 k)) ∧ (LCv v (v.2.2.2 2 k) = k + 1 ↔ v.2.2.2 4 k = CNv v (v.2.2.2 2 k)))
def SI1 (v : V1) : Prop := v.1 ≤ 500 ∧ v.2.2.1 ≤ v.1 ∧ v.2.1 ≤ v.1 ∧ (v.2.2.1 ≠ 0 → v.2.2.2 2 (v.2.2.1 - 1) = 0) ∧ ∀ k, k < v.1 → SI1e v k
theorem SI1.lc {v : V1} (I : SI1 v) {p : Nat} (hp : p ≤ v.1) : LCv v p ≤ v.1 ∧ (LCv v p ≠ 0 → v.2.2.2 2 (LCv v p - 1) = p) := by
  unfold LCv
  by_cases z : p = 0
  · rw [if_pos z]
    exact ⟨I.2.1, fun h => by rw [I.2.2.2.1 h]; exact z.symm⟩
  · rw [if_neg z]
    obtain ⟨-, -, -, -, -, ⟨h1, h2⟩, -⟩ := I.2.2.2.2 (p - 1) (by omega)
    exact ⟨h1, fun h => by rw [h2 h]; omega⟩
theorem SI1.cn {v : V1} (I : SI1 v) {p : Nat} (hp : p ≤ v.1) : CNv v p ≤ v.1 := by
  unfold CNv
  by_cases z : p = 0
  · rw [if_pos z]; exact I.2.2.1
  · rw [if_neg z]
    exact (I.2.2.2.2 (p - 1) (by omega)).2.2.2.2.1.2.1
theorem SI1.add {n tm tl tm' tl' op dep : Nat} {g g' : Nat → Nat → Nat} (I : SI1 (n, tm, tl, g)) (hop : op ≤ n) (hn : n < 500) (hd : dep < 20) (hd0 : op = 0 → dep = 0) (hd1 : op ≠ 0 → dep = g 5 (op - 1) + 1)
    (h2 : ∀ f k, k < n → (f = 2 ∨ f = 3 ∨ f = 4 ∨ f = 5) → g' f k = g f k) (h8 : ∀ k, k < n → g' 8 k = if k + 1 = op then CNv (n, tm, tl, g) op + 1 else g 8 k) (h9 : ∀ k, k < n → g' 9 k = if k + 1 = op then n + 1 else g 9 k) (h10 : ∀ k, k < n → g' 10 k = if k + 1 = LCv (n, tm, tl, g) op then 1 else g 10 k)
    (n2 : g' 2 n = op) (n3 : g' 3 n = LCv (n, tm, tl, g) op) (n4 : g' 4 n = CNv (n, tm, tl, g) op + 1) (n5 : g' 5 n = dep) (n8 : g' 8 n = 0) (n9 : g' 9 n = 0) (n10 : g' 10 n = 0) (ht1 : tm' = if op = 0 then tm + 1 else tm) (ht2 : tl' = if op = 0 then n + 1 else tl) : SI1 (n + 1, tm', tl', g') := by
  have hlc := I.lc (p := op) hop
  have hcn := I.cn (p := op) hop
  obtain ⟨i1, i2, i3, i4, i5⟩ := id I
  have g2 : ∀ k, k < n → g' 2 k = g 2 k := fun k hk => h2 2 k hk (by simp)
  have g3 : ∀ k, k < n → g' 3 k = g 3 k := fun k hk => h2 3 k hk (by simp)
  have g4 : ∀ k, k < n → g' 4 k = g 4 k := fun k hk => h2 4 k hk (by simp)
  have g5 : ∀ k, k < n → g' 5 k = g 5 k := fun k hk => h2 5 k hk (by simp)
  -- children and last ones
  have hC : ∀ p, p ≤ n → CNv (n + 1, tm', tl', g') p = if p = op then CNv (n, tm, tl, g) op + 1 else CNv (n, tm, tl, g) p := by
    intro p hp
    unfold CNv
    by_cases z : p = 0
    · subst z
      simp only [if_true]
      rw [ht1]
      by_cases y : op = 0
      · subst y; rw [if_pos rfl, if_pos rfl, if_pos rfl]
      · rw [if_neg y, if_neg (fun w => y w.symm)]
    · simp only [if_neg z]
      rw [h8 _ (by omega)]
      by_cases y : p = op
      · subst y; rw [if_pos (by omega), if_pos rfl]; unfold CNv; rfl
      · rw [if_neg (by omega), if_neg y]
  have hL : ∀ p, p ≤ n → LCv (n + 1, tm', tl', g') p = if p = op then n + 1 else LCv (n, tm, tl, g) p := by
    intro p hp
    unfold LCv
    by_cases z : p = 0
    · subst z
      simp only [if_true]
      rw [ht2]
      by_cases y : op = 0
      · subst y; simp
      · rw [if_neg y, if_neg (fun w => y w.symm)]
    · simp only [if_neg z]
      rw [h9 _ (by omega)]
      by_cases y : p = op
      · subst y; rw [if_pos (by omega), if_pos rfl]
      · rw [if_neg (by omega), if_neg y]
  have i2 : tl ≤ n := i2
  have i3 : tm ≤ n := i3
  have hcn : CNv (n, tm, tl, g) op ≤ n := hcn
  refine ⟨by show n + 1 ≤ 500; omega, ?_, ?_, ?_, fun k hk => ?_⟩
  · show tl' ≤ n + 1
    rw [ht2]; split <;> omega
  · show tm' ≤ n + 1
    rw [ht1]; split <;> omega
  · show tl' ≠ 0 → g' 2 (tl' - 1) = 0
    rw [ht2]
    intro h
    by_cases y : op = 0
    · rw [if_pos y]
      show g' 2 n = 0
      rw [n2]; exact y
    · rw [if_neg y] at h ⊢
      rw [g2 _ (by omega)]
      exact i4 h
  · by_cases hkn : k = n
    · subst hkn
      unfold SI1e
      show (g' 2 k ≤ k ∧ g' 3 k ≤ k ∧ g' 5 k < 20) ∧ (g' 2 k = 0 → g' 5 k = 0) ∧ (g' 2 k ≠ 0 → g' 5 k = g' 5 (g' 2 k - 1) + 1) ∧ (g' 3 k ≠ 0 → g' 2 (g' 3 k - 1) = g' 2 k) ∧ (g' 4 k ≤ k + 1 ∧ g' 8 k ≤ k + 1 ∧ g' 10 k ≤ 1) ∧ (g' 9 k ≤ k + 1 ∧ (g' 9 k ≠ 0 → g' 2 (g' 9 k - 1) = k + 1)) ∧ (g' 4 k ≤ CNv (k + 1, tm', tl', g') (g' 2 k) ∧ (g' 10 k = 0 ↔ g' 4 k = CNv (k + 1, tm', tl', g') (g' 2 k)) ∧ (LCv (k + 1, tm', tl', g') (g' 2 k) = k + 1 ↔ g' 4 k = CNv (k + 1, tm', tl', g') (g' 2 k)))
      have hlc1 : LCv (k, tm, tl, g) op ≤ k := hlc.1
      rw [n2, n3, n4, n5, n8, n9, n10, hC op hop, hL op hop, if_pos rfl, if_pos rfl]
      refine ⟨⟨hop, hlc1, hd⟩, hd0, fun y => ?_, fun y => ?_, ⟨by omega, by omega, by omega⟩, ⟨by omega, fun y => absurd rfl y⟩, ⟨Nat.le_refl _, ⟨fun _ => rfl, fun _ => rfl⟩, ⟨fun _ => rfl, fun _ => rfl⟩⟩⟩
      · rw [g5 _ (by omega)]; exact hd1 y
      · rw [g2 _ (by omega)]; exact hlc.2 y
    · have hk : k < n + 1 := hk
      have hk' : k < n := by omega
      obtain ⟨⟨a1, a2, a3⟩, a4, a5, a6, ⟨a7, a8, a9⟩, ⟨a10, a11⟩, ⟨a12, a13, a14⟩⟩ := i5 k hk'
      have a1 : g 2 k ≤ k := a1
      have a2 : g 3 k ≤ k := a2
      have a3 : g 5 k < 20 := a3
      have a4 : g 2 k = 0 → g 5 k = 0 := a4
      have a5 : g 2 k ≠ 0 → g 5 k = g 5 (g 2 k - 1) + 1 := a5
      have a6 : g 3 k ≠ 0 → g 2 (g 3 k - 1) = g 2 k := a6
      have a7 : g 4 k ≤ n := a7
      have a8 : g 8 k ≤ n := a8
      have a9 : g 10 k ≤ 1 := a9
      have a10 : g 9 k ≤ n := a10
      have a11 : g 9 k ≠ 0 → g 2 (g 9 k - 1) = k + 1 := a11
      have a12 : g 4 k ≤ CNv (n, tm, tl, g) (g 2 k) := a12
      have a13 : g 10 k = 0 ↔ g 4 k = CNv (n, tm, tl, g) (g 2 k) := a13
      have a14 : LCv (n, tm, tl, g) (g 2 k) = k + 1 ↔ g 4 k = CNv (n, tm, tl, g) (g 2 k) := a14
      unfold SI1e
      show (g' 2 k ≤ k ∧ g' 3 k ≤ k ∧ g' 5 k < 20) ∧ (g' 2 k = 0 → g' 5 k = 0) ∧ (g' 2 k ≠ 0 → g' 5 k = g' 5 (g' 2 k - 1) + 1) ∧ (g' 3 k ≠ 0 → g' 2 (g' 3 k - 1) = g' 2 k) ∧ (g' 4 k ≤ n + 1 ∧ g' 8 k ≤ n + 1 ∧ g' 10 k ≤ 1) ∧ (g' 9 k ≤ n + 1 ∧ (g' 9 k ≠ 0 → g' 2 (g' 9 k - 1) = k + 1)) ∧ (g' 4 k ≤ CNv (n + 1, tm', tl', g') (g' 2 k) ∧ (g' 10 k = 0 ↔ g' 4 k = CNv (n + 1, tm', tl', g') (g' 2 k)) ∧ (LCv (n + 1, tm', tl', g') (g' 2 k) = k + 1 ↔ g' 4 k = CNv (n + 1, tm', tl', g') (g' 2 k)))
      rw [g2 k hk', g3 k hk', g4 k hk', g5 k hk', h8 k hk', h9 k hk', h10 k hk', hC (g 2 k) (by omega), hL (g 2 k) (by omega)]
      refine ⟨⟨a1, a2, a3⟩, a4, fun y => ?_, fun y => ?_, ⟨by omega, by split <;> omega, by split <;> omega⟩, ⟨by split <;> omega, fun y => ?_⟩, ?_⟩
      · rw [g5 _ (by omega)]; exact a5 y
      · rw [g2 _ (by omega)]; exact a6 y
      · by_cases w : k + 1 = op
        · rw [if_pos w]
          show g' 2 n = k + 1
          rw [n2]; exact w.symm
        · rw [if_neg w] at y ⊢
          rw [g2 _ (by omega)]; exact a11 y
      · by_cases w : g 2 k = op
        · rw [if_pos w, if_pos w]
          rw [w] at a12 a13 a14
          refine ⟨by omega, ⟨fun y => ?_, fun y => by omega⟩, ⟨fun y => by omega, fun y => by omega⟩⟩
          exfalso
          by_cases u : k + 1 = LCv (n, tm, tl, g) op
          · rw [if_pos u] at y; cases y
          · rw [if_neg u] at y
            exact u (a14.mpr (a13.mp y)).symm
        · rw [if_neg w, if_neg w]
          have u : ¬ k + 1 = LCv (n, tm, tl, g) op := fun u => by
            have := hlc.2 (by omega)
            rw [← u] at this
            exact w this
          rw [if_neg u]
          exact ⟨a12, a13, a14⟩
/-- the chain of what is not closed -/
def upP (F : SF) : Nat → Nat → Nat
  | 0, x => x
  | m + 1, x => upP F m (if x = 0 then 0 else F 2 (x - 1))
def opn (F : SF) (x y : Nat) : Prop := ∃ m, upP F m x = y
theorem upP_0 (F : SF) : ∀ m, upP F m 0 = 0
  | 0 => rfl
  | m + 1 => by show upP F m (if 0 = 0 then 0 else _) = 0; rw [if_pos rfl]; exact upP_0 F m
theorem upP_congr {F F' : SF} {n : Nat} (h : ∀ k, k < n → F 2 k ≤ k) (he : ∀ k, k < n → F' 2 k = F 2 k) : ∀ m x, x ≤ n → upP F' m x = upP F m x
  | 0, _, _ => rfl
  | m + 1, x, hx => by
    show upP F' m (if x = 0 then 0 else F' 2 (x - 1)) = upP F m (if x = 0 then 0 else F 2 (x - 1))
    by_cases z : x = 0
    · rw [if_pos z, if_pos z, upP_0, upP_0]
    · rw [if_neg z, if_neg z, he _ (by omega)]
      have h1 := h (x - 1) (by omega)
      exact upP_congr h he m _ (by omega)
theorem upP_le {F : SF} {n : Nat} (h : ∀ k, k < n → F 2 k ≤ k) : ∀ m x, x ≤ n → upP F m x ≤ x
  | 0, x, _ => Nat.le_refl _
  | m + 1, x, hx => by
    show upP F m (if x = 0 then 0 else F 2 (x - 1)) ≤ x
    by_cases z : x = 0
    · rw [if_pos z, upP_0]; omega
    · rw [if_neg z]
      have h1 := h (x - 1) (by omega)
      have := upP_le h m (F 2 (x - 1)) (by omega)
      omega
theorem opn.le {F : SF} {n x y : Nat} (h : ∀ k, k < n → F 2 k ≤ k) (hx : x ≤ n) (o : opn F x y) : y ≤ x := by
  obtain ⟨m, hm⟩ := o
  rw [← hm]; exact upP_le h m x hx
theorem opn.congr {F F' : SF} {n x y : Nat} (h : ∀ k, k < n → F 2 k ≤ k) (he : ∀ k, k < n → F' 2 k = F 2 k) (hx : x ≤ n) (o : opn F x y) : opn F' x y := by
  obtain ⟨m, hm⟩ := o
  exact ⟨m, by rw [upP_congr h he m x hx]; exact hm⟩
theorem opn.up {F : SF} {x y : Nat} (hx : x ≠ 0) (o : opn F (F 2 (x - 1)) y) : opn F x y := by
  obtain ⟨m, hm⟩ := o
  exact ⟨m + 1, by show upP F m (if x = 0 then 0 else F 2 (x - 1)) = y; rw [if_neg hx]; exact hm⟩
theorem opn.cs {F : SF} {x y : Nat} (hx : x ≠ 0) (o : opn F x y) : y = x ∨ opn F (F 2 (x - 1)) y := by
  obtain ⟨m, hm⟩ := o
  cases m with
  | zero => exact Or.inl hm.symm
  | succ m =>
    have hm : upP F m (if x = 0 then 0 else F 2 (x - 1)) = y := hm
    rw [if_neg hx] at hm
    exact Or.inr ⟨m, hm⟩
theorem opn.zero {F : SF} {y : Nat} (o : opn F 0 y) : y = 0 := by
  obtain ⟨m, hm⟩ := o
  rw [upP_0] at hm; exact hm.symm
/-- the numbers of an element -/
def SI2 (t : List Nat) (S : SS) : Prop := ∀ k, k < S.n → (S.fd k).length ≤ 6 ∧ S.F 6 k ≤ t.length ∧ S.F 12 k ≤ t.length ∧ S.F 0 k + S.F 1 k ≤ t.length ∧ S.F 11 k ≤ 1
/-- its pieces, once it is closed; until then -/
def cls (F : SF) (ps pc : List (Nat × Nat)) (k : Nat) : Prop := F 13 k ≤ F 14 k ∧ F 14 k ≤ ps.length ∧ F 15 k ≤ F 16 k ∧ F 16 k ≤ pc.length ∧ (ps.drop (F 13 k)).take (F 14 k - F 13 k) = (pc.drop (F 15 k)).take (F 16 k - F 15 k)
def ncl (F : SF) (ps pc : List (Nat × Nat)) (k : Nat) : Prop := F 13 k ≤ ps.length ∧ F 15 k ≤ pc.length ∧ ps.drop (F 13 k) = pc.drop (F 15 k)
def SI3 (S : SS) : Prop := S.op ≤ S.n ∧ ∀ k, k < S.n → (opn S.F S.op (k + 1) → ncl S.F S.ps S.pc k) ∧ (opn S.F S.op (k + 1) ∨ cls S.F S.ps S.pc k)
def SI (t : List Nat) (S : SS) : Prop := SI1 (v1 S) ∧ SI2 t S ∧ SI3 S
theorem SI.f2 {t : List Nat} {S : SS} (I : SI t S) : ∀ k, k < S.n → S.F 2 k ≤ k := fun k hk => (I.1.2.2.2.2 k hk).1.1
theorem msk_up {F : SF} {f k v : Nat} (h : (f == 2 || f == 3 || f == 4 || f == 5 || f == 8 || f == 9 || f == 10) = false) : msk (up F f k v) = msk F := by
  funext a b
  unfold msk up
  by_cases z : a = f
  · subst z
    rw [if_neg (by rw [h]; decide), if_neg (by rw [h]; decide)]
  · rw [show (if a = f ∧ b = k then v else F a b) = F a b from if_neg fun y => z y.1]
theorem cls.app {F : SF} {ps pc a b : List (Nat × Nat)} {k : Nat} (h : cls F ps pc k) : cls F (ps ++ a) (pc ++ b) k := by
  obtain ⟨h1, h2, h3, h4, h5⟩ := h
  refine ⟨h1, by rw [List.length_append]; omega, h3, by rw [List.length_append]; omega, ?_⟩
  rw [List.drop_append_of_le_length (by omega), List.drop_append_of_le_length (by omega), List.take_append_of_le_length (by rw [List.length_drop]; omega), List.take_append_of_le_length (by rw [List.length_drop]; omega)]
  exact h5
theorem SI.addP {t : List Nat} {S : SS} (I : SI t S) (p : Nat × Nat) : SI t (Jvm.Pilot.CStyleCourtLaw_law_r7137_36fa50.addP S p) := by
  obtain ⟨i1, i2, i3, i4⟩ := I
  unfold Jvm.Pilot.CStyleCourtLaw_law_r7137_36fa50.addP
  split
  · exact ⟨i1, i2, i3, i4⟩
  · split
    · rename_i h0
      have hno : ∀ k, ¬ opn S.F S.op (k + 1) := fun k z => by
        rw [h0] at z
        have := z.zero
        omega
      refine ⟨i1, i2, i3, fun k hk => ⟨fun z => absurd z (hno k), Or.inr ?_⟩⟩
      rcases (i4 k hk).2 with z | z
      · exact absurd z (hno k)
      · have := z.app (a := [p]) (b := [])
        rw [List.append_nil] at this
        exact this
    · rename_i h0
      have ev : v1 (S.n, up S.F 11 (S.op - 1) 1, S.fd, (S.tm, S.tl), (S.ps ++ [p], S.pc ++ [p]), S.en, S.op) = v1 S := by
        unfold v1
        show (S.n, S.tm, S.tl, msk (up S.F 11 (S.op - 1) 1)) = _
        rw [msk_up rfl]
      have uf : ∀ a b, a ≠ 11 → up S.F 11 (S.op - 1) 1 a b = S.F a b := fun a b h => if_neg fun z => h z.1
      refine ⟨by rw [ev]; exact i1, fun k hk => ?_, i3, fun k hk => ?_⟩
      · obtain ⟨a1, a2, a3, a4, a5⟩ := i2 k hk
        refine ⟨a1, ?_, ?_, ?_, ?_⟩
        · show up S.F 11 (S.op - 1) 1 6 k ≤ _; rw [uf _ _ (by decide)]; exact a2
        · show up S.F 11 (S.op - 1) 1 12 k ≤ _; rw [uf _ _ (by decide)]; exact a3
        · show up S.F 11 (S.op - 1) 1 0 k + up S.F 11 (S.op - 1) 1 1 k ≤ _; rw [uf _ _ (by decide), uf _ _ (by decide)]; exact a4
        · show (if 11 = 11 ∧ k = S.op - 1 then 1 else S.F 11 k) ≤ 1
          split
          · exact Nat.le_refl _
          · exact a5
      · have hb : ∀ {x}, opn (up S.F 11 (S.op - 1) 1) S.op x → opn S.F S.op x := fun {x} z => opn.congr (F := up S.F 11 (S.op - 1) 1) (n := S.n) (fun k hk => by rw [uf 2 k (by decide)]; exact (show S.F 2 k ≤ k from (i1.2.2.2.2 k hk).1.1)) (fun k hk => (uf 2 k (by decide)).symm) i3 z
        refine ⟨fun z => ?_, ?_⟩
        · obtain ⟨y1, y2, y3⟩ := (i4 k hk).1 (hb z)
          unfold ncl
          show up S.F 11 (S.op - 1) 1 13 k ≤ (S.ps ++ [p]).length ∧ up S.F 11 (S.op - 1) 1 15 k ≤ (S.pc ++ [p]).length ∧ (S.ps ++ [p]).drop (up S.F 11 (S.op - 1) 1 13 k) = (S.pc ++ [p]).drop (up S.F 11 (S.op - 1) 1 15 k)
          rw [uf 13 _ (by decide), uf 15 _ (by decide), List.length_append, List.length_append, List.drop_append_of_le_length y1, List.drop_append_of_le_length y2, y3]
          exact ⟨by omega, by omega, rfl⟩
        · rcases (i4 k hk).2 with z | z
          · exact Or.inl (opn.congr (F := S.F) (n := S.n) (fun k hk => (show S.F 2 k ≤ k from (i1.2.2.2.2 k hk).1.1)) (fun k hk => uf 2 k (by decide)) i3 z)
          · refine Or.inr ?_
            have := z.app (a := [p]) (b := [p])
            unfold cls
            show up S.F 11 (S.op - 1) 1 13 k ≤ up S.F 11 (S.op - 1) 1 14 k ∧ up S.F 11 (S.op - 1) 1 14 k ≤ _ ∧ up S.F 11 (S.op - 1) 1 15 k ≤ up S.F 11 (S.op - 1) 1 16 k ∧ up S.F 11 (S.op - 1) 1 16 k ≤ _ ∧ (List.drop (up S.F 11 (S.op - 1) 1 13 k) _).take (up S.F 11 (S.op - 1) 1 14 k - up S.F 11 (S.op - 1) 1 13 k) = (List.drop (up S.F 11 (S.op - 1) 1 15 k) _).take (up S.F 11 (S.op - 1) 1 16 k - up S.F 11 (S.op - 1) 1 15 k)
            rw [uf 13 _ (by decide), uf 14 _ (by decide), uf 15 _ (by decide), uf 16 _ (by decide)]
            exact this
/-- the one that is not closed is closed -/
theorem SI.fin {t : List Nat} {S : SS} {e j : Nat} (I : SI t S) (he : e < S.n) (hj : j ≤ t.length) (op' : Nat) (ho : op' ≤ S.n) (hc : ∀ k, k < S.n → k ≠ e → opn S.F S.op (k + 1) → opn S.F op' (k + 1)) (hr : ∀ k, opn S.F op' (k + 1) → k ≠ e ∧ opn S.F S.op (k + 1)) (hn : ncl S.F S.ps S.pc e) : SI t (opnE (finE S e j) op') := by
  obtain ⟨i1, i2, i3, i4⟩ := I
  have uf : ∀ a b, a ≠ 12 → a ≠ 14 → a ≠ 16 → up (up (up S.F 12 e j) 14 e S.ps.length) 16 e S.pc.length a b = S.F a b := fun a b h1 h2 h3 => by
    unfold up
    rw [if_neg fun z => h3 z.1, if_neg fun z => h2 z.1, if_neg fun z => h1 z.1]
  have ue : ∀ a b, b ≠ e → up (up (up S.F 12 e j) 14 e S.ps.length) 16 e S.pc.length a b = S.F a b := fun a b h => by
    unfold up
    rw [if_neg fun z => h z.2, if_neg fun z => h z.2, if_neg fun z => h z.2]
  have ev : v1 (opnE (finE S e j) op') = v1 S := by
    show (S.n, S.tm, S.tl, msk (up (up (up S.F 12 e j) 14 e S.ps.length) 16 e S.pc.length)) = _
    rw [msk_up rfl, msk_up rfl, msk_up rfl]; rfl
  have h12 : up (up (up S.F 12 e j) 14 e S.ps.length) 16 e S.pc.length 12 e = j := by
    unfold up
    rw [if_neg (fun z => by cases z.1), if_neg (fun z => by cases z.1), if_pos ⟨rfl, rfl⟩]
  have h14 : up (up (up S.F 12 e j) 14 e S.ps.length) 16 e S.pc.length 14 e = S.ps.length := by
    unfold up
    rw [if_neg (fun z => by cases z.1), if_pos ⟨rfl, rfl⟩]
  have h16 : up (up (up S.F 12 e j) 14 e S.ps.length) 16 e S.pc.length 16 e = S.pc.length := by
    unfold up
    rw [if_pos ⟨rfl, rfl⟩]
  have hbk : ∀ {x}, opn (opnE (finE S e j) op').F op' x → opn S.F op' x := fun {x} z => opn.congr (F := (opnE (finE S e j) op').F) (n := S.n) (fun k hk => by rw [show (opnE (finE S e j) op').F 2 k = S.F 2 k from uf 2 k (by decide) (by decide) (by decide)]; exact (show S.F 2 k ≤ k from (i1.2.2.2.2 k hk).1.1)) (fun k hk => (uf 2 k (by decide) (by decide) (by decide)).symm) ho z
  refine ⟨by rw [ev]; exact i1, fun k hk => ?_, ho, fun k hk => ?_⟩
  · obtain ⟨a1, a2, a3, a4, a5⟩ := i2 k hk
    refine ⟨a1, ?_, ?_, ?_, ?_⟩
    · show up (up (up S.F 12 e j) 14 e S.ps.length) 16 e S.pc.length 6 k ≤ _
      rw [uf _ _ (by decide) (by decide) (by decide)]; exact a2
    · show up (up (up S.F 12 e j) 14 e S.ps.length) 16 e S.pc.length 12 k ≤ _
      by_cases z : k = e
      · rw [z, h12]; exact hj
      · rw [ue _ _ z]; exact a3
    · show up (up (up S.F 12 e j) 14 e S.ps.length) 16 e S.pc.length 0 k + up (up (up S.F 12 e j) 14 e S.ps.length) 16 e S.pc.length 1 k ≤ _
      rw [uf _ _ (by decide) (by decide) (by decide), uf _ _ (by decide) (by decide) (by decide)]; exact a4
    · show up (up (up S.F 12 e j) 14 e S.ps.length) 16 e S.pc.length 11 k ≤ _
      rw [uf _ _ (by decide) (by decide) (by decide)]; exact a5
  · by_cases z : k = e
    · subst z
      obtain ⟨y1, y2, y3⟩ := hn
      refine ⟨fun w => absurd rfl (hr k (hbk w)).1, Or.inr ?_⟩
      unfold cls
      show up (up (up S.F 12 k j) 14 k S.ps.length) 16 k S.pc.length 13 k ≤ up (up (up S.F 12 k j) 14 k S.ps.length) 16 k S.pc.length 14 k ∧ up (up (up S.F 12 k j) 14 k S.ps.length) 16 k S.pc.length 14 k ≤ S.ps.length ∧ up (up (up S.F 12 k j) 14 k S.ps.length) 16 k S.pc.length 15 k ≤ up (up (up S.F 12 k j) 14 k S.ps.length) 16 k S.pc.length 16 k ∧ up (up (up S.F 12 k j) 14 k S.ps.length) 16 k S.pc.length 16 k ≤ S.pc.length ∧ (S.ps.drop (up (up (up S.F 12 k j) 14 k S.ps.length) 16 k S.pc.length 13 k)).take (up (up (up S.F 12 k j) 14 k S.ps.length) 16 k S.pc.length 14 k - up (up (up S.F 12 k j) 14 k S.ps.length) 16 k S.pc.length 13 k) = (S.pc.drop (up (up (up S.F 12 k j) 14 k S.ps.length) 16 k S.pc.length 15 k)).take (up (up (up S.F 12 k j) 14 k S.ps.length) 16 k S.pc.length 16 k - up (up (up S.F 12 k j) 14 k S.ps.length) 16 k S.pc.length 15 k)
      rw [h14, h16, uf 13 _ (by decide) (by decide) (by decide), uf 15 _ (by decide) (by decide) (by decide)]
      refine ⟨y1, Nat.le_refl _, y2, Nat.le_refl _, ?_⟩
      rw [List.take_of_length_le (by rw [List.length_drop]; omega), List.take_of_length_le (by rw [List.length_drop]; omega)]
      exact y3
    · have hF : ∀ a, (opnE (finE S e j) op').F a k = S.F a k := fun a => ue a k z
      refine ⟨fun w => ?_, ?_⟩
      · have y := (i4 k hk).1 (hr k (hbk w)).2
        unfold ncl
        rw [hF, hF]
        exact y
      · rcases (i4 k hk).2 with y | y
        · exact Or.inl (opn.congr (F := S.F) (n := S.n) (fun k hk => (show S.F 2 k ≤ k from (i1.2.2.2.2 k hk).1.1)) (fun k hk => uf 2 k (by decide) (by decide) (by decide)) ho (hc k hk z y))
        · refine Or.inr ?_
          unfold cls
          rw [hF, hF, hF, hF]
          exact y
