/-! THE REFERENCE, 1: its object as a function of a state -/
/-- number fields; arrays -/
abbrev MS : Type := (Nat → Int32) × (Nat → Nat → Int32)
def arN (k : Nat) : Nat := match k with
  | 1 => 8192
  | 3 => 16384
  | 7 => 50000
  | 12 => 1000
  | 13 => 1000
  | 14 => 1000
  | 15 => 1000
  | 16 => 1000
  | 17 => 1000
  | 18 => 1000
  | 19 => 1000
  | 20 => 1000
  | 21 => 1000
  | 22 => 1000
  | 23 => 1000
  | 24 => 1000
  | 25 => 1000
  | 26 => 6000
  | 27 => 6000
  | 28 => 6000
  | 29 => 6000
  | 30 => 20000
  | 31 => 20000
  | 33 => 40
  | 34 => 40
  | 35 => 40
  | 36 => 40
  | 41 => 8192
  | 43 => 500
  | 53 => 123
  | 54 => 123
  | 55 => 123
  | 56 => 123
  | 57 => 1000
  | 58 => 1000
  | 59 => 1000
  | 60 => 1000
  | 61 => 1000
  | 62 => 4000
  | 63 => 4000
  | 64 => 4000
  | 65 => 4000
  | 66 => 4000
  | 67 => 4000
  | 70 => 600
  | 71 => 600
  | 72 => 600
  | 73 => 600
  | 74 => 600
  | 75 => 600
  | 76 => 600
  | 77 => 30
  | 78 => 30
  | 80 => 500
  | 81 => 500
  | 82 => 120
  | 83 => 24
  | _ => 0
def arK (k : Nat) : Bool := !(arN k == 0)
def bzK (k : Nat) : Bool := k == 25 || k == 76 || k == 80 || k == 81 || k == 82
def kdK (k : Nat) : Nat := if bzK k = true then 103 else 100
def arF : List Nat := [1, 3, 7, 12, 13, 14, 15, 16, 17, 18, 19, 20, 21, 22, 23, 24, 25, 26, 27, 28, 29, 30, 31, 33, 34, 35, 36, 41, 43, 53, 54, 55, 56, 57, 58, 59, 60, 61, 62, 63, 64, 65, 66, 67, 70, 71, 72, 73, 74, 75, 76, 77, 78, 80, 81, 82, 83]
/-- where it lies: the object, its arrays -/
abbrev MA : Type := Nat × (Nat → Nat)
def mv (M : MA) (S : MS) (k : Nat) : Value := if arK k = true then .ref (M.2 k) else .int (S.1 k)
def mV (M : MA) (S : MS) : List Value := (List.range 85).map (mv M S)
def mA (S : MS) (k : Nat) : List Value := (List.range (arN k)).map (fun i => .int (S.2 k i))
def mok (M : MA) : Prop := (∀ k ∈ arF, M.2 k ≠ M.1) ∧ ∀ j ∈ arF, ∀ k ∈ arF, M.2 j = M.2 k → j = k
/-- h0 with the reference's cells as S says -/
def mH (h0 : xH) (M : MA) (S : MS) : xH := fun q => if q = M.1 then some (13, mV M S) else match arF.find? (fun k => M.2 k == q) with
  | some k => some (kdK k, mA S k)
  | none => h0 q
theorem arF_of : ∀ k, k < 85 → arK k = true → k ∈ arF := by decide +kernel
theorem mH_m (h0 : xH) (M : MA) (S : MS) : mH h0 M S M.1 = some (13, mV M S) := if_pos rfl
theorem mH_a {h0 : xH} {M : MA} {S : MS} (hM : mok M) {k : Nat} (hk : k ∈ arF) : mH h0 M S (M.2 k) = some (kdK k, mA S k) := by
  unfold mH
  rw [if_neg (hM.1 k hk)]
  have : arF.find? (fun j => M.2 j == M.2 k) = some k := by
    cases h : arF.find? (fun j => M.2 j == M.2 k) with
    | none =>
      have := List.find?_eq_none.mp h k hk
      simp at this
    | some j =>
      have h1 := List.find?_some h
      have h2 := List.mem_of_find?_eq_some h
      rw [hM.2 j h2 k hk (by simpa using h1)]
  rw [this]
theorem mH_o {h0 : xH} {M : MA} {S : MS} {q : Nat} (h1 : q ≠ M.1) (h2 : ∀ k ∈ arF, M.2 k ≠ q) : mH h0 M S q = h0 q := by
  unfold mH
  rw [if_neg h1]
  have : arF.find? (fun j => M.2 j == q) = none := List.find?_eq_none.mpr fun k hk => by simpa using h2 k hk
  rw [this]
theorem mV_at (M : MA) (S : MS) {k : Nat} (h : k < 85) : (mV M S)[k]? = some (mv M S k) := by
  unfold mV
  rw [List.getElem?_map, List.getElem?_range h]; rfl
theorem mA_at (S : MS) {k i : Nat} (h : i < arN k) : (mA S k)[i]? = some (.int (S.2 k i)) := by
  unfold mA
  rw [List.getElem?_map, List.getElem?_range h]; rfl
theorem mA_len (S : MS) (k : Nat) : (mA S k).length = arN k := by unfold mA; simp
def s1 (S : MS) (k : Nat) (v : Int32) : MS := (fun j => if j = k then v else S.1 j, S.2)
def s2 (S : MS) (k i : Nat) (v : Int32) : MS := (S.1, fun j x => if j = k ∧ x = i then v else S.2 j x)
theorem mH_setm {h0 : xH} {M : MA} {S : MS} {k : Nat} {v : Int32} (h1 : k < 85) (h2 : arK k = false) : xset (mH h0 M S) M.1 (13, (mV M S).set k (.int v)) = mH h0 M (s1 S k v) := by
  have e : (mV M S).set k (.int v) = mV M (s1 S k v) := by
    apply List.ext_getElem?
    intro i
    by_cases z : i = k
    · subst z
      rw [List.getElem?_set_self (by simp [mV]; exact h1), mV_at _ _ h1]
      show _ = some (if arK i = true then Value.ref (M.2 i) else Value.int (if i = i then v else S.1 i))
      rw [if_neg (by rw [h2]; decide), if_pos rfl]
    · rw [List.getElem?_set_ne (fun y => z y.symm)]
      by_cases y : i < 85
      · rw [mV_at _ _ y, mV_at _ _ y]
        show some (if arK i = true then Value.ref (M.2 i) else Value.int (S.1 i)) = some (if arK i = true then Value.ref (M.2 i) else Value.int (if i = k then v else S.1 i))
        rw [if_neg (c := i = k) z]
      · rw [List.getElem?_eq_none (by simp [mV]; omega), List.getElem?_eq_none (by simp [mV]; omega)]
  rw [e]
  funext q
  by_cases z : q = M.1
  · subst z
    rw [xset_same, mH_m]
  · rw [xset_ne _ _ z]
    unfold mH
    rw [if_neg z, if_neg z]
    rfl
theorem mH_seta {h0 : xH} {M : MA} {S : MS} (hM : mok M) {k i : Nat} {v : Int32} (hk : k ∈ arF) (hi : i < arN k) : xset (mH h0 M S) (M.2 k) (kdK k, (mA S k).set i (.int v)) = mH h0 M (s2 S k i v) := by
  have e : (mA S k).set i (.int v) = mA (s2 S k i v) k := by
    apply List.ext_getElem?
    intro x
    by_cases z : x = i
    · subst z
      rw [List.getElem?_set_self (by rw [mA_len]; exact hi), mA_at _ hi]
      show _ = some (Value.int (if k = k ∧ x = x then v else S.2 k x))
      rw [if_pos ⟨rfl, rfl⟩]
    · rw [List.getElem?_set_ne (fun y => z y.symm)]
      by_cases y : x < arN k
      · rw [mA_at _ y, mA_at _ y]
        show _ = some (Value.int (if k = k ∧ x = i then v else S.2 k x))
        rw [if_neg (fun w => z w.2)]
      · rw [List.getElem?_eq_none (by rw [mA_len]; omega), List.getElem?_eq_none (by rw [mA_len]; omega)]
  rw [e]
  funext q
  by_cases z : q = M.2 k
  · subst z
    rw [xset_same, mH_a hM hk]
  · rw [xset_ne _ _ z]
    unfold mH
    by_cases y : q = M.1
    · rw [if_pos y, if_pos y]; rfl
    · rw [if_neg y, if_neg y]
      cases hf : arF.find? (fun j => M.2 j == q) with
      | none => rfl
      | some j =>
        have h1 := List.find?_some hf
        have h1 : M.2 j = q := by simpa using h1
        have hj : j ≠ k := fun w => z (by rw [← h1, w])
        show some (kdK j, mA S j) = some (kdK j, mA (s2 S k i v) j)
        congr 2
        unfold mA
        apply List.map_congr_left
        intro x _
        show Value.int (S.2 j x) = Value.int (if j = k ∧ x = i then v else S.2 j x)
        rw [if_neg (fun w => hj w.1)]
section
variable {K : Nat → xK} {ls : xL} {r : List Value} {h0 : xH} {M : MA} {S : MS} {rc rs n : Nat}
theorem yg {k : Nat} (hk : (decide (k < 85) && !arK k) = true) (q : K n ls (.int (S.1 k) :: r) (mH h0 M S) rc rs) : o_get 13 k n K ls (.ref M.1 :: r) (mH h0 M S) rc rs := by
  rw [Bool.and_eq_true, decide_eq_true_iff] at hk
  refine xg (mH_m _ _ _) (by rw [mV_at _ _ hk.1]) ?_
  have : mv M S k = .int (S.1 k) := if_neg (by have := hk.2; cases h : arK k <;> rw [h] at this <;> simp at this ⊢)
  rw [this]; exact q
theorem ya {k : Nat} (hk : (decide (k < 85) && arK k) = true) (q : K n ls (.ref (M.2 k) :: r) (mH h0 M S) rc rs) : o_get 13 k n K ls (.ref M.1 :: r) (mH h0 M S) rc rs := by
  rw [Bool.and_eq_true, decide_eq_true_iff] at hk
  refine xg (mH_m _ _ _) (by rw [mV_at _ _ hk.1]) ?_
  have : mv M S k = .ref (M.2 k) := if_pos hk.2
  rw [this]; exact q
theorem yp {k : Nat} {v : Int32} (hk : (decide (k < 85) && !arK k) = true) (q : K n ls r (mH h0 M (s1 S k v)) rc rs) : o_put 13 k .int n K ls (.int v :: .ref M.1 :: r) (mH h0 M S) rc rs := by
  rw [Bool.and_eq_true, decide_eq_true_iff] at hk
  refine xp (mH_m _ _ _) rfl rfl ?_
  rw [mH_setm hk.1 (by have := hk.2; cases h : arK k <;> rw [h] at this <;> simp at this ⊢)]
  exact q
theorem yl {k i : Nat} {iv : Int32} (hM : mok M) (hk : (decide (k < 85) && arK k && !bzK k) = true) (hi : iv = nI i) (hl : i < arN k) (q : K n ls (.int (S.2 k i) :: r) (mH h0 M S) rc rs) : o_ld 0 n K ls (.int iv :: .ref (M.2 k) :: r) (mH h0 M S) rc rs := by
  rw [Bool.and_eq_true, Bool.and_eq_true, decide_eq_true_iff] at hk
  have e : kdK k = 100 + 0 := if_neg (by have := hk.2; cases h : bzK k <;> rw [h] at this <;> simp at this ⊢)
  exact xld (Or.inl (by rw [mH_a hM (arF_of k hk.1.1 hk.1.2), e])) hi (mA_at S hl) q
theorem ylz {k i : Nat} {iv : Int32} (hM : mok M) (hk : (decide (k < 85) && arK k && bzK k) = true) (hi : iv = nI i) (hl : i < arN k) (q : K n ls (.int (S.2 k i) :: r) (mH h0 M S) rc rs) : o_ld 3 n K ls (.int iv :: .ref (M.2 k) :: r) (mH h0 M S) rc rs := by
  rw [Bool.and_eq_true, Bool.and_eq_true, decide_eq_true_iff] at hk
  have e : kdK k = 100 + 3 := if_pos hk.2
  exact xld (Or.inl (by rw [mH_a hM (arF_of k hk.1.1 hk.1.2), e])) hi (mA_at S hl) q
theorem ys {k i : Nat} {iv v : Int32} (hM : mok M) (hk : (decide (k < 85) && arK k && !bzK k) = true) (hi : iv = nI i) (hl : i < arN k) (q : K n ls r (mH h0 M (s2 S k i v)) rc rs) : o_iast 0 n K ls (.int v :: .int iv :: .ref (M.2 k) :: r) (mH h0 M S) rc rs := by
  rw [Bool.and_eq_true, Bool.and_eq_true, decide_eq_true_iff] at hk
  have e : kdK k = 100 + 0 := if_neg (by have := hk.2; cases h : bzK k <;> rw [h] at this <;> simp at this ⊢)
  have hm := arF_of k hk.1.1 hk.1.2
  refine xsi (by rw [mH_a hM hm, e]) hi (by rw [mA_len]; exact hl) ?_
  rw [← e, mH_seta hM hm hl]
  exact q
theorem ysz {k i : Nat} {iv v : Int32} (hM : mok M) (hk : (decide (k < 85) && arK k && bzK k) = true) (hi : iv = nI i) (hl : i < arN k) (hv : v = 0 ∨ v = 1) (q : K n ls r (mH h0 M (s2 S k i v)) rc rs) : o_zast 3 n K ls (.int v :: .int iv :: .ref (M.2 k) :: r) (mH h0 M S) rc rs := by
  rw [Bool.and_eq_true, Bool.and_eq_true, decide_eq_true_iff] at hk
  have e : kdK k = 100 + 3 := if_pos hk.2
  have hm := arF_of k hk.1.1 hk.1.2
  refine xsz (by rw [mH_a hM hm, e]) hi (by rw [mA_len]; exact hl) hv ?_
  rw [← e, mH_seta hM hm hl]
  exact q
end
/-- only these number fields and arrays differ -/
def mF (L1 L2 : List Nat) (S S' : MS) : Prop := (∀ k, k ∉ L1 → S'.1 k = S.1 k) ∧ ∀ k, k ∉ L2 → S'.2 k = S.2 k
theorem mF.refl (L1 L2 : List Nat) (S : MS) : mF L1 L2 S S := ⟨fun _ _ => rfl, fun _ _ => rfl⟩
theorem mF.p {L1 L2 : List Nat} {S S' : MS} (H : mF L1 L2 S S') {k : Nat} {v : Int32} (hk : k ∈ L1) : mF L1 L2 S (s1 S' k v) := ⟨fun j hj => by
  show (if j = k then v else S'.1 j) = _
  rw [if_neg (fun z : j = k => hj (by rw [z]; exact hk))]; exact H.1 j hj, H.2⟩
theorem mF.s {L1 L2 : List Nat} {S S' : MS} (H : mF L1 L2 S S') {k i : Nat} {v : Int32} (hk : k ∈ L2) : mF L1 L2 S (s2 S' k i v) := ⟨H.1, fun j hj => by
  rw [← H.2 j hj]
  funext x
  show (if j = k ∧ x = i then v else S'.2 j x) = _
  rw [if_neg (fun z : j = k ∧ x = i => hj (by rw [z.1]; exact hk))]⟩
theorem mF.tr {L1 L2 N1 N2 : List Nat} {S S' S2 : MS} (H : mF L1 L2 S S') (H2 : mF N1 N2 S' S2) (h1 : ∀ k ∈ N1, k ∈ L1) (h2 : ∀ k ∈ N2, k ∈ L2) : mF L1 L2 S S2 :=
  ⟨fun k hk => (H2.1 k (fun z => hk (h1 k z))).trans (H.1 k hk), fun k hk => (H2.2 k (fun z => hk (h2 k z))).trans (H.2 k hk)⟩
theorem s1_eq (S : MS) (k : Nat) (v : Int32) : (s1 S k v).1 k = v := if_pos rfl
theorem s1_ne (S : MS) {k j : Nat} (v : Int32) (h : j ≠ k) : (s1 S k v).1 j = S.1 j := if_neg h
theorem s2_eq (S : MS) (k i : Nat) (v : Int32) : (s2 S k i v).2 k i = v := if_pos ⟨rfl, rfl⟩
theorem s2_ne (S : MS) {k i j : Nat} (v : Int32) (h : j ≠ i) : (s2 S k i v).2 k j = S.2 k j := if_neg fun z => h z.2
theorem s2_na (S : MS) {k i j : Nat} (v : Int32) (h : j ≠ k) (x : Nat) : (s2 S k i v).2 j x = S.2 j x := if_neg fun z => h z.1
