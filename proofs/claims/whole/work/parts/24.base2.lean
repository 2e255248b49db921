/-! CONTRACTS, 5: sizes of lists; rows of things; copies; names and elements -/
def capN : Nat → Nat
  | 0 => 0
  | n + 1 => acap (capN n) n
/-- slots that n adds cost -/
def gS : Nat → Nat
  | 0 => 0
  | n + 1 => gS n + ams (capN n) n
theorem capN_ge : ∀ n, n ≤ capN n
  | 0 => Nat.le_refl _
  | n + 1 => by
    have := capN_ge n
    show n + 1 ≤ acap (capN n) n
    unfold acap ncap
    split
    · omega
    · split <;> omega
theorem capN_le : ∀ n, 2 * capN n ≤ 20 + 3 * n
  | 0 => by decide
  | n + 1 => by
    have h1 := capN_le n
    have h2 := capN_ge n
    show 2 * acap (capN n) n ≤ _
    unfold acap ncap
    split
    · omega
    · split
      · omega
      · have : capN n = n := by omega
        rw [this]; omega
theorem capN_pos {n : Nat} (h : 0 < n) : 0 < capN n := Nat.lt_of_lt_of_le h (capN_ge n)
theorem gS_le4 : ∀ n, gS n ≤ 4 * capN n
  | 0 => by decide
  | n + 1 => by
    have h1 := gS_le4 n
    show gS n + ams (capN n) n ≤ 4 * acap (capN n) n
    unfold ams acap ncap
    split
    · omega
    · split <;> omega
theorem gS_le (n : Nat) : gS n ≤ 40 + 6 * n := by
  have h1 := gS_le4 n
  have h2 := capN_le n
  omega
theorem gS_succ (n : Nat) : gS (n + 1) = gS n + ams (capN n) n := rfl
theorem amc_le (c n : Nat) : amc c n ≤ 1 := by unfold amc; split <;> omega
/-- a list with the capacity that its adds gave it -/
def isL (D : xD) (h : xH) (A e : Nat) (xs : List Nat) : Prop := isLs D h A e (capN xs.length) xs
def oL (xs : List Nat) (e : Nat) : List Nat := ow (capN xs.length) e
theorem oL_cons {xs : List Nat} {e : Nat} (h : xs ≠ []) : oL xs e = [e] := ow_pos (capN_pos (List.length_pos_iff.mpr h))
theorem oL_sub (xs : List Nat) (e : Nat) {q : Nat} (h : q ∈ oL xs e) : q = e ∧ xs ≠ [] := by
  cases xs with
  | nil => cases h
  | cons a t => rw [oL_cons (by simp)] at h; exact ⟨List.mem_singleton.mp h, by simp⟩
theorem isL.arr {D : xD} {h : xH} {A e : Nat} {xs : List Nat} (H : isL D h A e xs) (hx : xs ≠ []) : ∃ vs, h e = some (104, vs) := by
  rcases H.2.2.2 with ⟨z, -⟩ | ⟨-, -, q⟩
  · have := capN_pos (List.length_pos_iff.mpr hx); omega
  · exact ⟨_, q⟩
theorem isL.cell {D : xD} {h : xH} {A e : Nat} {xs : List Nat} (H : isL D h A e xs) : ∃ v, h A = some (12, v) := by
  obtain ⟨m, q⟩ := isLs.cell H
  exact ⟨_, q⟩
/-- a list whose cells stand -/
theorem isL.frm {D : xD} {h h' : xH} {A e : Nat} {xs M : List Nat} (H : isL D h A e xs) (f : fr M h h') (k : kp h h') (h1 : A ∉ M) (h2 : xs ≠ [] → e ∉ M) : isL D h' A e xs := by
  obtain ⟨q1, q2, ⟨m, q3⟩, q4⟩ := H
  refine ⟨q1, q2, ⟨m, f _ _ q3 h1⟩, ?_⟩
  rcases q4 with ⟨z1, z2, z3⟩ | ⟨z1, z2, z3⟩
  · exact Or.inl ⟨z1, z2, k _ _ z3 rfl⟩
  · refine Or.inr ⟨z1, z2, f _ _ z3 (h2 fun y => ?_)⟩
    subst y
    exact absurd z1 (Nat.lt_irrefl _)
theorem isL.new {D : xD} {h : xH} {A e a : Nat} {c : xC} {xs : List Nat} (H : isL D h A e xs) (ha : h a = none) : isL D (xset h a c) A e xs := by
  obtain ⟨q1, q2, ⟨m, q3⟩, q4⟩ := H
  refine ⟨q1, q2, ⟨m, xst2 (xnn q3 ha) q3⟩, ?_⟩
  rcases q4 with ⟨z1, z2, z3⟩ | ⟨z1, z2, z3⟩
  · exact Or.inl ⟨z1, z2, xst2 (xnn z3 ha) z3⟩
  · exact Or.inr ⟨z1, z2, xst2 (xnn z3 ha) z3⟩
set_option maxRecDepth 20000 in
theorem c_add {l : Launch} {D : xD} {h : xH} {A e x cx : Nat} {fx : List Value} {xs : List Nat} (E : env D h) (H : isL D h A e xs) (hx : h x = some (cx, fx)) (hok : xok4 cx = true) (q3 : ∀ x ∈ xs, ∃ ci fs, h x = some (ci, fs) ∧ xok4 ci = true) (hn : xs.length < 2 ^ 18) : xMet l D 6 y_AL_add [.ref A, .ref x] h (amc (capN xs.length) xs.length) (gS (xs.length + 1) - gS xs.length) (fun o h' => (∃ e', isL D h' A e' (xs ++ [x]) ∧ (e' = e ∨ h e' = none)) ∧ fr (A :: oL xs e) h h' ∧ kp h h' ∧ o = .inl (some (.int 1))) := by
  have e1 : gS (xs.length + 1) - gS xs.length = ams (capN xs.length) xs.length := by rw [gS_succ]; omega
  have e2 : capN (xs ++ [x]).length = acap (capN xs.length) xs.length := by rw [List.length_append]; rfl
  rw [e1]
  refine (c_AL_add E H hx hok q3 ?_).mono ?_
  · have := capN_le (xs.length + 1)
    have e3 : acap (capN xs.length) xs.length = capN (xs.length + 1) := rfl
    rw [e3]; omega
  · rintro o h' ⟨⟨e', y1, y2⟩, y3⟩
    exact ⟨⟨e', by unfold isL; rw [e2]; exact y1, y2⟩, y3⟩
/-- two rows, one by one -/
def all2 {α β : Type} (R : α → β → Prop) : List α → List β → Prop
  | [], [] => True
  | a :: s, b :: t => R a b ∧ all2 R s t
  | _, _ => False
theorem all2.len {α β : Type} {R : α → β → Prop} : ∀ {s : List α} {t : List β}, all2 R s t → s.length = t.length
  | [], [], _ => rfl
  | a :: s, b :: t, h => by rw [List.length_cons, List.length_cons, all2.len h.2]
  | [], _ :: _, h => h.elim
  | _ :: _, [], h => h.elim
theorem all2.mono {α β : Type} {R Q : α → β → Prop} (hq : ∀ a b, R a b → Q a b) : ∀ {s : List α} {t : List β}, all2 R s t → all2 Q s t
  | [], [], _ => trivial
  | a :: s, b :: t, h => ⟨hq _ _ h.1, all2.mono hq h.2⟩
  | [], _ :: _, h => h.elim
  | _ :: _, [], h => h.elim
theorem all2.snoc {α β : Type} {R : α → β → Prop} {a : α} {b : β} (hq : R a b) : ∀ {s : List α} {t : List β}, all2 R s t → all2 R (s ++ [a]) (t ++ [b])
  | [], [], _ => ⟨hq, trivial⟩
  | _ :: s, _ :: t, h => ⟨h.1, all2.snoc hq h.2⟩
  | [], _ :: _, h => h.elim
  | _ :: _, [], h => h.elim
theorem all2.at {α β : Type} {R : α → β → Prop} : ∀ {s : List α} {t : List β}, all2 R s t → ∀ (k : Nat) (h1 : k < s.length) (h2 : k < t.length), R s[k] t[k]
  | [], [], _, k, h1, _ => absurd h1 (Nat.not_lt_zero _)
  | a :: s, b :: t, h, 0, _, _ => h.1
  | a :: s, b :: t, h, k + 1, h1, h2 => all2.at h.2 k (Nat.lt_of_succ_lt_succ h1) (Nat.lt_of_succ_lt_succ h2)
  | [], _ :: _, h, _, _, _ => h.elim
  | _ :: _, [], h, _, _, _ => h.elim
theorem all2.mem {α β : Type} {R : α → β → Prop} : ∀ {s : List α} {t : List β}, all2 R s t → ∀ a ∈ s, ∃ b ∈ t, R a b
  | [], [], _, a, h => by cases h
  | x :: s, y :: t, h, a, hm => by
    rcases List.mem_cons.mp hm with rfl | z
    · exact ⟨y, List.mem_cons_self, h.1⟩
    · obtain ⟨b, h1, h2⟩ := all2.mem h.2 a z
      exact ⟨b, List.mem_cons_of_mem _ h1, h2⟩
  | [], _ :: _, h, _, _ => h.elim
  | _ :: _, [], h, _, _ => h.elim
/-- a name with a text -/
def isNm (B : Nat → Prop) (h : xH) (x : Nat) (q : List Nat × List Nat) : Prop := ∃ s1 s2 : Nat, h x = some (3, [.ref s1, .ref s2]) ∧ isS B h s1 q.1 ∧ isS B h s2 q.2
theorem isNm.kept {B : Nat → Prop} {h h' : xH} {x : Nat} {q : List Nat × List Nat} (H : isNm B h x q) (k : kp h h') : isNm B h' x q := by
  obtain ⟨s1, s2, h1, h2, h3⟩ := H
  exact ⟨s1, s2, k _ _ h1 rfl, h2.kept k, h3.kept k⟩
theorem isNm.ok {B : Nat → Prop} {h : xH} {x : Nat} {q : List Nat × List Nat} (H : isNm B h x q) : ∃ ci fs, h x = some (ci, fs) ∧ xok4 ci = true := by
  obtain ⟨s1, s2, h1, -⟩ := H
  exact ⟨3, _, h1, rfl⟩
theorem isS.ok {B : Nat → Prop} {h : xH} {x : Nat} {w : List Nat} (H : isS B h x w) : ∃ ci fs, h x = some (ci, fs) ∧ xok4 ci = true := by
  obtain ⟨a, f, T, h1, -⟩ := H
  exact ⟨2, _, h1, rfl⟩
theorem isS.cell {B : Nat → Prop} {h : xH} {x : Nat} {w : List Nat} (H : isS B h x w) : ∃ fs, h x = some (2, fs) := by
  obtain ⟨a, f, T, h1, -⟩ := H
  exact ⟨_, h1⟩
set_option maxRecDepth 20000 in
theorem c_Nd_init {l : Launch} {D : xD} {h : xH} {a s1 s2 : Nat} {v0 v1 : Value} (ha : h a = some (3, [v0, v1])) : xMet l D 1 y_Nd_init [.ref a, .ref s1, .ref s2] h 0 0 (fun o h' => h' = xset h a (3, [.ref s1, .ref s2]) ∧ o = .inl none) := by
  refine m_Nd_init (Nat.le_of_ble_eq_true rfl) fun X hl hD hP hA => ?_
  subst hl hD
  refine xgo [] 40 hA ?_
  refine xp (by first | assumption | exact xset_same _ _ _ | exact xst2 (by first | assumption | exact Ne.symm (by assumption)) (by first | assumption | exact xset_same _ _ _ | exact xst2 (by first | assumption | exact Ne.symm (by assumption)) (by first | assumption | exact xset_same _ _ _ | exact xst2 (by first | assumption | exact Ne.symm (by assumption)) (by first | assumption | exact xset_same _ _ _ | exact xst2 (by first | assumption | exact Ne.symm (by assumption)) (by first | assumption | exact xset_same _ _ _ | exact xst2 (by first | assumption | exact Ne.symm (by assumption)) (by first | assumption | exact xset_same _ _ _ | exact xst2 (by first | assumption | exact Ne.symm (by assumption)) (by first | assumption | exact xset_same _ _ _))))))) rfl rfl ?_ -- 6 f3.0
  refine xp (by first | assumption | exact xset_same _ _ _ | exact xst2 (by first | assumption | exact Ne.symm (by assumption)) (by first | assumption | exact xset_same _ _ _ | exact xst2 (by first | assumption | exact Ne.symm (by assumption)) (by first | assumption | exact xset_same _ _ _ | exact xst2 (by first | assumption | exact Ne.symm (by assumption)) (by first | assumption | exact xset_same _ _ _ | exact xst2 (by first | assumption | exact Ne.symm (by assumption)) (by first | assumption | exact xset_same _ _ _ | exact xst2 (by first | assumption | exact Ne.symm (by assumption)) (by first | assumption | exact xset_same _ _ _ | exact xst2 (by first | assumption | exact Ne.symm (by assumption)) (by first | assumption | exact xset_same _ _ _))))))) rfl rfl ?_ -- 11 f3.1
  exact xP hP ⟨by rw [xset_set]; rfl, rfl⟩
/-- where a row has it -/
def fndI {α : Type} (p : α → Bool) (l : List α) : Option Nat := l.findIdx? p
set_option maxRecDepth 20000 in
theorem c_findNamed {B B' : Nat → Prop} {l : Launch} {D : xD} {h : xH} {A e s : Nat} {xs : List Nat} {w : List Nat} {ns : List (List Nat × List Nat)} (H : isL D h A e xs) (N : all2 (isNm B h) xs ns) (S : isS B' h s w) : xMet l D 3 y_Sc_findNamed [.ref A, .ref s] h 0 0 (fun o h' => h' = h ∧ ((ns.all (fun q => !decide (q.1 = w)) = true ∧ o = .inl (some .null)) ∨ ∃ k, ∃ h1 : k < xs.length, ∃ h2 : k < ns.length, ns[k].1 = w ∧ (∀ j, ∀ hj : j < k, ns[j].1 ≠ w) ∧ o = .inl (some (.ref xs[k])))) := by
  obtain ⟨vA, hA0⟩ := H.cell
  have hlen := N.len
  have hsz : xs.length < 2 ^ 20 := Nat.lt_of_le_of_lt (capN_ge _) H.2.1
  refine m_Sc_findNamed (Nat.le_of_ble_eq_true rfl) fun X hl hD hP hA => ?_
  subst hl hD
  have key : ∀ k : Nat, (k ≤ xs.length ∧ ∀ j, ∀ hj : j < ns.length, j < k → ns[j].1 ≠ w) → xG X 2 [(2, .int (nI k)), (0, .ref A), (1, .ref s)] [] h 0 0 := by
    refine xind _ _ (fun k => xs.length - k) (fun k hk ih => ?_)
    obtain ⟨hk, he⟩ := hk
    refine xgo [2] 40 hA ?_
    refine xcV hA0 (c_AL_size H) (by rfl) (by rfl) (by rfl) (Nat.zero_le _) (Nat.zero_le _) ?_
    rintro o h1 ⟨rfl, rfl⟩
    refine xb (fun c => ?_) (fun c => ?_)
    · have hk2 : xs.length ≤ k := (nI_leI (by omega) (by omega)).mp c
      refine xP hP ⟨rfl, Or.inl ⟨?_, rfl⟩⟩
      rw [List.all_eq_true]
      intro q hq
      obtain ⟨j, hj, rfl⟩ := List.mem_iff_getElem.mp hq
      simpa using he j hj (by omega)
    · have c1 : k < xs.length := Nat.lt_of_not_le fun z => c (nI_le z (by omega))
      obtain ⟨s1, s2, y1, y2, y3⟩ := N.at k c1 (by omega)
      obtain ⟨f1, hs1⟩ := y2.cell
      refine xcV hA0 (c_AL_get H c1) (by rfl) (by rfl) (by rfl) (Nat.zero_le _) (Nat.zero_le _) ?_
      rintro o h1 ⟨rfl, rfl⟩
      refine xct y1 rfl ?_
      refine xg y1 (by rfl) ?_
      refine xcV hs1 (c_sameAs y2 S) (by rfl) (by rfl) (by rfl) (Nat.zero_le _) (Nat.zero_le _) ?_
      rintro o h1 ⟨rfl, rfl⟩
      refine xb (fun c => ?_) (fun c => ?_)
      · have q := ih (k + 1) ⟨c1, fun j hj h2 => by
          rcases Nat.lt_succ_iff_lt_or_eq.mp h2 with z | z
          · exact he j hj z
          · subst z; exact of_decide_eq_false ((bI_0 _).mp c)⟩ (by omega)
        rw [← nI_1] at q
        exact q
      · have c2 := of_decide_eq_true ((bI_n0 _).mp c)
        refine xcV hA0 (c_AL_get H c1) (by rfl) (by rfl) (by rfl) (Nat.zero_le _) (Nat.zero_le _) ?_
        rintro o h1 ⟨rfl, rfl⟩
        refine xct y1 rfl ?_
        exact xP hP ⟨rfl, Or.inr ⟨k, c1, by omega, c2, fun j hj => he j (by omega) hj, rfl⟩⟩
  refine xgo [2] 40 hA ?_
  exact key 0 ⟨Nat.zero_le _, fun j hj h2 => absurd h2 (Nat.not_lt_zero _)⟩
