/-! THE REFERENCE, 2: its helpers -/
section
variable {l : Launch} {D : xD} {h0 : xH} {M : MA} {S : MS}
set_option maxRecDepth 20000 in
theorem c_Mo_thrown : xMet l D 0 y_Mo_thrown [.ref M.1] (mH h0 M S) 0 0 (fun o h' => h' = mH h0 M S ∧ o = .inl (some (.int (S.1 0)))) := by
  refine m_Mo_thrown (Nat.le_of_ble_eq_true rfl) fun X hl hD hP hA => ?_
  subst hl hD
  refine xgo [] 20 hA ?_
  refine yg (by rfl) ?_
  exact xP hP ⟨rfl, rfl⟩
set_option maxRecDepth 20000 in
theorem c_Mo_refuse {w : Int32} : xMet l D 0 y_Mo_refuse [.ref M.1, .int w] (mH h0 M S) 0 0 (fun o h' => h' = mH h0 M (s1 S 0 w) ∧ o = .inl (some (.int 0))) := by
  refine m_Mo_refuse (Nat.le_of_ble_eq_true rfl) fun X hl hD hP hA => ?_
  subst hl hD
  refine xgo [] 20 hA ?_
  refine yp (by rfl) ?_
  exact xP hP ⟨rfl, rfl⟩
set_option maxRecDepth 20000 in
theorem c_Mo_in {v a b : Int32} {h : xH} : xMet l D 0 y_Mo_in [.int v, .int a, .int b] h 0 0 (fun o h' => h' = h ∧ o = .inl (some (.int (bI (decide (a ≤ v ∧ v ≤ b)))))) := by
  refine m_Mo_in (Nat.le_of_ble_eq_true rfl) fun X hl hD hP hA => ?_
  subst hl hD
  refine xgo [] 20 hA ?_
  refine xb (fun c => ?_) (fun c => ?_)
  · exact And.intro rfl (xP hP ⟨rfl, by rw [decide_eq_false (fun z => Int32.lt_irrefl (Int32.lt_of_lt_of_le c z.1))]; rfl⟩)
  · refine xb (fun c2 => ?_) (fun c2 => ?_)
    · exact And.intro rfl (xP hP ⟨rfl, by rw [decide_eq_false (fun z => Int32.lt_irrefl (Int32.lt_of_lt_of_le c2 z.2))]; rfl⟩)
    · exact And.intro rfl (xP hP ⟨rfl, by rw [decide_eq_true ⟨Int32.not_lt.mp c, Int32.not_lt.mp c2⟩]; rfl⟩)
set_option maxRecDepth 20000 in
theorem c_Mo_isSmall {b : Int32} {q : Bool} (hq : (97 ≤ b ∧ b ≤ 122) ↔ q = true) (h : xH) : xMet l D 0 y_Mo_isSmall [.int b] h 0 0 (fun o h' => h' = h ∧ o = .inl (some (.int (bI q)))) := by
  refine m_Mo_isSmall (Nat.le_of_ble_eq_true rfl) fun X hl hD hP hA => ?_
  subst hl hD
  have fin : ∀ (v : Int32) (q' : Bool), q = q' → v = bI q' → narrow .boolean (.int v) = .int v ∧ X.P (.inl (some (.int v))) h := by
    intro v q' e1 e2
    subst e1 e2
    exact ⟨bI_nar q, xP hP ⟨rfl, rfl⟩⟩
  refine xgo [] 20 hA ?_
  refine xb (fun c => ?_) (fun c => ?_)
  · exact fin 0 false (by rw [← Bool.not_eq_true, ← hq]; exact fun z => Int32.lt_irrefl (Int32.lt_of_lt_of_le c z.1)) rfl
  · refine xb (fun c2 => ?_) (fun c2 => ?_)
    · exact fin 0 false (by rw [← Bool.not_eq_true, ← hq]; exact fun z => Int32.lt_irrefl (Int32.lt_of_lt_of_le c2 z.2)) rfl
    · exact fin 1 true (hq.mp ⟨Int32.not_lt.mp c, Int32.not_lt.mp c2⟩) rfl
set_option maxRecDepth 20000 in
theorem c_Mo_isDigit {b : Int32} {q : Bool} (hq : (48 ≤ b ∧ b ≤ 57) ↔ q = true) (h : xH) : xMet l D 0 y_Mo_isDigit [.int b] h 0 0 (fun o h' => h' = h ∧ o = .inl (some (.int (bI q)))) := by
  refine m_Mo_isDigit (Nat.le_of_ble_eq_true rfl) fun X hl hD hP hA => ?_
  subst hl hD
  have fin : ∀ (v : Int32) (q' : Bool), q = q' → v = bI q' → narrow .boolean (.int v) = .int v ∧ X.P (.inl (some (.int v))) h := by
    intro v q' e1 e2
    subst e1 e2
    exact ⟨bI_nar q, xP hP ⟨rfl, rfl⟩⟩
  refine xgo [] 20 hA ?_
  refine xb (fun c => ?_) (fun c => ?_)
  · exact fin 0 false (by rw [← Bool.not_eq_true, ← hq]; exact fun z => Int32.lt_irrefl (Int32.lt_of_lt_of_le c z.1)) rfl
  · refine xb (fun c2 => ?_) (fun c2 => ?_)
    · exact fin 0 false (by rw [← Bool.not_eq_true, ← hq]; exact fun z => Int32.lt_irrefl (Int32.lt_of_lt_of_le c2 z.2)) rfl
    · exact fin 1 true (hq.mp ⟨Int32.not_lt.mp c, Int32.not_lt.mp c2⟩) rfl
set_option maxRecDepth 20000 in
theorem c_Mo_isBlank {b : Int32} {q : Bool} (hq : (b = 10 ∨ b = 32) ↔ q = true) (h : xH) : xMet l D 0 y_Mo_isBlank [.int b] h 0 0 (fun o h' => h' = h ∧ o = .inl (some (.int (bI q)))) := by
  refine m_Mo_isBlank (Nat.le_of_ble_eq_true rfl) fun X hl hD hP hA => ?_
  subst hl hD
  have fin : ∀ (v : Int32) (q' : Bool), q = q' → v = bI q' → narrow .boolean (.int v) = .int v ∧ X.P (.inl (some (.int v))) h := by
    intro v q' e1 e2
    subst e1 e2
    exact ⟨bI_nar q, xP hP ⟨rfl, rfl⟩⟩
  refine xgo [] 20 hA ?_
  refine xb (fun c => ?_) (fun c => ?_)
  · exact fin 1 true (hq.mp (Or.inl c)) rfl
  · refine xb (fun c2 => ?_) (fun c2 => ?_)
    · exact fin 0 false (by
        rw [← Bool.not_eq_true, ← hq]
        rintro (z | z)
        · exact c z
        · exact c2 z) rfl
    · exact fin 1 true (hq.mp (Or.inr c2)) rfl
/-- a text at base b -/
def tx (S : MS) (b : Nat) (t : List Nat) : Prop := S.1 8 = nI b ∧ S.1 9 = nI t.length ∧ (∀ k, k < t.length → S.2 7 (b + k) = nI (ch t k)) ∧ b ≤ 40000 ∧ t.length ≤ 8192 ∧ bytesOk t
theorem tx.fr {S S' : MS} {b : Nat} {t : List Nat} {L1 L2 : List Nat} (T : tx S b t) (f : mF L1 L2 S S') (h1 : (L1.contains 8 || L1.contains 9 || L2.contains 7) = false) : tx S' b t := by
  simp only [Bool.or_eq_false_iff] at h1
  have e8 := f.1 8 (fun z => by have := h1.1.1; rw [List.contains_iff_mem.mpr z] at this; cases this)
  have e9 := f.1 9 (fun z => by have := h1.1.2; rw [List.contains_iff_mem.mpr z] at this; cases this)
  have e7 := f.2 7 (fun z => by have := h1.2; rw [List.contains_iff_mem.mpr z] at this; cases this)
  exact ⟨by rw [e8]; exact T.1, by rw [e9]; exact T.2.1, fun k hk => by rw [e7]; exact T.2.2.1 k hk, T.2.2.2⟩
set_option maxRecDepth 20000 in
theorem c_Mo_byteAt {b k : Nat} {t : List Nat} (hM : mok M) (T : tx S b t) (hk : k < 2 ^ 30) : xMet l D 0 y_Mo_byteAt [.ref M.1, .int (nI k)] (mH h0 M S) 0 0 (fun o h' => h' = mH h0 M S ∧ o = .inl (some (.int (cI (ch t k))))) := by
  obtain ⟨t1, t2, t3, t4, t5, t6⟩ := T
  refine m_Mo_byteAt (Nat.le_of_ble_eq_true rfl) fun X hl hD hP hA => ?_
  subst hl hD
  refine xgo [] 20 hA ?_
  refine yg (by rfl) ?_
  rw [t2]
  refine xb (fun c => ?_) (fun c => ?_)
  · have c1 := (nI_leI (a := t.length) (b := k) (by omega) (by omega)).mp c
    exact xP hP ⟨rfl, by rw [ch_out c1]; rfl⟩
  · have c1 : k < t.length := Nat.lt_of_not_le fun z => c (nI_le z (by omega))
    refine ya (by rfl) ?_
    refine yg (by rfl) ?_
    refine yl (i := b + k) hM (by rfl) (by rw [t1]; exact nI_add b k) (by show b + k < 50000; omega) ?_
    rw [t3 k c1]
    exact xP hP ⟨rfl, by unfold cI; rw [if_pos (t6.lt c1)]⟩
set_option maxRecDepth 20000 in
theorem c_Mo_wrong {w : Int32} (hf : S.1 6 = -1) : xMet l D 0 y_Mo_wrong [.ref M.1, .int w] (mH h0 M S) 0 0 (fun o h' => h' = mH h0 M (s1 S 6 w) ∧ o = .inl none) := by
  refine m_Mo_wrong (Nat.le_of_ble_eq_true rfl) fun X hl hD hP hA => ?_
  subst hl hD
  refine xgo [] 20 hA ?_
  refine yg (by rfl) ?_
  rw [hf]
  refine xf (by decide) ?_
  refine yp (by rfl) ?_
  exact xP hP ⟨rfl, rfl⟩
/-- bytes in the text -/
def sg (S : MS) (a : Nat) (w : List Nat) : Prop := (∀ k, k < w.length → S.2 7 (a + k) = nI (ch w k)) ∧ a + w.length ≤ 50000 ∧ bytesOk w
theorem tx.sg {b : Nat} {t : List Nat} {a : Nat × Nat} (T : tx S b t) (h : a.1 + a.2 ≤ t.length) : sg S (b + a.1) (sub t a) := by
  obtain ⟨t1, t2, t3, t4, t5, t6⟩ := T
  refine ⟨fun k hk => ?_, by rw [sub_len h]; omega, fun x hx => ?_⟩
  · rw [sub_len h] at hk
    rw [sub_ch h hk, Nat.add_assoc]
    exact t3 (a.1 + k) (by omega)
  · exact t6 x (List.mem_of_mem_drop (List.mem_of_mem_take hx))
set_option maxRecDepth 20000 in
theorem c_Mo_same {a b : Nat} {w v : List Nat} (hM : mok M) (A : sg S a w) (B : sg S b v) : xMet l D 0 y_Mo_same [.ref M.1, .int (nI a), .int (nI w.length), .int (nI b), .int (nI v.length)] (mH h0 M S) 0 0 (fun o h' => h' = mH h0 M S ∧ o = .inl (some (.int (bI (decide (w = v)))))) := by
  obtain ⟨a1, a2, a3⟩ := A
  obtain ⟨b1, b2, b3⟩ := B
  refine m_Mo_same (Nat.le_of_ble_eq_true rfl) fun X hl hD hP hA => ?_
  subst hl hD
  have fin : ∀ (v' : Int32) (q' : Bool), decide (w = v) = q' → v' = bI q' → narrow .boolean (.int v') = .int v' ∧ X.P (.inl (some (.int v'))) (mH h0 M S) := by
    intro v' q' e1 e2
    subst e2
    exact ⟨bI_nar q', xP hP ⟨rfl, by rw [e1]⟩⟩
  have key : w.length = v.length → ∀ k : Nat, (k ≤ w.length ∧ ∀ j, j < k → ch w j = ch v j) → xG X 11 [(5, .int (nI k)), (0, .ref M.1), (1, .int (nI a)), (2, .int (nI w.length)), (3, .int (nI b)), (4, .int (nI v.length))] [] (mH h0 M S) 0 0 := by
    intro hl
    refine xind _ _ (fun k => w.length - k) (fun k hk ih => ?_)
    obtain ⟨hk, he⟩ := hk
    refine xgo [11] 40 hA ?_
    refine xb (fun c => ?_) (fun c => ?_)
    · have : k = w.length := Nat.le_antisymm hk ((nI_leI (by omega) (by omega)).mp c)
      subst this
      exact fin 1 true (decide_eq_true (ch_ext hl he)) rfl
    · have c1 : k < w.length := Nat.lt_of_not_le fun z => c (nI_le z (by omega))
      refine ya (by rfl) ?_
      refine yl (i := a + k) hM (by rfl) (nI_add a k) (by show a + k < 50000; omega) ?_
      refine ya (by rfl) ?_
      refine yl (i := b + k) hM (by rfl) (nI_add b k) (by show b + k < 50000; omega) ?_
      rw [a1 k c1, b1 k (by omega)]
      have l1 := a3.lt c1
      have l2 := b3.lt (i := k) (by omega)
      refine xb (fun c => ?_) (fun c => ?_)
      · have q := ih (k + 1) ⟨c1, fun j hj => by
          rcases Nat.lt_succ_iff_lt_or_eq.mp hj with z | z
          · exact he j z
          · rw [z]; exact (nI_eq (by omega) (by omega)).mp c⟩ (by omega)
        rw [← nI_1] at q
        exact q
      · exact fin 0 false (decide_eq_false (fun z => c (by rw [z]))) rfl
  refine xgo [11] 40 hA ?_
  refine xb (fun c => ?_) (fun c => ?_)
  · exact key ((nI_eq (by omega) (by omega)).mp c) 0 ⟨Nat.zero_le _, fun j hj => absurd hj (Nat.not_lt_zero _)⟩
  · exact fin 0 false (decide_eq_false (fun z => c (by rw [z]))) rfl
end
