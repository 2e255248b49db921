/-! THE LAW, 5: its helpers -/
theorem xcVC {K : Nat → xK} {ls : xL} {st : List Value} {h : xH} {rc rs n : Nat} {l : Launch} {D : xD} {hs : List (Nat × Nat)} {Pc : xO → xH → Prop} {d mc ms na b ci : Nat} {y : MethodName} {as rest fs : List Value} (e : h b = some (ci, fs)) (hM : xMet l D d y (.ref b :: as) h mc ms Pc) (hna : (Value.ref b :: as).length = na) (hst : st = (Value.ref b :: as).reverse ++ rest) (hb : Nat.ble (rest.map fun v => v.category).sum 8 = true) (h1 : mc ≤ rc) (h2 : ms ≤ rs) (hk : ∀ o h', Pc o h' → xafC K hs n ls rest (rc - mc) (rs - ms) o h') : o_callVC l D hs ci d na y n K ls st h rc rs :=
  xsp_av (acc := []) hna hst ⟨fs, e, by unfold xclC; rw [hb]; exact ⟨mc, ms, Pc, hM, h1, h2, hk⟩⟩
/-- a helper's answer: 0 and the answer laid out, or 1 -/
def oH (q : Option Int64) (ou : Nat) (h' : xH) (o : xO) (h2 : xH) : Prop := match q with
  | none => o = .inl (some (.int 1)) ∧ h2 = h'
  | some v => o = .inl (some (.int 0)) ∧ h2 = xset h' ou (102, [.long v])
def i64 (q : Option Int32) : Option Int64 := q.map Int32.toInt64
section
variable {l : Launch} {D : xD} {Zh h : xH} {sc ou : Nat} {K : CK} {A : AS} {w0 : Value}
set_option maxRecDepth 20000 in
theorem h_feed {a b c d e : Int32} (R : scR Zh D h sc K A) (hou : Zh ou = some (102, [w0])) : xMet l D 7 y_Lw_feed [.ref sc, .int a, .int b, .int c, .int d, .int e, .ref ou] h 1 6 (fun o h2 => ∃ h', scR Zh D h' sc K (aFeed A a b c d e).2 ∧ oH (i64 (aFeed A a b c d e).1) ou h' o h2) := by
  obtain ⟨vs, hsc⟩ := R.at
  refine m_Lw_feed (Nat.le_of_ble_eq_true rfl) fun X hl hD hP hA => ?_
  subst hl hD
  refine xgo [] 40 hA ?_
  refine xcVC hsc (c_feed R) (by rfl) (by rfl) (by rfl) (Nat.le_refl _) (Nat.le_refl _) ?_
  rintro o h' ⟨ho, R'⟩
  cases hq : (aFeed A a b c d e).1 with
  | none =>
    rw [hq] at ho
    obtain ⟨x, rfl⟩ := ho
    exact xP hP ⟨h', R', by rw [hq]; exact ⟨rfl, rfl⟩⟩
  | some v =>
    rw [hq] at ho
    have ho : o = .inl (some (.int v)) := ho
    subst ho
    refine xsl (t := 2) (j := 0) (R'.in hou).1 (by rfl) (Nat.zero_lt_one) ?_
    exact xP hP ⟨h', R', by rw [hq]; exact ⟨rfl, rfl⟩⟩
set_option maxRecDepth 20000 in
theorem h_end {n : Int32} (R : scR Zh D h sc K A) (hou : Zh ou = some (102, [w0])) : xMet l D 7 y_Lw_end [.ref sc, .int n, .ref ou] h 1 6 (fun o h2 => ∃ h', scR Zh D h' sc K (aEnd A n).2 ∧ oH (i64 (aEnd A n).1) ou h' o h2) := by
  obtain ⟨vs, hsc⟩ := R.at
  refine m_Lw_end (Nat.le_of_ble_eq_true rfl) fun X hl hD hP hA => ?_
  subst hl hD
  refine xgo [] 40 hA ?_
  refine xcVC hsc (c_end R) (by rfl) (by rfl) (by rfl) (Nat.le_refl _) (Nat.le_refl _) ?_
  rintro o h' ⟨ho, R'⟩
  cases hq : (aEnd A n).1 with
  | none =>
    rw [hq] at ho
    obtain ⟨x, rfl⟩ := ho
    exact xP hP ⟨h', R', by rw [hq]; exact ⟨rfl, rfl⟩⟩
  | some v =>
    rw [hq] at ho
    have ho : o = .inl (some (.int v)) := ho
    subst ho
    refine xsl (t := 2) (j := 0) (R'.in hou).1 (by rfl) (Nat.zero_lt_one) ?_
    exact xP hP ⟨h', R', by rw [hq]; exact ⟨rfl, rfl⟩⟩
set_option maxRecDepth 20000 in
theorem h_source (R : scR Zh D h sc K A) (hou : Zh ou = some (102, [w0])) : xMet l D 13 y_Lw_source [.ref sc, .ref ou] h (44 * A.tp.length + 100) (551 * A.tp.length + 3800) (fun o h2 => ∃ h', scR Zh D h' sc K (aSource A).2 ∧ oH (i64 (aSource A).1) ou h' o h2) := by
  obtain ⟨vs, hsc⟩ := R.at
  refine m_Lw_source (Nat.le_of_ble_eq_true rfl) fun X hl hD hP hA => ?_
  subst hl hD
  refine xgo [] 40 hA ?_
  refine xcVC hsc (c_source R) (by rfl) (by rfl) (by rfl) (Nat.le_refl _) (Nat.le_refl _) ?_
  rintro o h' ⟨ho, R'⟩
  cases hq : (aSource A).1 with
  | none =>
    rw [hq] at ho
    obtain ⟨x, rfl⟩ := ho
    exact xP hP ⟨h', R', by rw [hq]; exact ⟨rfl, rfl⟩⟩
  | some v =>
    rw [hq] at ho
    have ho : o = .inl (some (.int v)) := ho
    subst ho
    refine xsl (t := 2) (j := 0) (R'.in hou).1 (by rfl) (Nat.zero_lt_one) ?_
    exact xP hP ⟨h', R', by rw [hq]; exact ⟨rfl, rfl⟩⟩
set_option maxRecDepth 20000 in
theorem h_style (R : scR Zh D h sc K A) (hou : Zh ou = some (102, [w0])) : xMet l D 13 y_Lw_style [.ref sc, .ref ou] h (44 * A.tp.length + 100) (551 * A.tp.length + 1200) (fun o h2 => ∃ h', scR Zh D h' sc K (aStyle A).2 ∧ oH (i64 (aStyle A).1) ou h' o h2) := by
  obtain ⟨vs, hsc⟩ := R.at
  refine m_Lw_style (Nat.le_of_ble_eq_true rfl) fun X hl hD hP hA => ?_
  subst hl hD
  refine xgo [] 40 hA ?_
  refine xcVC hsc (c_style R) (by rfl) (by rfl) (by rfl) (Nat.le_refl _) (Nat.le_refl _) ?_
  rintro o h' ⟨ho, R'⟩
  cases hq : (aStyle A).1 with
  | none =>
    rw [hq] at ho
    obtain ⟨x, rfl⟩ := ho
    exact xP hP ⟨h', R', by rw [hq]; exact ⟨rfl, rfl⟩⟩
  | some v =>
    rw [hq] at ho
    have ho : o = .inl (some (.int v)) := ho
    subst ho
    refine xsl (t := 2) (j := 0) (R'.in hou).1 (by rfl) (Nat.zero_lt_one) ?_
    exact xP hP ⟨h', R', by rw [hq]; exact ⟨rfl, rfl⟩⟩
set_option maxRecDepth 20000 in
theorem h_property {e : Int32} (R : scR Zh D h sc K A) (hou : Zh ou = some (102, [w0])) : xMet l D 10 y_Lw_property [.ref sc, .int e, .ref ou] h 2 9 (fun o h2 => ∃ h', scR Zh D h' sc K (aProp A e).2 ∧ oH (i64 (aProp A e).1) ou h' o h2) := by
  obtain ⟨vs, hsc⟩ := R.at
  refine m_Lw_property (Nat.le_of_ble_eq_true rfl) fun X hl hD hP hA => ?_
  subst hl hD
  refine xgo [] 40 hA ?_
  refine xcVC hsc (c_property R) (by rfl) (by rfl) (by rfl) (Nat.le_refl _) (Nat.le_refl _) ?_
  rintro o h' ⟨ho, R'⟩
  cases hq : (aProp A e).1 with
  | none =>
    rw [hq] at ho
    obtain ⟨x, rfl⟩ := ho
    exact xP hP ⟨h', R', by rw [hq]; exact ⟨rfl, rfl⟩⟩
  | some v =>
    rw [hq] at ho
    have ho : o = .inl (some (.int v)) := ho
    subst ho
    refine xsl (t := 2) (j := 0) (R'.in hou).1 (by rfl) (Nat.zero_lt_one) ?_
    exact xP hP ⟨h', R', by rw [hq]; exact ⟨rfl, rfl⟩⟩
set_option maxRecDepth 20000 in
theorem h_by {e : Int32} (R : scR Zh D h sc K A) (hou : Zh ou = some (102, [w0])) : xMet l D 10 y_Lw_by [.ref sc, .int e, .ref ou] h 2 9 (fun o h2 => ∃ h', scR Zh D h' sc K (A.wTp []) ∧ oH (i64 (aBy A e)) ou h' o h2) := by
  obtain ⟨vs, hsc⟩ := R.at
  refine m_Lw_by (Nat.le_of_ble_eq_true rfl) fun X hl hD hP hA => ?_
  subst hl hD
  refine xgo [] 40 hA ?_
  refine xcVC hsc (c_by R) (by rfl) (by rfl) (by rfl) (Nat.le_refl _) (Nat.le_refl _) ?_
  rintro o h' ⟨ho, R'⟩
  cases hq : aBy A e with
  | none =>
    rw [hq] at ho
    obtain ⟨x, rfl⟩ := ho
    exact xP hP ⟨h', R', by rw [hq]; exact ⟨rfl, rfl⟩⟩
  | some v =>
    rw [hq] at ho
    have ho : o = .inl (some (.int v)) := ho
    subst ho
    refine xsl (t := 2) (j := 0) (R'.in hou).1 (by rfl) (Nat.zero_lt_one) ?_
    exact xP hP ⟨h', R', by rw [hq]; exact ⟨rfl, rfl⟩⟩
set_option maxRecDepth 20000 in
theorem h_select (R : scR Zh D h sc K A) (hou : Zh ou = some (102, [w0])) : xMet l D 12 y_Lw_select [.ref sc, .ref ou] h (44 * A.tp.length + 100) (551 * A.tp.length + 1200) (fun o h2 => ∃ h', scR Zh D h' sc K (aSelect A).2 ∧ oH (i64 (aSelect A).1) ou h' o h2) := by
  obtain ⟨vs, hsc⟩ := R.at
  refine m_Lw_select (Nat.le_of_ble_eq_true rfl) fun X hl hD hP hA => ?_
  subst hl hD
  refine xgo [] 40 hA ?_
  refine xcVC hsc (c_select R) (by rfl) (by rfl) (by rfl) (Nat.le_refl _) (Nat.le_refl _) ?_
  rintro o h' ⟨ho, R'⟩
  cases hq : (aSelect A).1 with
  | none =>
    rw [hq] at ho
    obtain ⟨x, rfl⟩ := ho
    exact xP hP ⟨h', R', by rw [hq]; exact ⟨rfl, rfl⟩⟩
  | some v =>
    rw [hq] at ho
    have ho : o = .inl (some (.int v)) := ho
    subst ho
    refine xsl (t := 2) (j := 0) (R'.in hou).1 (by rfl) (Nat.zero_lt_one) ?_
    exact xP hP ⟨h', R', by rw [hq]; exact ⟨rfl, rfl⟩⟩
set_option maxRecDepth 20000 in
theorem h_found {i : Int32} (R : scR Zh D h sc K A) (hou : Zh ou = some (102, [w0])) : xMet l D 7 y_Lw_found [.ref sc, .int i, .ref ou] h 1 6 (fun o h2 => ∃ h', scR Zh D h' sc K A ∧ oH (i64 (aFound A i)) ou h' o h2) := by
  obtain ⟨vs, hsc⟩ := R.at
  refine m_Lw_found (Nat.le_of_ble_eq_true rfl) fun X hl hD hP hA => ?_
  subst hl hD
  refine xgo [] 40 hA ?_
  refine xcVC hsc (c_found R) (by rfl) (by rfl) (by rfl) (Nat.le_refl _) (Nat.le_refl _) ?_
  rintro o h' ⟨ho, R'⟩
  cases hq : aFound A i with
  | none =>
    rw [hq] at ho
    obtain ⟨x, rfl⟩ := ho
    exact xP hP ⟨h', R', by rw [hq]; exact ⟨rfl, rfl⟩⟩
  | some v =>
    rw [hq] at ho
    have ho : o = .inl (some (.int v)) := ho
    subst ho
    refine xsl (t := 2) (j := 0) (R'.in hou).1 (by rfl) (Nat.zero_lt_one) ?_
    exact xP hP ⟨h', R', by rw [hq]; exact ⟨rfl, rfl⟩⟩
set_option maxRecDepth 20000 in
theorem h_fits {s e : Int32} (R : scR Zh D h sc K A) (hou : Zh ou = some (102, [w0])) : xMet l D 8 y_Lw_fits [.ref sc, .int s, .int e, .ref ou] h 1 6 (fun o h2 => ∃ h', scR Zh D h' sc K A ∧ oH (i64 (aFits A s e)) ou h' o h2) := by
  obtain ⟨vs, hsc⟩ := R.at
  refine m_Lw_fits (Nat.le_of_ble_eq_true rfl) fun X hl hD hP hA => ?_
  subst hl hD
  refine xgo [] 40 hA ?_
  refine xcVC hsc (c_fits R) (by rfl) (by rfl) (by rfl) (Nat.le_refl _) (Nat.le_refl _) ?_
  rintro o h' ⟨ho, R'⟩
  cases hq : aFits A s e with
  | none =>
    rw [hq] at ho
    obtain ⟨x, rfl⟩ := ho
    exact xP hP ⟨h', R', by rw [hq]; exact ⟨rfl, rfl⟩⟩
  | some v =>
    rw [hq] at ho
    have ho : o = .inl (some (.int v)) := ho
    subst ho
    refine xsl (t := 2) (j := 0) (R'.in hou).1 (by rfl) (Nat.zero_lt_one) ?_
    exact xP hP ⟨h', R', by rw [hq]; exact ⟨rfl, rfl⟩⟩
set_option maxRecDepth 20000 in
theorem h_element {e w : Int32} (R : scR Zh D h sc K A) (hou : Zh ou = some (102, [w0])) : xMet l D 8 y_Lw_element [.ref sc, .int e, .int w, .ref ou] h 2 12 (fun o h2 => ∃ h', scR Zh D h' sc K A ∧ oH (i64 (aElement A e w)) ou h' o h2) := by
  obtain ⟨vs, hsc⟩ := R.at
  refine m_Lw_element (Nat.le_of_ble_eq_true rfl) fun X hl hD hP hA => ?_
  subst hl hD
  refine xgo [] 40 hA ?_
  refine xcVC hsc (c_element R) (by rfl) (by rfl) (by rfl) (Nat.le_refl _) (Nat.le_refl _) ?_
  rintro o h' ⟨ho, R'⟩
  cases hq : aElement A e w with
  | none =>
    rw [hq] at ho
    obtain ⟨x, rfl⟩ := ho
    exact xP hP ⟨h', R', by rw [hq]; exact ⟨rfl, rfl⟩⟩
  | some v =>
    rw [hq] at ho
    have ho : o = .inl (some (.int v)) := ho
    subst ho
    refine xsl (t := 2) (j := 0) (R'.in hou).1 (by rfl) (Nat.zero_lt_one) ?_
    exact xP hP ⟨h', R', by rw [hq]; exact ⟨rfl, rfl⟩⟩
set_option maxRecDepth 20000 in
theorem h_word {i : Int32} (R : scR Zh D h sc K A) (hou : Zh ou = some (102, [w0])) : xMet l D 7 y_Lw_word [.ref sc, .int i, .ref ou] h 1 6 (fun o h2 => ∃ h', scR Zh D h' sc K A ∧ oH (aWord A i) ou h' o h2) := by
  obtain ⟨vs, hsc⟩ := R.at
  refine m_Lw_word (Nat.le_of_ble_eq_true rfl) fun X hl hD hP hA => ?_
  subst hl hD
  refine xgo [] 40 hA ?_
  refine xcVC hsc (c_word R) (by rfl) (by rfl) (by rfl) (Nat.le_refl _) (Nat.le_refl _) ?_
  rintro o h' ⟨ho, R'⟩
  cases hq : aWord A i with
  | none =>
    rw [hq] at ho
    obtain ⟨x, rfl⟩ := ho
    exact xP hP ⟨h', R', by rw [hq]; exact ⟨rfl, rfl⟩⟩
  | some v =>
    rw [hq] at ho
    have ho : o = .inl (some (.long v)) := ho
    subst ho
    refine xsl (t := 2) (j := 0) (R'.in hou).1 (by rfl) (Nat.zero_lt_one) ?_
    exact xP hP ⟨h', R', by rw [hq]; exact ⟨rfl, rfl⟩⟩
set_option maxRecDepth 20000 in
theorem h_count {w : Int32} (R : scR Zh D h sc K A) (hou : Zh ou = some (102, [w0])) : xMet l D 7 y_Lw_count [.ref sc, .int w, .ref ou] h 1 6 (fun o h2 => ∃ h', scR Zh D h' sc K A ∧ oH (i64 (aCount A w)) ou h' o h2) := by
  obtain ⟨vs, hsc⟩ := R.at
  refine m_Lw_count (Nat.le_of_ble_eq_true rfl) fun X hl hD hP hA => ?_
  subst hl hD
  refine xgo [] 40 hA ?_
  refine xcVC hsc (c_count R) (by rfl) (by rfl) (by rfl) (Nat.le_refl _) (Nat.le_refl _) ?_
  rintro o h' ⟨ho, R'⟩
  cases hq : aCount A w with
  | none =>
    rw [hq] at ho
    obtain ⟨x, rfl⟩ := ho
    exact xP hP ⟨h', R', by rw [hq]; exact ⟨rfl, rfl⟩⟩
  | some v =>
    rw [hq] at ho
    have ho : o = .inl (some (.int v)) := ho
    subst ho
    refine xsl (t := 2) (j := 0) (R'.in hou).1 (by rfl) (Nat.zero_lt_one) ?_
    exact xP hP ⟨h', R', by rw [hq]; exact ⟨rfl, rfl⟩⟩
/-- tell's -/
def oHT (q : Nat × Int32) (ou : Nat) (h' : xH) (o : xO) (h2 : xH) : Prop := if q.1 = 0 then o = .inl (some (.int 0)) ∧ h2 = xset h' ou (102, [.long q.2.toInt64]) else if q.1 = 1 then o = .inl (some (.int 1)) ∧ h2 = h' else o = .inl (some (.int 2)) ∧ h2 = h'
set_option maxRecDepth 20000 in
theorem h_tell {e p : Int32} (R : scR Zh D h sc K A) (hou : Zh ou = some (102, [w0])) : xMet l D 8 y_Lw_tell [.ref sc, .int e, .int p, .ref ou] h 2 12 (fun o h2 => ∃ h', scR Zh D h' sc K (aTell A e p).2 ∧ oHT (aTell A e p).1 ou h' o h2) := by
  obtain ⟨vs, hsc⟩ := R.at
  refine m_Lw_tell (Nat.le_of_ble_eq_true rfl) fun X hl hD hP hA => ?_
  subst hl hD
  refine xgo [] 40 hA ?_
  refine xcVC hsc (c_tell R) (by rfl) (by rfl) (by rfl) (Nat.le_refl _) (Nat.le_refl _) ?_
  rintro o h' ⟨ho, R'⟩
  unfold oT at ho
  by_cases z0 : (aTell A e p).1.1 = 0
  · rw [if_pos z0] at ho
    subst ho
    refine xsl (t := 2) (j := 0) (R'.in hou).1 (by rfl) (Nat.zero_lt_one) ?_
    exact xP hP ⟨h', R', by unfold oHT; rw [if_pos z0]; exact ⟨rfl, rfl⟩⟩
  · rw [if_neg z0] at ho
    by_cases z1 : (aTell A e p).1.1 = 1
    · rw [if_pos z1] at ho
      obtain ⟨x, rfl⟩ := ho
      exact xP hP ⟨h', R', by unfold oHT; rw [if_neg z0, if_pos z1]; exact ⟨rfl, rfl⟩⟩
    · rw [if_neg z1] at ho
      obtain ⟨x, rfl⟩ := ho
      exact xP hP ⟨h', R', by unfold oHT; rw [if_neg z0, if_neg z1]; exact ⟨rfl, rfl⟩⟩
end
