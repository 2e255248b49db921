/-! CONTRACTS, 1: texts, bytes, the small methods -/
def txv (t : List Nat) : List Value := t.map (fun b => .int (sb_b b))
theorem txv_len (t : List Nat) : (txv t).length = t.length := by simp [txv]
/-- the byte at i, 256 behind the end -/
def ch (t : List Nat) (i : Nat) : Nat := t.getD i 256
def cI (c : Nat) : Int32 := if c < 256 then nI c else -1
def bI (q : Bool) : Int32 := if q then 1 else 0
def bytesOk (t : List Nat) : Prop := ∀ b ∈ t, b < 256
theorem ch_in {t : List Nat} {i : Nat} (hi : i < t.length) : ch t i = t[i] := by simp [ch, List.getD, hi]
theorem ch_out {t : List Nat} {i : Nat} (hi : t.length ≤ i) : ch t i = 256 := by simp [ch, List.getD, Nat.not_lt.mpr hi]
theorem bytesOk.lt {t : List Nat} (h : bytesOk t) {i : Nat} (hi : i < t.length) : ch t i < 256 := by rw [ch_in hi]; exact h _ (List.getElem_mem hi)
theorem bytesOk.le {t : List Nat} (h : bytesOk t) (i : Nat) : ch t i ≤ 256 := by
  by_cases hi : i < t.length
  · exact Nat.le_of_lt (h.lt hi)
  · rw [ch_out (Nat.not_lt.mp hi)]; exact Nat.le_refl _
theorem bytesOk.end {t : List Nat} (h : bytesOk t) (i : Nat) : ch t i = 256 ↔ t.length ≤ i := ⟨fun e => Nat.not_lt.mp fun z => by have := h.lt z; omega, ch_out⟩
theorem txv_at {t : List Nat} {i : Nat} (hi : i < t.length) : (txv t)[i]? = some (.int (sb_b (ch t i))) := by rw [ch_in hi]; simp [txv, hi]
theorem bI_0 (q : Bool) : bI q = 0 ↔ q = false := by cases q <;> decide
theorem bI_n0 (q : Bool) : ¬ bI q = 0 ↔ q = true := by cases q <;> decide
theorem bI_nar (q : Bool) : narrow .boolean (.int (bI q)) = .int (bI q) := by cases q <;> rfl
theorem bI_if {q : Bool} {p : Prop} [Decidable p] (h : p ↔ q = true) : (if p then (1 : Int32) else 0) = bI q := by
  by_cases hp : p
  · rw [if_pos hp, h.mp hp]; rfl
  · rw [if_neg hp]; cases q with
    | true => exact absurd (h.mpr rfl) hp
    | false => rfl
def sm (b : Nat) : Bool := decide (97 ≤ b ∧ b ≤ 122)
def dg (b : Nat) : Bool := decide (48 ≤ b ∧ b ≤ 57)
def bl (b : Nat) : Bool := decide (b = 10 ∨ b = 32)
def pr (b : Nat) : Bool := decide (32 ≤ b ∧ b ≤ 126)
theorem sm_b : ∀ b, b < 256 → ((97 ≤ sb_b b ∧ sb_b b ≤ 122) ↔ sm b = true) := by decide +kernel
theorem dg_b : ∀ b, b < 256 → ((48 ≤ sb_b b ∧ sb_b b ≤ 57) ↔ dg b = true) := by decide +kernel
theorem bl_b : ∀ b, b < 256 → ((sb_b b = 10 ∨ sb_b b = 32) ↔ bl b = true) := by decide +kernel
theorem pr_b : ∀ b, b < 256 → ((32 ≤ sb_b b ∧ sb_b b ≤ 126) ↔ pr b = true) := by decide +kernel
theorem sm_c : ∀ c, c < 257 → ((97 ≤ cI c ∧ cI c ≤ 122) ↔ sm c = true) := by decide +kernel
theorem dg_c : ∀ c, c < 257 → ((48 ≤ cI c ∧ cI c ≤ 57) ↔ dg c = true) := by decide +kernel
theorem bl_c : ∀ c, c < 257 → ((cI c = 10 ∨ cI c = 32) ↔ bl c = true) := by decide +kernel
theorem pr_c : ∀ c, c < 257 → ((32 ≤ cI c ∧ cI c ≤ 126) ↔ pr c = true) := by decide +kernel
theorem sb_inj {b c : Nat} (hb : b < 256) (hc : c < 256) : sb_b b = sb_b c ↔ b = c := by
  constructor
  · intro e
    have h1 := (sb_byte b hb).1
    rw [e, (sb_byte c hc).1] at h1
    exact ((nI_eq (by omega) (by omega)).mp h1).symm
  · intro e; rw [e]
theorem sb_pos : ∀ c, c < 128 → sb_b c = nI c := by decide +kernel
theorem sb_lit {b c : Nat} (hb : b < 256) (hc : c < 128) : sb_b b = nI c ↔ b = c := by rw [← sb_pos c hc]; exact sb_inj hb (by omega)
theorem cI_lit {c k : Nat} (hc : c ≤ 256) (hk : k < 256) : cI c = nI k ↔ c = k := by
  unfold cI
  split
  · exact nI_eq (by omega) (by omega)
  · constructor
    · intro e
      have h1 := congrArg Int32.toInt e
      rw [nI_toInt (by omega)] at h1
      have h2 : (-1 : Int32).toInt = -1 := by decide
      omega
    · intro e; omega
theorem cI_end {c : Nat} (hc : c ≤ 256) : cI c = -1 ↔ c = 256 := by
  unfold cI
  split
  · constructor
    · intro e
      have h1 := congrArg Int32.toInt e
      rw [nI_toInt (by omega)] at h1
      have h2 : (-1 : Int32).toInt = -1 := by decide
      omega
    · intro e; omega
  · constructor
    · intro _; omega
    · intro _; rfl
/-- a walk along a text as long as p -/
def scan (p : Nat → Bool) (t : List Nat) (i : Nat) : Nat := i + ((t.drop i).takeWhile p).length
theorem scan_step {p : Nat → Bool} {t : List Nat} {i : Nat} (hi : i < t.length) (hp : p (ch t i) = true) : scan p t i = scan p t (i + 1) := by
  unfold scan
  rw [List.drop_eq_getElem_cons hi]
  rw [ch_in hi] at hp
  rw [List.takeWhile_cons, if_pos hp]
  simp
  omega
theorem scan_stop {p : Nat → Bool} {t : List Nat} {i : Nat} (h : i < t.length → p (ch t i) = false) : scan p t i = i := by
  unfold scan
  by_cases hi : i < t.length
  · have := h hi
    rw [ch_in hi] at this
    rw [List.drop_eq_getElem_cons hi, List.takeWhile_cons, if_neg (by rw [this]; decide)]
    rfl
  · rw [List.drop_eq_nil_of_le (Nat.not_lt.mp hi)]
    rfl
theorem scan_ge (p : Nat → Bool) (t : List Nat) (i : Nat) : i ≤ scan p t i := Nat.le_add_right _ _
theorem scan_le {p : Nat → Bool} {t : List Nat} {i : Nat} (hi : i ≤ t.length) : scan p t i ≤ t.length := by
  unfold scan
  have h1 := (List.takeWhile_prefix (p := p) (l := t.drop i)).length_le
  rw [List.length_drop] at h1
  omega
theorem scan_end {p : Nat → Bool} {t : List Nat} : ∀ {n i : Nat}, t.length - i ≤ n → scan p t i < t.length → p (ch t (scan p t i)) = false
  | 0, i, hn, h => by have := scan_ge p t i; omega
  | n + 1, i, hn, h => by
    by_cases hi : i < t.length
    · cases hp : p (ch t i) with
      | true => rw [scan_step hi hp] at h ⊢; exact scan_end (n := n) (by omega) h
      | false => rw [scan_stop (fun _ => hp)]; exact hp
    · have := scan_ge p t i; omega
theorem scan_mid {p : Nat → Bool} {t : List Nat} : ∀ {n i k : Nat}, t.length - i ≤ n → i ≤ k → k < scan p t i → k < t.length ∧ p (ch t k) = true
  | 0, i, k, hn, h1, h2 => by
    rw [scan_stop (fun z => by omega)] at h2; omega
  | n + 1, i, k, hn, h1, h2 => by
    by_cases hi : i < t.length
    · cases hp : p (ch t i) with
      | true =>
        rcases Nat.eq_or_lt_of_le h1 with rfl | h3
        · exact ⟨hi, hp⟩
        · rw [scan_step hi hp] at h2; exact scan_mid (n := n) (by omega) h3 h2
      | false => rw [scan_stop (fun _ => hp)] at h2; omega
    · rw [scan_stop (fun z => absurd z hi)] at h2; omega
theorem c_isSmall {l : Launch} {D : xD} {b : Int32} {q : Bool} (hq : (97 ≤ b ∧ b ≤ 122) ↔ q = true) (h : xH) : xMet l D 0 y_Sc_isSmall [.int b] h 0 0 (fun o h' => h' = h ∧ o = .inl (some (.int (bI q)))) := by
  refine m_Sc_isSmall (Nat.le_of_ble_eq_true rfl) fun X hl hD hP hA => ?_
  refine xgo [] 20 hA ?_
  refine xb (fun c => ?_) (fun c => ?_)
  · refine And.intro rfl (xP hP ⟨rfl, ?_⟩)
    rw [← bI_if hq, if_neg (fun z => absurd c (Int32.not_lt.mpr z.1))]
  · refine xb (fun c2 => ?_) (fun c2 => ?_)
    · refine And.intro rfl (xP hP ⟨rfl, ?_⟩)
      rw [← bI_if hq, if_neg (fun z => absurd c2 (Int32.not_lt.mpr z.2))]
    · refine And.intro rfl (xP hP ⟨rfl, ?_⟩)
      rw [← bI_if hq, if_pos ⟨Int32.not_lt.mp c, Int32.not_lt.mp c2⟩]
theorem c_isDigit {l : Launch} {D : xD} {b : Int32} {q : Bool} (hq : (48 ≤ b ∧ b ≤ 57) ↔ q = true) (h : xH) : xMet l D 0 y_Sc_isDigit [.int b] h 0 0 (fun o h' => h' = h ∧ o = .inl (some (.int (bI q)))) := by
  refine m_Sc_isDigit (Nat.le_of_ble_eq_true rfl) fun X hl hD hP hA => ?_
  refine xgo [] 20 hA ?_
  refine xb (fun c => ?_) (fun c => ?_)
  · refine And.intro rfl (xP hP ⟨rfl, ?_⟩)
    rw [← bI_if hq, if_neg (fun z => absurd c (Int32.not_lt.mpr z.1))]
  · refine xb (fun c2 => ?_) (fun c2 => ?_)
    · refine And.intro rfl (xP hP ⟨rfl, ?_⟩)
      rw [← bI_if hq, if_neg (fun z => absurd c2 (Int32.not_lt.mpr z.2))]
    · refine And.intro rfl (xP hP ⟨rfl, ?_⟩)
      rw [← bI_if hq, if_pos ⟨Int32.not_lt.mp c, Int32.not_lt.mp c2⟩]
theorem c_isPrinted {l : Launch} {D : xD} {b : Int32} {q : Bool} (hq : (32 ≤ b ∧ b ≤ 126) ↔ q = true) (h : xH) : xMet l D 0 y_Sc_isPrinted [.int b] h 0 0 (fun o h' => h' = h ∧ o = .inl (some (.int (bI q)))) := by
  refine m_Sc_isPrinted (Nat.le_of_ble_eq_true rfl) fun X hl hD hP hA => ?_
  refine xgo [] 20 hA ?_
  refine xb (fun c => ?_) (fun c => ?_)
  · refine And.intro rfl (xP hP ⟨rfl, ?_⟩)
    rw [← bI_if hq, if_neg (fun z => absurd c (Int32.not_lt.mpr z.1))]
  · refine xb (fun c2 => ?_) (fun c2 => ?_)
    · refine And.intro rfl (xP hP ⟨rfl, ?_⟩)
      rw [← bI_if hq, if_neg (fun z => absurd c2 (Int32.not_lt.mpr z.2))]
    · refine And.intro rfl (xP hP ⟨rfl, ?_⟩)
      rw [← bI_if hq, if_pos ⟨Int32.not_lt.mp c, Int32.not_lt.mp c2⟩]
theorem c_isBlank {l : Launch} {D : xD} {b : Int32} {q : Bool} (hq : (b = 10 ∨ b = 32) ↔ q = true) (h : xH) : xMet l D 0 y_Sc_isBlank [.int b] h 0 0 (fun o h' => h' = h ∧ o = .inl (some (.int (bI q)))) := by
  refine m_Sc_isBlank (Nat.le_of_ble_eq_true rfl) fun X hl hD hP hA => ?_
  refine xgo [] 20 hA ?_
  refine xb (fun c => ?_) (fun c => ?_)
  · refine And.intro rfl (xP hP ⟨rfl, ?_⟩)
    rw [← bI_if hq, if_pos (Or.inl c)]
  · refine xb (fun c2 => ?_) (fun c2 => ?_)
    · refine And.intro rfl (xP hP ⟨rfl, ?_⟩)
      rw [← bI_if hq, if_neg (fun z => z.elim c c2)]
    · refine And.intro rfl (xP hP ⟨rfl, ?_⟩)
      rw [← bI_if hq, if_pos (Or.inr c2)]
theorem xne' {h : xH} {a b k k' : Nat} {x y : List Value} (ha : h a = some (k, x)) (hb : h b = some (k', y)) (hk : k ≠ k') : a ≠ b := xne ha hb hk
/-- a reader: its bytes, its place, where it found its text broken -/
abbrev rdc (b i : Nat) (br : Int32) : xC := (1, [.ref b, .int (nI i), .int br])
/-- reader r over the text t, at i -/
def rdr (h : xH) (r b : Nat) (t : List Nat) (i : Nat) (br : Int32) : Prop := h r = some (rdc b i br) ∧ h b = some (101, txv t) ∧ i ≤ t.length ∧ t.length < 2 ^ 20 ∧ bytesOk t
theorem c_here {l : Launch} {D : xD} {r b i : Nat} {br : Int32} {t : List Nat} {h : xH} (H : rdr h r b t i br) : xMet l D 0 y_Rd_here [.ref r] h 0 0 (fun o h' => h' = h ∧ o = .inl (some (.int (cI (ch t i))))) := by
  obtain ⟨hr, hb, hi, ht, hB⟩ := H
  refine m_Rd_here (Nat.le_of_ble_eq_true rfl) fun X hl hD hP hA => ?_
  refine xgo [] 20 hA ?_
  refine xg hr rfl ?_
  refine xg hr rfl ?_
  refine xln (t := 1) (Or.inl hb) (by decide) ?_
  rw [txv_len]
  refine xb (fun c => ?_) (fun c => ?_)
  · refine xP hP ⟨rfl, ?_⟩
    rw [ch_out ((nI_leI (by omega) (by omega)).mp c)]; rfl
  · have hlt : i < t.length := Nat.lt_of_not_le fun z => c (nI_le z (by omega))
    refine xg hr rfl ?_
    refine xg hr rfl ?_
    refine xld (Or.inl hb) rfl (txv_at hlt) ?_
    refine xP hP ⟨rfl, ?_⟩
    rw [cI, if_pos (hB.lt hlt), (sb_byte _ (hB.lt hlt)).1]
/-- nextSign: over the blanks -/
theorem c_nextSign {l : Launch} {D : xD} {r b i : Nat} {br : Int32} {t : List Nat} {h : xH} (H : rdr h r b t i br) : xMet l D 1 y_Rd_nextSign [.ref r] h 0 0 (fun o h' => h' = xset h r (rdc b (scan bl t i) br) ∧ o = .inl (some (.int (cI (ch t (scan bl t i)))))) := by
  obtain ⟨hr, hb, hi, ht, hB⟩ := H
  have hbr : b ≠ r := xne' hb hr (by decide)
  refine m_Rd_nextSign (Nat.le_of_ble_eq_true rfl) fun X hl hD hP hA => ?_
  have hb1 : ∀ c, xset h r c b = some (101, txv t) := fun c => (xset_ne _ _ hbr).trans hb
  have tail : ∀ s : Nat, s ≤ t.length → scan bl t i = s → xG X 40 [(0, .ref r)] [] (xset h r (rdc b s br)) 0 0 := by
    intro s hs he
    refine xgo [] 40 hA ?_
    refine xg (xset_same _ _ _) rfl ?_
    refine xg (xset_same _ _ _) rfl ?_
    refine xln (t := 1) (Or.inl (hb1 _)) (by decide) ?_
    rw [txv_len]
    refine xb (fun c => ?_) (fun c => ?_)
    · refine xP hP ⟨by rw [he], ?_⟩
      rw [he, ch_out ((nI_leI (by omega) (by omega)).mp c)]; rfl
    · have hlt : s < t.length := Nat.lt_of_not_le fun z => c (nI_le z (by omega))
      refine xg (xset_same _ _ _) rfl ?_
      refine xg (xset_same _ _ _) rfl ?_
      refine xld (Or.inl (hb1 _)) rfl (txv_at hlt) ?_
      refine xP hP ⟨by rw [he], ?_⟩
      rw [he, cI, if_pos (hB.lt hlt), (sb_byte _ (hB.lt hlt)).1]
  have key : ∀ s : Nat, (s ≤ t.length ∧ scan bl t i = scan bl t s) → xG X 0 [(0, .ref r)] [] (xset h r (rdc b s br)) 0 0 := by
    refine xind _ _ (fun s => t.length - s) (fun s hs ih => ?_)
    obtain ⟨hs, he⟩ := hs
    refine xgo [0, 40] 40 hA ?_
    refine xg (xset_same _ _ _) rfl ?_
    refine xg (xset_same _ _ _) rfl ?_
    refine xln (t := 1) (Or.inl (hb1 _)) (by decide) ?_
    rw [txv_len]
    refine xb (fun c => ?_) (fun c => ?_)
    · exact tail s hs (by rw [he, scan_stop (fun z => absurd c (nI_ge z (by omega)))])
    · have hlt : s < t.length := Nat.lt_of_not_le fun z => c (nI_le z (by omega))
      refine xg (xset_same _ _ _) rfl ?_
      refine xg (xset_same _ _ _) rfl ?_
      refine xld (Or.inl (hb1 _)) rfl (txv_at hlt) ?_
      refine xcS (c_isBlank (bl_b _ (hB.lt hlt)) _) (by rfl) (by rfl) (by rfl) (Nat.zero_le _) (Nat.zero_le _) ?_
      rintro o h' ⟨rfl, rfl⟩
      refine xb (fun c => ?_) (fun c => ?_)
      · exact tail s hs (by rw [he, scan_stop (fun _ => (bI_0 _).mp c)])
      · refine xg (xset_same _ _ _) rfl ?_
        refine xp (xset_same _ _ _) rfl rfl ?_
        rw [xset_set, nI_1]
        exact ih (s + 1) ⟨hlt, by rw [he, scan_step hlt ((bI_n0 _).mp c)]⟩ (by omega)
  have := key i ⟨hi, rfl⟩
  rw [xset_self hr] at this
  exact this
