/-! THE REFERENCE, 13: helpers that read sources -/
theorem s1_s1 (S : MS) (k : Nat) (a b : Int32) : s1 (s1 S k a) k b = s1 S k b := by
  unfold s1
  congr 1
  funext j
  by_cases z : j = k
  · simp [z]
  · simp [z]
theorem s1_self {S : MS} {k : Nat} {v : Int32} (h : S.1 k = v) : s1 S k v = S := by
  unfold s1
  have : (fun j => if j = k then v else S.1 j) = S.1 := by
    funext j
    by_cases z : j = k
    · rw [if_pos z, z, h]
    · rw [if_neg z]
  rw [this]
theorem pr_h {c : Nat} (hc : c < 257) (h1 : (32 : Int32) ≤ cI c) (h2 : cI c ≤ (126 : Int32)) : pr c = true := (pr_c c hc).mp ⟨h1, h2⟩
section
variable {l : Launch} {D : xD} {h0 : xH} {M : MA} {S : MS}
set_option maxRecDepth 20000 in
theorem c_Mo_wrongF {w : Int32} {v : Nat} (hf : S.1 6 = nI v) (hv : v < 2 ^ 31) : xMet l D 0 y_Mo_wrong [.ref M.1, .int w] (mH h0 M S) 0 0 (fun o h' => h' = mH h0 M S ∧ o = .inl none) := by
  refine m_Mo_wrong (Nat.le_of_ble_eq_true rfl) fun X hl hD hP hA => ?_
  subst hl hD
  refine xgo [] 20 hA ?_
  refine yg (by rfl) ?_
  rw [hf]
  refine xt (nI_pos' hv) ?_
  exact xP hP ⟨rfl, rfl⟩
set_option maxRecDepth 20000 in
theorem c_byte {b k : Nat} {iv : Int32} {t : List Nat} (e : iv = nI k) (hM : mok M) (T : tx S b t) (hk : k < 2 ^ 30) : xMet l D 0 y_Mo_byteAt [.ref M.1, .int iv] (mH h0 M S) 0 0 (fun o h' => h' = mH h0 M S ∧ o = .inl (some (.int (cI (ch t k))))) := by
  subst e
  exact c_Mo_byteAt hM T hk
set_option maxRecDepth 20000 in
theorem c_sameV {a b : Nat} {av bv : Int32} {w v : List Nat} (ea : av = nI a) (eb : bv = nI b) (hM : mok M) (A : sg S a w) (B : sg S b v) : xMet l D 0 y_Mo_same [.ref M.1, .int av, .int (nI w.length), .int bv, .int (nI v.length)] (mH h0 M S) 0 0 (fun o h' => h' = mH h0 M S ∧ o = .inl (some (.int (bI (decide (w = v)))))) := by
  subst ea eb
  exact c_Mo_same hM A B
set_option maxRecDepth 20000 in
theorem c_blanks2 {b p : Nat} {t : List Nat} (hM : mok M) (T : tx S b t) (h38 : S.1 38 = nI p) (hp : p ≤ t.length + 9) : xMet l D 1 y_Mo_blanks [.ref M.1] (mH h0 M S) 0 0 (fun o h' => h' = mH h0 M (s1 S 38 (nI (scan bl t p))) ∧ o = .inl none) := by
  have hB := T.2.2.2.2.2
  have hl := T.2.2.2.2.1
  refine m_Mo_blanks (Nat.le_of_ble_eq_true rfl) fun X hl hD hP hA => ?_
  subst hl hD
  have key : ∀ x : Nat, (x ≤ t.length + 9 ∧ scan bl t p = scan bl t x) → xG X 0 [(0, .ref M.1)] [] (mH h0 M (s1 S 38 (nI x))) 0 0 := by
    refine xind _ _ (fun x => t.length + 9 - x) (fun x hx ih => ?_)
    obtain ⟨hx, he⟩ := hx
    have hcx : ch t x ≤ 256 := hB.le x
    refine xgo [0] 40 hA ?_
    refine yg (by rfl) ?_
    rw [s1_eq]
    refine xcV (mH_m _ _ _) (c_Mo_byteAt (k := x) hM (T.p (by decide) (by decide)) (by omega)) (by rfl) (by rfl) (by rfl) (Nat.zero_le _) (Nat.zero_le _) ?_
    rintro o h' ⟨rfl, rfl⟩
    refine xcS (c_Mo_isBlank (bl_c _ (Nat.lt_succ_of_le hcx)) _) (by rfl) (by rfl) (by rfl) (Nat.zero_le _) (Nat.zero_le _) ?_
    rintro o h' ⟨rfl, rfl⟩
    refine xb (fun c => ?_) (fun c => ?_)
    · have hn := (bI_0 _).mp c
      exact xP hP ⟨by rw [he, scan_no hn], rfl⟩
    · have hn := (bI_n0 _).mp c
      have hlt : x < t.length := Nat.lt_of_not_le fun z => by rw [ch_out z] at hn; cases hn
      refine yg (by rfl) ?_
      refine yp (by rfl) ?_
      rw [s1_eq, s1_s1, nI_1]
      exact ih (x + 1) ⟨by omega, by rw [he, scan_step hlt hn]⟩ (by omega)
  have q := key p ⟨hp, rfl⟩
  rw [s1_self h38] at q
  exact q
set_option maxRecDepth 20000 in
theorem c_nameFrom2 {b k : Nat} {t : List Nat} (hM : mok M) (T : tx S b t) (hf : S.1 6 = -1) (hk : k ≤ t.length + 9) : xMet l D 1 y_Mo_nameFrom [.ref M.1, .int (nI k)] (mH h0 M S) 0 0 (fun o h' => (∃ v : Int32, o = .inl (some (.int v)) ∧ pName t k = .error k ∧ h' = mH h0 M (s1 S 6 (nI k))) ∨ (∃ a j, pName t k = .ok (a, j) ∧ o = .inl (some (.int (nI j))) ∧ h' = mH h0 M S)) := by
  have hB := T.2.2.2.2.2
  have hl := T.2.2.2.2.1
  refine m_Mo_nameFrom (Nat.le_of_ble_eq_true rfl) fun X hl hD hP hA => ?_
  subst hl hD
  have key : sm (ch t k) = true → ∀ x : Nat, (k ≤ x ∧ x ≤ t.length ∧ scan nmc t k = scan nmc t x) → xG X 20 [(2, .int (nI x)), (0, .ref M.1), (1, .int (nI k))] [] (mH h0 M S) 0 0 := by
    intro hsm
    refine xind _ _ (fun x => t.length - x) (fun x hx ih => ?_)
    obtain ⟨h1, h2, he⟩ := hx
    have hcx : ch t x ≤ 256 := hB.le x
    have more : nmc (ch t x) = true → xG X 42 [(2, .int (nI x)), (0, .ref M.1), (1, .int (nI k))] [] (mH h0 M S) 0 0 := by
      intro hn
      have hlt : x < t.length := Nat.lt_of_not_le fun z => by rw [ch_out z] at hn; cases hn
      refine xgo [20] 20 hA ?_
      have q := ih (x + 1) ⟨by omega, hlt, by rw [he, scan_step hlt hn]⟩ (by omega)
      rw [← nI_1] at q
      exact q
    refine xgo [42] 60 hA ?_
    refine xcV (mH_m _ _ _) (c_Mo_byteAt (k := x) hM T (by omega)) (by rfl) (by rfl) (by rfl) (Nat.zero_le _) (Nat.zero_le _) ?_
    rintro o h' ⟨rfl, rfl⟩
    refine xcS (c_Mo_isSmall (sm_c _ (Nat.lt_succ_of_le hcx)) _) (by rfl) (by rfl) (by rfl) (Nat.zero_le _) (Nat.zero_le _) ?_
    rintro o h' ⟨rfl, rfl⟩
    refine xb (fun c => ?_) (fun c => ?_)
    · exact more (by unfold nmc; rw [(bI_n0 _).mp c]; rfl)
    refine xcV (mH_m _ _ _) (c_Mo_byteAt (k := x) hM T (by omega)) (by rfl) (by rfl) (by rfl) (Nat.zero_le _) (Nat.zero_le _) ?_
    rintro o h' ⟨rfl, rfl⟩
    refine xcS (c_Mo_isDigit (dg_c _ (Nat.lt_succ_of_le hcx)) _) (by rfl) (by rfl) (by rfl) (Nat.zero_le _) (Nat.zero_le _) ?_
    rintro o h' ⟨rfl, rfl⟩
    refine xb (fun c2 => ?_) (fun c2 => ?_)
    rotate_left
    · exact more (by unfold nmc; rw [(bI_n0 _).mp c2, Bool.or_true])
    have hn : nmc (ch t x) = false := by unfold nmc; rw [(bI_0 _).mp c, (bI_0 _).mp c2]; rfl
    have ex : scan nmc t k = x := by rw [he, scan_no hn]
    refine xb (fun c3 => ?_) (fun c3 => ?_)
    · rw [nI_sub h1] at c3
      have c4 := (nI_leI (b := 12) (by omega) (by decide)).mp c3
      refine xP hP (Or.inr ⟨(k, x - k), x, ?_, rfl, rfl⟩)
      rw [pName, ex, if_pos ⟨hsm, c4⟩]
    · rw [nI_sub h1] at c3
      have c4 : ¬ x - k ≤ 12 := fun z => c3 ((nI_leI (b := 12) (by omega) (by decide)).mpr z)
      refine xcV (mH_m _ _ _) (c_Mo_wrong hf) (by rfl) (by rfl) (by rfl) (Nat.zero_le _) (Nat.zero_le _) ?_
      rintro o h' ⟨rfl, rfl⟩
      refine xP hP (Or.inl ⟨_, rfl, ?_, rfl⟩)
      rw [pName, ex, if_neg (fun z => c4 z.2)]
  have hck : ch t k ≤ 256 := hB.le k
  refine xgo [20] 60 hA ?_
  refine xcV (mH_m _ _ _) (c_Mo_byteAt (k := k) hM T (by omega)) (by rfl) (by rfl) (by rfl) (Nat.zero_le _) (Nat.zero_le _) ?_
  rintro o h' ⟨rfl, rfl⟩
  refine xcS (c_Mo_isSmall (sm_c _ (Nat.lt_succ_of_le hck)) _) (by rfl) (by rfl) (by rfl) (Nat.zero_le _) (Nat.zero_le _) ?_
  rintro o h' ⟨rfl, rfl⟩
  refine xb (fun c => ?_) (fun c => ?_)
  · have hs := (bI_n0 _).mp c
    have := sm_lt hs
    exact key hs k ⟨Nat.le_refl _, by omega, rfl⟩
  · have hs := (bI_0 _).mp c
    refine xcV (mH_m _ _ _) (c_Mo_wrong hf) (by rfl) (by rfl) (by rfl) (Nat.zero_le _) (Nat.zero_le _) ?_
    rintro o h' ⟨rfl, rfl⟩
    refine xP hP (Or.inl ⟨_, rfl, ?_, rfl⟩)
    rw [pName, if_neg (fun z => by rw [hs] at z; cases z.1)]
set_option maxRecDepth 20000 in
theorem c_nameF {b k : Nat} {iv : Int32} {t : List Nat} (e : iv = nI k) (hM : mok M) (T : tx S b t) (hf : S.1 6 = -1) (hk : k ≤ t.length + 9) : xMet l D 1 y_Mo_nameFrom [.ref M.1, .int iv] (mH h0 M S) 0 0 (fun o h' => (∃ v : Int32, o = .inl (some (.int v)) ∧ pName t k = .error k ∧ h' = mH h0 M (s1 S 6 (nI k))) ∨ (∃ a j, pName t k = .ok (a, j) ∧ o = .inl (some (.int (nI j))) ∧ h' = mH h0 M S)) := by
  subst e
  exact c_nameFrom2 hM T hf hk
set_option maxRecDepth 20000 in
theorem c_stringFrom2 {b k : Nat} {t : List Nat} (hM : mok M) (T : tx S b t) (hf : S.1 6 = -1) (hk : k ≤ t.length + 9) : xMet l D 1 y_Mo_stringFrom [.ref M.1, .int (nI k)] (mH h0 M S) 0 0 (fun o h' => (∃ v : Int32, o = .inl (some (.int v)) ∧ pStr t k = .error k ∧ h' = mH h0 M (s1 S 6 (nI k))) ∨ (∃ a j, pStr t k = .ok (a, j) ∧ o = .inl (some (.int (nI j))) ∧ h' = mH h0 M S)) := by
  have hB := T.2.2.2.2.2
  have hl := T.2.2.2.2.1
  refine m_Mo_stringFrom (Nat.le_of_ble_eq_true rfl) fun X hl hD hP hA => ?_
  subst hl hD
  have key : ch t k = 34 → ∀ x : Nat, (k + 1 ≤ x ∧ x ≤ t.length ∧ scan qsc t (k + 1) = scan qsc t x) → xG X 21 [(2, .int (nI x)), (0, .ref M.1), (1, .int (nI k))] [] (mH h0 M S) 0 0 := by
    intro h34
    refine xind _ _ (fun x => t.length - x) (fun x hx ih => ?_)
    obtain ⟨h1, h2, he⟩ := hx
    have hcx : ch t x ≤ 256 := hB.le x
    have done : qsc (ch t x) = false → xG X 57 [(2, .int (nI x)), (0, .ref M.1), (1, .int (nI k))] [] (mH h0 M S) 0 0 := by
      intro hn
      have ex : scan qsc t (k + 1) = x := by rw [he, scan_no hn]
      refine xgo [] 40 hA ?_
      refine xcV (mH_m _ _ _) (c_Mo_byteAt (k := x) hM T (by omega)) (by rfl) (by rfl) (by rfl) (Nat.zero_le _) (Nat.zero_le _) ?_
      rintro o h' ⟨rfl, rfl⟩
      refine xb (fun c => ?_) (fun c => ?_)
      · have c1 := (cI_lit (k := 34) hcx (by decide)).mp c
        refine xP hP (Or.inr ⟨(k + 1, x - k - 1), x + 1, ?_, by rw [← nI_1], rfl⟩)
        rw [pStr, ex, if_pos ⟨h34, c1⟩]
      · have c1 : ¬ ch t x = 34 := fun z => c ((cI_lit (k := 34) hcx (by decide)).mpr z)
        refine xcV (mH_m _ _ _) (c_Mo_wrong hf) (by rfl) (by rfl) (by rfl) (Nat.zero_le _) (Nat.zero_le _) ?_
        rintro o h' ⟨rfl, rfl⟩
        refine xP hP (Or.inl ⟨_, rfl, ?_, rfl⟩)
        rw [pStr, ex, if_neg (fun z => c1 z.2)]
    have hpr := pr_c (ch t x) (Nat.lt_succ_of_le hcx)
    refine xgo [21, 57] 60 hA ?_
    refine xcV (mH_m _ _ _) (c_Mo_byteAt (k := x) hM T (by omega)) (by rfl) (by rfl) (by rfl) (Nat.zero_le _) (Nat.zero_le _) ?_
    rintro o h' ⟨rfl, rfl⟩
    refine xb (fun c => ?_) (fun c => ?_)
    · exact done (by
        have : pr (ch t x) = false := by rw [← Bool.not_eq_true, ← hpr]; exact fun z => Int32.lt_irrefl (Int32.lt_of_lt_of_le c z.1)
        unfold qsc; rw [this]; rfl)
    refine xcV (mH_m _ _ _) (c_Mo_byteAt (k := x) hM T (by omega)) (by rfl) (by rfl) (by rfl) (Nat.zero_le _) (Nat.zero_le _) ?_
    rintro o h' ⟨rfl, rfl⟩
    refine xb (fun c2 => ?_) (fun c2 => ?_)
    · exact done (by
        have : pr (ch t x) = false := by rw [← Bool.not_eq_true, ← hpr]; exact fun z => Int32.lt_irrefl (Int32.lt_of_lt_of_le c2 z.2)
        unfold qsc; rw [this]; rfl)
    have hp1 := hpr.mp ⟨Int32.not_lt.mp c, Int32.not_lt.mp c2⟩
    refine xcV (mH_m _ _ _) (c_Mo_byteAt (k := x) hM T (by omega)) (by rfl) (by rfl) (by rfl) (Nat.zero_le _) (Nat.zero_le _) ?_
    rintro o h' ⟨rfl, rfl⟩
    refine xb (fun c3 => ?_) (fun c3 => ?_)
    · exact done (by
        have := (cI_lit (k := 34) hcx (by decide)).mp c3
        unfold qsc; rw [this]; rfl)
    · have hn : qsc (ch t x) = true := by
        have : ¬ ch t x = 34 := fun z => c3 ((cI_lit (k := 34) hcx (by decide)).mpr z)
        unfold qsc; rw [hp1]; simpa using this
      have hlt : x < t.length := Nat.lt_of_not_le fun z => by rw [ch_out z] at hn; cases hn
      have q := ih (x + 1) ⟨by omega, hlt, by rw [he, scan_step hlt hn]⟩ (by omega)
      rw [← nI_1] at q
      exact q
  have hck : ch t k ≤ 256 := hB.le k
  refine xgo [21] 60 hA ?_
  refine xcV (mH_m _ _ _) (c_Mo_byteAt (k := k) hM T (by omega)) (by rfl) (by rfl) (by rfl) (Nat.zero_le _) (Nat.zero_le _) ?_
  rintro o h' ⟨rfl, rfl⟩
  refine xb (fun c => ?_) (fun c => ?_)
  · have h34 := (cI_lit (k := 34) hck (by decide)).mp c
    have hlt := ch_lt h34 (by decide)
    have q := key h34 (k + 1) ⟨Nat.le_refl _, hlt, rfl⟩
    rw [← nI_1] at q
    exact q
  · have c1 : ¬ ch t k = 34 := fun z => c ((cI_lit (k := 34) hck (by decide)).mpr z)
    refine xcV (mH_m _ _ _) (c_Mo_wrong hf) (by rfl) (by rfl) (by rfl) (Nat.zero_le _) (Nat.zero_le _) ?_
    rintro o h' ⟨rfl, rfl⟩
    refine xP hP (Or.inl ⟨_, rfl, ?_, rfl⟩)
    rw [pStr, if_neg (fun z => c1 z.1)]
set_option maxRecDepth 20000 in
theorem c_stringF {b k : Nat} {iv : Int32} {t : List Nat} (e : iv = nI k) (hM : mok M) (T : tx S b t) (hf : S.1 6 = -1) (hk : k ≤ t.length + 9) : xMet l D 1 y_Mo_stringFrom [.ref M.1, .int iv] (mH h0 M S) 0 0 (fun o h' => (∃ v : Int32, o = .inl (some (.int v)) ∧ pStr t k = .error k ∧ h' = mH h0 M (s1 S 6 (nI k))) ∨ (∃ a j, pStr t k = .ok (a, j) ∧ o = .inl (some (.int (nI j))) ∧ h' = mH h0 M S)) := by
  subst e
  exact c_stringFrom2 hM T hf hk
set_option maxRecDepth 20000 in
theorem c_behindString2 {b k j : Nat} {a : Nat × Nat} {t : List Nat} (hM : mok M) (T : tx S b t) (e : pStr t k = .ok (a, j)) : xMet l D 1 y_Mo_behindString [.ref M.1, .int (nI k)] (mH h0 M S) 0 0 (fun o h' => h' = mH h0 M S ∧ o = .inl (some (.int (nI j)))) := by
  have hB := T.2.2.2.2.2
  have hl := T.2.2.2.2.1
  obtain ⟨e1, e2, e3, e4, e5⟩ := pStr_sub e
  have h34 : ch t (scan qsc t (k + 1)) = 34 := by
    unfold pStr at e
    split at e
    · rename_i h; exact h.2
    · cases e
  refine m_Mo_behindString (Nat.le_of_ble_eq_true rfl) fun X hl hD hP hA => ?_
  subst hl hD
  have key : ∀ x : Nat, (k + 1 ≤ x ∧ x ≤ scan qsc t (k + 1)) → xG X 4 [(2, .int (nI x)), (0, .ref M.1), (1, .int (nI k))] [] (mH h0 M S) 0 0 := by
    refine xind _ _ (fun x => t.length - x) (fun x hx ih => ?_)
    obtain ⟨h1, h2⟩ := hx
    have hcx : ch t x ≤ 256 := hB.le x
    refine xgo [4] 40 hA ?_
    refine xcV (mH_m _ _ _) (c_Mo_byteAt (k := x) hM T (by omega)) (by rfl) (by rfl) (by rfl) (Nat.zero_le _) (Nat.zero_le _) ?_
    rintro o h' ⟨rfl, rfl⟩
    refine xb (fun c => ?_) (fun c => ?_)
    · have c1 := (cI_lit (k := 34) hcx (by decide)).mp c
      have : x = scan qsc t (k + 1) := by
        rcases Nat.lt_or_ge x (scan qsc t (k + 1)) with z | z
        · have := (scan_mid (p := qsc) (t := t) (n := t.length) (i := k + 1) (k := x) (by omega) h1 z).2
          rw [c1] at this
          cases this
        · omega
      exact xP hP ⟨rfl, by rw [e5, ← this, ← nI_1]⟩
    · have : x ≠ scan qsc t (k + 1) := fun z => c ((cI_lit (k := 34) hcx (by decide)).mpr (by rw [z]; exact h34))
      have q := ih (x + 1) ⟨by omega, by omega⟩ (by omega)
      rw [← nI_1] at q
      exact q
  refine xgo [4] 40 hA ?_
  have q := key (k + 1) ⟨Nat.le_refl _, scan_ge _ _ _⟩
  rw [← nI_1] at q
  exact q
theorem cnd_stop {t : List Nat} {n i : Nat} (h : ¬ (i + 2 < t.length ∧ cme t i = false)) : cnd t n i = i := by
  cases n with
  | zero => rfl
  | succ n => rw [cnd, if_neg h]
set_option maxRecDepth 20000 in
theorem c_comment2 {b p : Nat} {t : List Nat} {s : SS} (hM : mok M) (T : tx S b t) (hf : S.1 6 = -1) (h38 : S.1 38 = nI p) (hp : p ≤ t.length) : xMet l D 1 y_Mo_comment [.ref M.1] (mH h0 M S) 0 0 (fun o h' => o = .inl none ∧ ((∃ w v, w ≤ t.length + 9 ∧ sCom t (p + 3) s = .error w ∧ h' = mH h0 M (s1 (s1 S 6 (nI w)) 38 v)) ∨ (∃ j, sCom t (p + 3) s = .ok (s, j) ∧ h' = mH h0 M (s1 S 38 (nI j))))) := by
  have hB := T.2.2.2.2.2
  have hl := T.2.2.2.2.1
  refine m_Mo_comment (Nat.le_of_ble_eq_true rfl) fun X hl hD hP hA => ?_
  subst hl hD
  have hc3 : ch t (p + 3) ≤ 256 := hB.le _
  have key : ch t (p + 3) = 45 → ∀ x : Nat, (p + 4 ≤ x ∧ ((x ≤ t.length + 4 ∧ t.length ≤ x + 2 ∧ t.length ≤ cnd t t.length (p + 4) + 2 ) ∨ ∃ n, t.length ≤ n + x ∧ cnd t t.length (p + 4) = cnd t n x)) → x ≤ t.length + 4 → xG X 33 [(1, .int (nI x)), (0, .ref M.1)] [] (mH h0 M S) 0 0 := by
    intro h45
    refine xind _ _ (fun x => t.length + 4 - x) (fun x hx ih => ?_)
    obtain ⟨h1, h2⟩ := hx
    intro hxl
    have eS : sCom t (p + 3) s = (pB (pCom t (p + 4)) fun _ k => .ok (s, k)) := by rw [sCom, pExp, if_pos h45]; rfl
    have l0 : ch t x ≤ 256 := hB.le x
    have l1 : ch t (x + 1) ≤ 256 := hB.le _
    have l2 : ch t (x + 2) ≤ 256 := hB.le _
    -- the end of the text
    have over : t.length ≤ x → cnd t t.length (p + 4) + 2 ≥ t.length := by
      intro hx
      rcases h2 with z | ⟨n, z1, z2⟩
      · exact z.2.2
      · rw [z2, cnd_stop (fun y => by omega)]; omega
    have next : cme t x = false → x < t.length → xG X 75 [(1, .int (nI x)), (0, .ref M.1)] [] (mH h0 M S) 0 0 := by
      intro hn hlt
      refine xgo [33] 20 hA ?_
      have q := ih (x + 1) ⟨by omega, by
        rcases h2 with z | ⟨n, z1, z2⟩
        · exact Or.inl ⟨by omega, by omega, z.2.2⟩
        · by_cases y : x + 2 < t.length
          · cases n with
            | zero => omega
            | succ n => exact Or.inr ⟨n, by omega, by rw [z2, cnd, if_pos ⟨y, hn⟩]⟩
          · refine Or.inl ⟨by omega, by omega, ?_⟩
            rw [z2, cnd_stop (fun y' => by omega)]; omega⟩ (by omega) (by omega)
      rw [← nI_1] at q
      exact q
    refine xgo [75, 81] 90 hA ?_
    refine yg (by rfl) ?_
    rw [T.2.1]
    refine xb (fun c => ?_) (fun c => ?_)
    · have c1 := (nI_leI (a := t.length) (b := x) (by omega) (by omega)).mp c
      show xG X 81 _ [] _ _ _
      refine xgo [] 40 hA ?_
      refine yg (by rfl) ?_
      rw [T.2.1]
      refine xf (fun z => by have := (nI_ltI (a := x) (b := t.length) (by omega) (by omega)).mp z; omega) ?_
      refine yg (by rfl) ?_
      rw [T.2.1]
      refine xcV (mH_m _ _ _) (c_Mo_wrong hf) (by rfl) (by rfl) (by rfl) (Nat.zero_le _) (Nat.zero_le _) ?_
      rintro o h' ⟨rfl, rfl⟩
      refine yp (by rfl) ?_
      refine xP hP ⟨rfl, Or.inl ⟨t.length, _, by omega, ?_, rfl⟩⟩
      rw [eS, pB_er]
      rw [pCom, if_neg (by have := over c1; omega)]
    have c1 : x < t.length := Nat.lt_of_not_le fun z => c (nI_le z (by omega))
    refine xcV (mH_m _ _ _) (c_Mo_byteAt (k := x) hM T (by omega)) (by rfl) (by rfl) (by rfl) (Nat.zero_le _) (Nat.zero_le _) ?_
    rintro o h' ⟨rfl, rfl⟩
    refine xb (fun c2 => ?_) (fun c2 => ?_)
    · have n2 : ¬ ch t x = 45 := fun z => c2 ((cI_lit (k := 45) l0 (by decide)).mpr z)
      exact next (by rw [cme, beq_eq_false_iff_ne.mpr n2]; rfl) c1
    have y2 := (cI_lit (k := 45) l0 (by decide)).mp c2
    refine xcV (mH_m _ _ _) (c_byte (k := x + 1) (nI_1 x) hM T (by omega)) (by rfl) (by rfl) (by rfl) (Nat.zero_le _) (Nat.zero_le _) ?_
    rintro o h' ⟨rfl, rfl⟩
    refine xb (fun c3 => ?_) (fun c3 => ?_)
    · have n3 : ¬ ch t (x + 1) = 45 := fun z => c3 ((cI_lit (k := 45) l1 (by decide)).mpr z)
      exact next (by rw [cme, beq_eq_false_iff_ne.mpr n3]; simp) c1
    have y3 := (cI_lit (k := 45) l1 (by decide)).mp c3
    refine xcV (mH_m _ _ _) (c_byte (k := x + 2) (nI_add x 2) hM T (by omega)) (by rfl) (by rfl) (by rfl) (Nat.zero_le _) (Nat.zero_le _) ?_
    rintro o h' ⟨rfl, rfl⟩
    refine xb (fun c4 => ?_) (fun c4 => ?_)
    rotate_left
    · have n4 : ¬ ch t (x + 2) = 62 := fun z => c4 ((cI_lit (k := 62) l2 (by decide)).mpr z)
      exact next (by rw [cme, beq_eq_false_iff_ne.mpr n4]; simp) c1
    have y4 := (cI_lit (k := 62) l2 (by decide)).mp c4
    have hx2 := ch_lt y4 (by decide)
    show xG X 81 _ [] _ _ _
    refine xgo [] 40 hA ?_
    refine yg (by rfl) ?_
    rw [T.2.1]
    refine xt ((nI_ltI (a := x) (b := t.length) (by omega) (by omega)).mpr c1) ?_
    refine yp (by rfl) ?_
    have ec : cnd t t.length (p + 4) = x := by
      rcases h2 with z | ⟨n, z1, z2⟩
      · omega
      · rw [z2, cnd_stop]
        rintro ⟨-, z⟩
        rw [cme, y2, y3, y4] at z
        cases z
    refine xP hP ⟨rfl, Or.inr ⟨x + 3, ?_, by rw [← nI_add x 3]; rfl⟩⟩
    rw [eS, pCom, ec, if_pos hx2]; rfl
  refine xgo [33] 60 hA ?_
  refine yg (by rfl) ?_
  rw [h38]
  refine xcV (mH_m _ _ _) (c_byte (k := p + 3) (nI_add p 3) hM T (by omega)) (by rfl) (by rfl) (by rfl) (Nat.zero_le _) (Nat.zero_le _) ?_
  rintro o h' ⟨rfl, rfl⟩
  refine xb (fun c => ?_) (fun c => ?_)
  · have h45 := (cI_lit (k := 45) hc3 (by decide)).mp c
    have hlt := ch_lt h45 (by decide)
    refine yg (by rfl) ?_
    rw [h38]
    have q := key h45 (p + 4) ⟨Nat.le_refl _, Or.inr ⟨t.length, by omega, rfl⟩⟩ (by omega)
    rw [← nI_add p 4] at q
    exact q
  · have h45 : ¬ ch t (p + 3) = 45 := fun z => c ((cI_lit (k := 45) hc3 (by decide)).mpr z)
    refine yg (by rfl) ?_
    rw [h38]
    refine xcV (mH_m _ _ _) (c_Mo_wrong hf) (by rfl) (by rfl) (by rfl) (Nat.zero_le _) (Nat.zero_le _) ?_
    rintro o h' ⟨rfl, rfl⟩
    refine xP hP ⟨rfl, Or.inl ⟨p + 3, S.1 38, by omega, by rw [sCom, pExp, if_neg h45]; rfl, ?_⟩⟩
    have e : s1 (s1 S 6 (nI (p + 3))) 38 (S.1 38) = s1 S 6 (nI (p + 3)) := s1_self rfl
    rw [e, ← nI_add p 3]
    rfl
end
