/-! THE REFERENCE, 4: tokens -/
/-- a token at s: kind (1 name, 2 number, 3 string, 4 other, 5 over), end, sign -/
def tkK (t : List Nat) (s : Nat) : Nat := if ch t s = 256 then 5 else if sm (ch t s) = true then (if scan nmc t s - s ≤ 12 then 1 else 4) else if dg (ch t s) = true then (if scan dg t s - s ≤ 7 then 2 else 4) else if ch t s = 34 then (if ch t (scan qsc t (s + 1)) = 34 then 3 else 4) else 4
def tkE (t : List Nat) (s : Nat) : Nat := if ch t s = 256 then s else if sm (ch t s) = true then scan nmc t s else if dg (ch t s) = true then scan dg t s else if ch t s = 34 then scan qsc t (s + 1) + 1 else s + 1
def tkS (t : List Nat) (s : Nat) : Int32 := if ch t s = 256 ∨ sm (ch t s) = true ∨ dg (ch t s) = true ∨ ch t s = 34 then -1 else nI (ch t s)
def tkA (S : MS) (t : List Nat) (p : Nat) : Prop := S.1 46 = nI (scan bl t p) ∧ S.1 47 = nI (tkE t (scan bl t p)) ∧ S.1 45 = nI (tkK t (scan bl t p)) ∧ S.1 49 = tkS t (scan bl t p) ∧ (tkK t (scan bl t p) = 2 → S.1 48 = nI (nmv ((t.drop (scan bl t p)).take (scan dg t (scan bl t p) - scan bl t p))))
theorem scan_ch {p : Nat → Bool} {t : List Nat} {i : Nat} (hi : i ≤ t.length) (h : p (ch t i) = true) (h256 : p 256 = false) : scan p t i = scan p t (i + 1) := by
  have : i < t.length := Nat.lt_of_not_le fun z => by rw [ch_out z, h256] at h; cases h
  exact scan_step this h
theorem scan_no {p : Nat → Bool} {t : List Nat} {i : Nat} (h : p (ch t i) = false) : scan p t i = i := scan_stop fun _ => h
section
variable {l : Launch} {D : xD} {h0 : xH} {M : MA} {S : MS}
theorem tx.p {b : Nat} {t : List Nat} {k : Nat} {v : Int32} (T : tx S b t) (h : k ≠ 8) (h' : k ≠ 9) : tx (s1 S k v) b t := ⟨by rw [s1_ne _ _ (Ne.symm h)]; exact T.1, by rw [s1_ne _ _ (Ne.symm h')]; exact T.2.1, T.2.2⟩
set_option maxRecDepth 20000 in
theorem c_Mo_next {b p : Nat} {t : List Nat} (hM : mok M) (T : tx S b t) (hp : S.1 47 = nI p) (hpl : p ≤ t.length + 1) : xMet l D 1 y_Mo_next [.ref M.1] (mH h0 M S) 0 0 (fun o h' => ∃ S', h' = mH h0 M S' ∧ o = .inl none ∧ mF [45, 46, 47, 48, 49] [] S S' ∧ tkA S' t p) := by
  have hB := T.2.2.2.2.2
  have hl := T.2.2.2.2.1
  refine m_Mo_next (Nat.le_of_ble_eq_true rfl) fun X hl hD hP hA => ?_
  subst hl hD
  have hsc : scan bl t p ≤ t.length + 1 := by
    by_cases z : p ≤ t.length
    · have := scan_le z (p := bl); omega
    · rw [scan_stop (fun y => by omega)]; omega
  -- the ends of the four kinds
  have fin : ∀ (S1 : MS), mF [45, 46, 47, 48, 49] [] S S1 → tkA S1 t p → ∀ ls, xG X 368 ls [] (mH h0 M S1) 0 0 := by
    intro S1 f1 k1 ls
    refine xG.locs (ls' := []) ?_ (by simp)
    refine xgo [] 20 hA ?_
    exact xP hP ⟨S1, rfl, rfl, f1, k1⟩
  obtain ⟨s, hs⟩ : ∃ s, s = scan bl t p := ⟨_, rfl⟩
  rw [← hs] at hsc
  have hchs : ch t s ≤ 256 := hB.le s
  -- names
  have hM' := hM
  have nm : ∀ x : Nat, (∃ S1 : MS, mF [45, 46, 47, 48, 49] [] S S1 ∧ S1.1 46 = nI s ∧ S1.1 49 = -1 ∧ S1.1 47 = nI x ∧ s ≤ x ∧ x ≤ t.length ∧ sm (ch t s) = true ∧ scan nmc t s = scan nmc t x) → ∀ (S1 : MS) (w : Int32), mF [45, 46, 47, 48, 49] [] S S1 → S1.1 46 = nI s → S1.1 49 = -1 → S1.1 47 = nI x → xG X 76 [(1, .int w), (0, .ref M.1)] [] (mH h0 M S1) 0 0 := by
    refine xind _ _ (fun x => t.length - x) (fun x hx ih => ?_)
    obtain ⟨-, -, -, -, -, hsx, hxl, hsm, hsn⟩ := hx
    intro S1 w f1 e46 e49 e47
    have T1 := T.fr f1 (by decide)
    have hcx : ch t x ≤ 256 := hB.le x
    have ne256 : ¬ ch t s = 256 := fun z => by rw [z] at hsm; cases hsm
    -- one more
    have more : nmc (ch t x) = true → xG X 104 [(1, .int w), (0, .ref M.1)] [] (mH h0 M S1) 0 0 := by
      intro hn
      have hlt : x < t.length := Nat.lt_of_not_le fun z => by rw [ch_out z] at hn; cases hn
      refine xgo [76] 20 hA ?_
      refine yg (by rfl) ?_
      refine yp (by rfl) ?_
      rw [e47, nI_1]
      have f2 := f1.p (k := 47) (v := nI (x + 1)) (by simp)
      exact ih (x + 1) ⟨_, f2, e46, e49, rfl, by omega, hlt, hsm, by rw [hsn, scan_step hlt hn]⟩ (by omega) _ w f2 e46 e49 rfl
    have done : nmc (ch t x) = false → xG X 117 [(1, .int w), (0, .ref M.1)] [] (mH h0 M S1) 0 0 := by
      intro hn
      have ex : scan nmc t s = x := by rw [hsn, scan_no hn]
      have tE : tkE t s = x := by unfold tkE; rw [if_neg ne256, if_pos hsm, ex]
      have tS : tkS t s = -1 := by unfold tkS; rw [if_pos (Or.inr (Or.inl hsm))]
      refine xgo [368] 20 hA ?_
      refine yg (by rfl) ?_
      refine yg (by rfl) ?_
      rw [e47, e46]
      refine xb (fun c => ?_) (fun c => ?_)
      · rw [nI_sub hsx] at c
        have c1 := (nI_leI (b := 12) (by omega) (by decide)).mp c
        have tK : tkK t s = 1 := by unfold tkK; rw [if_neg ne256, if_pos hsm, ex, if_pos c1]
        refine yp (by rfl) ?_
        refine fin _ (f1.p (k := 45) (by simp)) ?_ _
        unfold tkA
        rw [← hs, tE, tS, tK]
        exact ⟨e46, e47, rfl, e49, fun z => by cases z⟩
      · rw [nI_sub hsx] at c
        have c1 : ¬ x - s ≤ 12 := fun z => c ((nI_leI (b := 12) (by omega) (by decide)).mpr z)
        have tK : tkK t s = 4 := by unfold tkK; rw [if_neg ne256, if_pos hsm, ex, if_neg c1]
        refine yp (by rfl) ?_
        refine fin _ (f1.p (k := 45) (by simp)) ?_ _
        unfold tkA
        rw [← hs, tE, tS, tK]
        exact ⟨e46, e47, rfl, e49, fun z => by cases z⟩
    refine xgo [104, 117] 40 hA ?_
    refine yg (by rfl) ?_
    rw [e47]
    refine xcV (mH_m _ _ _) (c_Mo_byteAt (k := x) hM T1 (by omega)) (by rfl) (by rfl) (by rfl) (Nat.zero_le _) (Nat.zero_le _) ?_
    rintro o h' ⟨rfl, rfl⟩
    refine xcS (c_Mo_isSmall (sm_c _ (Nat.lt_succ_of_le hcx)) _) (by rfl) (by rfl) (by rfl) (Nat.zero_le _) (Nat.zero_le _) ?_
    rintro o h' ⟨rfl, rfl⟩
    refine xb (fun c => ?_) (fun c => ?_)
    · exact more (by unfold nmc; rw [(bI_n0 _).mp c]; rfl)
    · refine yg (by rfl) ?_
      rw [e47]
      refine xcV (mH_m _ _ _) (c_Mo_byteAt (k := x) hM T1 (by omega)) (by rfl) (by rfl) (by rfl) (Nat.zero_le _) (Nat.zero_le _) ?_
      rintro o h' ⟨rfl, rfl⟩
      refine xcS (c_Mo_isDigit (dg_c _ (Nat.lt_succ_of_le hcx)) _) (by rfl) (by rfl) (by rfl) (Nat.zero_le _) (Nat.zero_le _) ?_
      rintro o h' ⟨rfl, rfl⟩
      refine xb (fun c2 => ?_) (fun c2 => ?_)
      · exact done (by unfold nmc; rw [(bI_0 _).mp c, (bI_0 _).mp c2]; rfl)
      · exact more (by unfold nmc; rw [(bI_n0 _).mp c2, Bool.or_true])
  -- numbers
  have nu : ∀ x : Nat, (s ≤ x ∧ x ≤ t.length ∧ sm (ch t s) = false ∧ dg (ch t s) = true ∧ scan dg t s = scan dg t x) → ∀ (S1 : MS) (w : Int32), mF [45, 46, 47, 48, 49] [] S S1 → S1.1 46 = nI s → S1.1 49 = -1 → S1.1 47 = nI x → (x - s ≤ 7 → S1.1 48 = nI (nmv ((t.drop s).take (x - s)))) → xG X 155 [(1, .int w), (0, .ref M.1)] [] (mH h0 M S1) 0 0 := by
    refine xind _ _ (fun x => t.length - x) (fun x hx ih => ?_)
    obtain ⟨hsx, hxl, hsm, hdg, hsn⟩ := hx
    intro S1 w f1 e46 e49 e47 e48
    have T1 := T.fr f1 (by decide)
    have hcx : ch t x ≤ 256 := hB.le x
    have ne256 : ¬ ch t s = 256 := fun z => by rw [z] at hdg; cases hdg
    have nsm : ¬ sm (ch t s) = true := by rw [hsm]; decide
    refine xgo [155, 206, 368] 60 hA ?_
    refine yg (by rfl) ?_
    rw [e47]
    refine xcV (mH_m _ _ _) (c_Mo_byteAt (k := x) hM T1 (by omega)) (by rfl) (by rfl) (by rfl) (Nat.zero_le _) (Nat.zero_le _) ?_
    rintro o h' ⟨rfl, rfl⟩
    refine xcS (c_Mo_isDigit (dg_c _ (Nat.lt_succ_of_le hcx)) _) (by rfl) (by rfl) (by rfl) (Nat.zero_le _) (Nat.zero_le _) ?_
    rintro o h' ⟨rfl, rfl⟩
    refine xb (fun c => ?_) (fun c => ?_)
    · have hn := (bI_0 _).mp c
      have ex : scan dg t s = x := by rw [hsn, scan_no hn]
      have tE : tkE t s = x := by unfold tkE; rw [if_neg ne256, if_neg nsm, if_pos hdg, ex]
      have tS : tkS t s = -1 := by unfold tkS; rw [if_pos (Or.inr (Or.inr (Or.inl hdg)))]
      refine yg (by rfl) ?_
      refine yg (by rfl) ?_
      rw [e47, e46]
      refine xb (fun c => ?_) (fun c => ?_)
      · rw [nI_sub hsx] at c
        have c1 := (nI_leI (b := 7) (by omega) (by decide)).mp c
        have tK : tkK t s = 2 := by unfold tkK; rw [if_neg ne256, if_neg nsm, if_pos hdg, ex, if_pos c1]
        refine yp (by rfl) ?_
        refine fin _ (f1.p (k := 45) (by simp)) ?_ _
        unfold tkA
        rw [← hs, tE, tS, tK, ex]
        exact ⟨e46, e47, rfl, e49, fun _ => e48 c1⟩
      · rw [nI_sub hsx] at c
        have c1 : ¬ x - s ≤ 7 := fun z => c ((nI_leI (b := 7) (by omega) (by decide)).mpr z)
        have tK : tkK t s = 4 := by unfold tkK; rw [if_neg ne256, if_neg nsm, if_pos hdg, ex, if_neg c1]
        refine yp (by rfl) ?_
        refine fin _ (f1.p (k := 45) (by simp)) ?_ _
        unfold tkA
        rw [← hs, tE, tS, tK]
        exact ⟨e46, e47, rfl, e49, fun z => by cases z⟩
    · have hn := (bI_n0 _).mp c
      have hlt : x < t.length := Nat.lt_of_not_le fun z => by rw [ch_out z] at hn; cases hn
      have hd2 := of_decide_eq_true hn
      -- on
      have on : ∀ S2 : MS, mF [45, 46, 47, 48, 49] [] S S2 → S2.1 46 = nI s → S2.1 49 = -1 → S2.1 47 = nI x → (x + 1 - s ≤ 7 → S2.1 48 = nI (nmv ((t.drop s).take (x + 1 - s)))) → xG X 206 [(1, .int w), (0, .ref M.1)] [] (mH h0 M S2) 0 0 := by
        intro S2 f2 a46 a49 a47 a48
        refine xgo [155] 20 hA ?_
        refine yg (by rfl) ?_
        refine yp (by rfl) ?_
        rw [a47, nI_1]
        exact ih (x + 1) ⟨by omega, hlt, hsm, hdg, by rw [hsn, scan_step hlt hn]⟩ (by omega) _ w (f2.p (by simp)) a46 a49 rfl a48
      refine yg (by rfl) ?_
      refine yg (by rfl) ?_
      rw [e47, e46]
      refine xb (fun c2 => ?_) (fun c2 => ?_)
      · rw [nI_sub hsx] at c2
        have c3 := (nI_leI (a := 7) (by decide) (by omega)).mp c2
        exact on S1 f1 e46 e49 e47 (fun z => by omega)
      · rw [nI_sub hsx] at c2
        have c3 : ¬ 7 ≤ x - s := fun z => c2 ((nI_leI (a := 7) (by decide) (by omega)).mpr z)
        refine yg (by rfl) ?_
        refine yg (by rfl) ?_
        rw [e47]
        refine xcV (mH_m _ _ _) (c_Mo_byteAt (k := x) hM T1 (by omega)) (by rfl) (by rfl) (by rfl) (Nat.zero_le _) (Nat.zero_le _) ?_
        rintro o h' ⟨rfl, rfl⟩
        refine yp (by rfl) ?_
        have ev : (10 : Int32) * S1.1 48 + cI (ch t x) - 48 = nI (nmv ((t.drop s).take (x + 1 - s))) := by
          rw [e48 (by omega), take_snoc hsx hlt, nmv_snoc]
          have e1 : cI (ch t x) = nI (ch t x) := by unfold cI; rw [if_pos (hB.lt hlt)]
          rw [e1, show (10 : Int32) * nI (nmv ((t.drop s).take (x - s))) = nI (10 * nmv ((t.drop s).take (x - s))) from nI_mul 10 _, nI_add, show nI (10 * nmv ((t.drop s).take (x - s)) + ch t x) - 48 = nI (10 * nmv ((t.drop s).take (x - s)) + ch t x - 48) from nI_sub (b := 48) (by omega)]
          congr 1
          omega
        rw [ev]
        exact on _ (f1.p (by simp)) e46 e49 e47 (fun _ => rfl)
  -- strings
  have st : ∀ x : Nat, (s + 1 ≤ x ∧ x ≤ t.length ∧ ch t s = 34 ∧ scan qsc t (s + 1) = scan qsc t x) → ∀ (S1 : MS) (w : Int32), mF [45, 46, 47, 48, 49] [] S S1 → S1.1 46 = nI s → S1.1 49 = -1 → S1.1 47 = nI x → xG X 261 [(1, .int w), (0, .ref M.1)] [] (mH h0 M S1) 0 0 := by
    refine xind _ _ (fun x => t.length - x) (fun x hx ih => ?_)
    obtain ⟨hsx, hxl, h34, hsn⟩ := hx
    intro S1 w f1 e46 e49 e47
    have T1 := T.fr f1 (by decide)
    have hcx : ch t x ≤ 256 := hB.le x
    have done : qsc (ch t x) = false → xG X 313 [(1, .int w), (0, .ref M.1)] [] (mH h0 M S1) 0 0 := by
      intro hn
      have ex : scan qsc t (s + 1) = x := by rw [hsn, scan_no hn]
      have tE : tkE t s = x + 1 := by unfold tkE; rw [h34, if_neg (by decide), if_neg (by decide), if_neg (by decide), if_pos rfl, ex]
      have tS : tkS t s = -1 := by unfold tkS; rw [if_pos (Or.inr (Or.inr (Or.inr h34)))]
      have tl : ∀ k : Nat, tkK t s = k → k ≠ 2 → xG X 332 [(1, .int w), (0, .ref M.1)] [.int (nI k), .ref M.1] (mH h0 M S1) 0 0 := by
        intro k hk k2
        refine xgo [368] 20 hA ?_
        refine yp (by rfl) ?_
        refine yg (by rfl) ?_
        refine yp (by rfl) ?_
        rw [show (s1 S1 45 (nI k)).1 47 + 1 = nI (x + 1) by show S1.1 47 + 1 = _; rw [e47, nI_1]]
        refine fin _ ((f1.p (by simp)).p (by simp)) ?_ _
        unfold tkA
        rw [← hs, tE, tS, hk]
        exact ⟨e46, rfl, rfl, e49, fun z => absurd z k2⟩
      refine xgo [332] 20 hA ?_
      refine yg (by rfl) ?_
      rw [e47]
      refine xcV (mH_m _ _ _) (c_Mo_byteAt (k := x) hM T1 (by omega)) (by rfl) (by rfl) (by rfl) (Nat.zero_le _) (Nat.zero_le _) ?_
      rintro o h' ⟨rfl, rfl⟩
      refine xb (fun c => ?_) (fun c => ?_)
      · exact tl 4 (by unfold tkK; rw [h34, if_neg (by decide), if_neg (by decide), if_neg (by decide), if_pos rfl, ex, if_neg (fun z => c (by rw [z]; rfl))]) (by decide)
      · exact tl 3 (by unfold tkK; rw [h34, if_neg (by decide), if_neg (by decide), if_neg (by decide), if_pos rfl, ex, if_pos ((cI_lit hcx (by decide)).mp c)]) (by decide)
    refine xgo [261, 313] 60 hA ?_
    refine yg (by rfl) ?_
    rw [e47]
    refine xcV (mH_m _ _ _) (c_Mo_byteAt (k := x) hM T1 (by omega)) (by rfl) (by rfl) (by rfl) (Nat.zero_le _) (Nat.zero_le _) ?_
    rintro o h' ⟨rfl, rfl⟩
    have hpr := pr_c (ch t x) (Nat.lt_succ_of_le hcx)
    refine xb (fun c => ?_) (fun c => ?_)
    · exact done (by
        have : pr (ch t x) = false := by
          rw [← Bool.not_eq_true, ← hpr]
          exact fun z => Int32.lt_irrefl (Int32.lt_of_lt_of_le c z.1)
        unfold qsc; rw [this]; rfl)
    refine yg (by rfl) ?_
    rw [e47]
    refine xcV (mH_m _ _ _) (c_Mo_byteAt (k := x) hM T1 (by omega)) (by rfl) (by rfl) (by rfl) (Nat.zero_le _) (Nat.zero_le _) ?_
    rintro o h' ⟨rfl, rfl⟩
    refine xb (fun c2 => ?_) (fun c2 => ?_)
    · exact done (by
        have : pr (ch t x) = false := by
          rw [← Bool.not_eq_true, ← hpr]
          exact fun z => Int32.lt_irrefl (Int32.lt_of_lt_of_le c2 z.2)
        unfold qsc; rw [this]; rfl)
    have hp1 : pr (ch t x) = true := hpr.mp ⟨Int32.not_lt.mp c, Int32.not_lt.mp c2⟩
    refine yg (by rfl) ?_
    rw [e47]
    refine xcV (mH_m _ _ _) (c_Mo_byteAt (k := x) hM T1 (by omega)) (by rfl) (by rfl) (by rfl) (Nat.zero_le _) (Nat.zero_le _) ?_
    rintro o h' ⟨rfl, rfl⟩
    refine xb (fun c3 => ?_) (fun c3 => ?_)
    · exact done (by
        have := (cI_lit hcx (by decide)).mp c3
        unfold qsc; rw [this]; rfl)
    · have hn : qsc (ch t x) = true := by
        have : ¬ ch t x = 34 := fun z => c3 (by rw [z]; rfl)
        unfold qsc; rw [hp1]; simpa using this
      have hlt : x < t.length := Nat.lt_of_not_le fun z => by rw [ch_out z] at hn; cases hn
      refine yg (by rfl) ?_
      refine yp (by rfl) ?_
      rw [e47, nI_1]
      exact ih (x + 1) ⟨by omega, hlt, h34, by rw [hsn, scan_step hlt hn]⟩ (by omega) _ w (f1.p (by simp)) e46 e49 rfl
  -- behind the blanks
  have kinds : ∀ S1 : MS, mF [45, 46, 47, 48, 49] [] S S1 → S1.1 46 = nI s → xG X 35 [(0, .ref M.1)] [] (mH h0 M S1) 0 0 := by
    intro S1 f1 e46
    refine xgo [76, 155, 261, 368] 60 hA ?_
    refine yg (by rfl) ?_
    refine yp (by rfl) ?_
    refine yp (by rfl) ?_
    rw [e46]
    refine yg (by rfl) ?_
    have f2 : mF [45, 46, 47, 48, 49] [] S (s1 (s1 S1 47 (nI s)) 49 (-1)) := (f1.p (by simp)).p (by simp)
    have T2 := T.fr f2 (by decide)
    rw [show (s1 (s1 S1 47 (nI s)) 49 (-1)).1 46 = nI s from e46]
    refine xcV (mH_m _ _ _) (c_Mo_byteAt (k := s) hM T2 (by omega)) (by rfl) (by rfl) (by rfl) (Nat.zero_le _) (Nat.zero_le _) ?_
    rintro o h' ⟨rfl, rfl⟩
    by_cases h256 : ch t s = 256
    · refine xf (by rw [h256]; decide) ?_
      refine yp (by rfl) ?_
      refine fin _ (f2.p (by simp)) ?_ _
      unfold tkA
      rw [← hs, show tkE t s = s by unfold tkE; rw [if_pos h256], show tkS t s = -1 by unfold tkS; rw [if_pos (Or.inl h256)], show tkK t s = 5 by unfold tkK; rw [if_pos h256]]
      exact ⟨e46, rfl, rfl, rfl, fun z => by cases z⟩
    have hlt : s < t.length := Nat.lt_of_not_le fun z => h256 (ch_out z)
    have ec : cI (ch t s) = nI (ch t s) := by unfold cI; rw [if_pos (hB.lt hlt)]
    refine xt (by rw [ec]; exact nI_pos' (by omega)) ?_
    refine xcS (c_Mo_isSmall (sm_c _ (Nat.lt_succ_of_le hchs)) _) (by rfl) (by rfl) (by rfl) (Nat.zero_le _) (Nat.zero_le _) ?_
    rintro o h' ⟨rfl, rfl⟩
    refine xb (fun c => ?_) (fun c => ?_)
    rotate_left
    · have hsm := (bI_n0 _).mp c
      exact nm s ⟨_, f2, e46, rfl, rfl, Nat.le_refl _, by omega, hsm, rfl⟩ _ _ f2 e46 rfl rfl
    have hsm := (bI_0 _).mp c
    refine xcS (c_Mo_isDigit (dg_c _ (Nat.lt_succ_of_le hchs)) _) (by rfl) (by rfl) (by rfl) (Nat.zero_le _) (Nat.zero_le _) ?_
    rintro o h' ⟨rfl, rfl⟩
    refine xb (fun c => ?_) (fun c => ?_)
    rotate_left
    · have hdg := (bI_n0 _).mp c
      refine yp (by rfl) ?_
      refine nu s ⟨Nat.le_refl _, by omega, hsm, hdg, rfl⟩ _ _ (f2.p (by simp)) e46 rfl rfl (fun _ => ?_)
      rw [Nat.sub_self]; rfl
    have hdg := (bI_0 _).mp c
    refine xb (fun c => ?_) (fun c => ?_)
    rotate_left
    · have h34 := (cI_lit hchs (by decide)).mp c
      refine yg (by rfl) ?_
      refine yp (by rfl) ?_
      rw [show (s1 (s1 S1 47 (nI s)) 49 (-1)).1 47 + 1 = nI (s + 1) from nI_1 s]
      exact st (s + 1) ⟨Nat.le_refl _, hlt, h34, rfl⟩ _ _ (f2.p (by simp)) e46 rfl rfl
    · have n34 : ¬ ch t s = 34 := fun z => c (by rw [z]; rfl)
      have nsm : ¬ sm (ch t s) = true := by rw [hsm]; decide
      have ndg : ¬ dg (ch t s) = true := by rw [hdg]; decide
      refine yp (by rfl) ?_
      refine yp (by rfl) ?_
      refine yg (by rfl) ?_
      refine yp (by rfl) ?_
      refine fin _ (((f2.p (by simp)).p (by simp)).p (by simp)) ?_ _
      unfold tkA
      rw [← hs, show tkE t s = s + 1 by unfold tkE; rw [if_neg h256, if_neg nsm, if_neg ndg, if_neg n34], show tkS t s = nI (ch t s) by unfold tkS; rw [if_neg (by rintro (z | z | z | z); exact h256 z; exact nsm z; exact ndg z; exact n34 z)], show tkK t s = 4 by unfold tkK; rw [if_neg h256, if_neg nsm, if_neg ndg, if_neg n34]]
      exact ⟨e46, nI_1 s, rfl, ec, fun z => by cases z⟩
  have key : ∀ x : Nat, (p ≤ x ∧ x ≤ t.length + 1 ∧ scan bl t p = scan bl t x) → ∀ S1 : MS, mF [45, 46, 47, 48, 49] [] S S1 → S1.1 46 = nI x → xG X 8 [(0, .ref M.1)] [] (mH h0 M S1) 0 0 := by
    refine xind _ _ (fun x => t.length + 1 - x) (fun x hx ih => ?_)
    obtain ⟨hpx, hxl, hsn⟩ := hx
    intro S1 f1 e46
    have T1 := T.fr f1 (by decide)
    have hcx : ch t x ≤ 256 := hB.le x
    refine xgo [8, 35] 40 hA ?_
    refine yg (by rfl) ?_
    rw [e46]
    refine xcV (mH_m _ _ _) (c_Mo_byteAt (k := x) hM T1 (by omega)) (by rfl) (by rfl) (by rfl) (Nat.zero_le _) (Nat.zero_le _) ?_
    rintro o h' ⟨rfl, rfl⟩
    refine xcS (c_Mo_isBlank (bl_c _ (Nat.lt_succ_of_le hcx)) _) (by rfl) (by rfl) (by rfl) (Nat.zero_le _) (Nat.zero_le _) ?_
    rintro o h' ⟨rfl, rfl⟩
    refine xb (fun c => ?_) (fun c => ?_)
    · have hn := (bI_0 _).mp c
      refine kinds S1 f1 ?_
      rw [e46, hs, hsn, scan_no hn]
    · have hn := (bI_n0 _).mp c
      have hlt : x < t.length := Nat.lt_of_not_le fun z => by rw [ch_out z] at hn; cases hn
      refine yg (by rfl) ?_
      refine yp (by rfl) ?_
      rw [e46, nI_1]
      exact ih (x + 1) ⟨by omega, by omega, by rw [hsn, scan_step hlt hn]⟩ (by omega) _ (f1.p (by simp)) rfl
  refine xgo [8] 20 hA ?_
  refine yg (by rfl) ?_
  refine yp (by rfl) ?_
  rw [hp]
  exact key p ⟨Nat.le_refl _, hpl, rfl⟩ _ ((mF.refl _ _ _).p (by simp)) rfl
end
