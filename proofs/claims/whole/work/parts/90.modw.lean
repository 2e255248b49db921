/-! THE REFERENCE, 23: selectors fit -/
theorem nI_zero : nI 0 = 0 := rfl
theorem nI_one : nI 1 = 1 := rfl
/-- the steps so far, the last first, fit -/
def gP (ts ty : List Nat) (S : SS) : List ST → Nat → Bool
  | [], _ => false
  | s :: rest, i => stH ts ty S s i && ch2 ts ty S s.2.1 rest i
theorem gP_one (ts ty : List Nat) (S : SS) (s : ST) (i : Nat) : gP ts ty S [s] i = stH ts ty S s i := Bool.and_true _
theorem gP_more (ts ty : List Nat) (S : SS) (s : ST) {r : List ST} (hr : r ≠ []) (i : Nat) : gP ts ty S (s :: r) i = (stH ts ty S s i && (back S.F s.2.1 i).any (gP ts ty S r)) := by
  cases r with
  | nil => exact absurd rfl hr
  | cons a r => rfl
theorem mt_gP (ts ty : List Nat) (S : SS) (u : List ST) (i : Nat) : mt ts ty S u i = gP ts ty S u.reverse i := by
  unfold mt
  cases u.reverse <;> rfl
/-- each step but the first stands behind a link -/
def lkOk (u : List ST) : Prop := ∀ i st, 1 ≤ i → u[i]? = some st → isLk st.2.1 = true
theorem isLk_cs {c : Nat} (h : isLk c = true) : c = 62 ∨ c = 47 ∨ c = 43 := by
  unfold isLk at h
  simp only [Bool.or_eq_true, beq_iff_eq] at h
  omega
theorem tk_sc {u : List ST} {j : Nat} {st : ST} (h : u[j]? = some st) : (u.take (j + 1)).reverse = st :: (u.take j).reverse := by
  rw [List.take_succ, h]
  simp
section
variable {l : Launch} {D : xD} {h0 : xH} {M : MA} {S : MS}
def gdP (k _i : Nat) : Prop := k = 80 ∨ k = 81
set_option maxRecDepth 20000 in
theorem c_selectorFits2 {e si b f g : Nat} {sv : Int32} {ts tb : List Nat} {s : SS} {u : List ST} (es : sv = nI si) (hM : mok M) (R : mrS S ts s) (he : e < s.n) (G : sg S b tb) (W : slM S b tb si f g u) (hs : si < 123) (hne : u ≠ []) (hu : lkOk u) (hf : f + u.length ≤ 1000) (hg : g ≤ 4000) : xMet l D 4 y_Mo_selectorFits [.ref M.1, .int sv, .int (nI e)] (mH h0 M S) 0 0 (fun o h' => ∃ S', h' = mH h0 M S' ∧ gF [] gdP S S' ∧ o = .inl (some (.int (bI (mt ts tb s u e))))) := by
  subst es
  have I := R.2.2.2.2.2
  have hn5 : s.n ≤ 500 := I.1.1
  obtain ⟨sj, sS⟩ := R.2.2.2.2.1
  have hW : SW s := (sSrc_W sS R.2.1.2.1).2.1
  have hul : 0 < u.length := List.length_pos_iff.mpr hne
  have b01 : ∀ q : Bool, bI q = 0 ∨ bI q = 1 := fun q => by cases q <;> simp [bI]
  -- what stays
  have RR : ∀ {S1 : MS}, gF [] gdP S S1 → mrS S1 ts s ∧ sg S1 b tb ∧ slM S1 b tb si f g u := fun {S1} g1 =>
    ⟨R.gf g1 (by rfl) (fun k i _ _ z => by unfold gdP at z; omega) (fun i _ z => by unfold gdP at z; omega), G.eq (fun i _ _ => g1.2 7 i (by unfold gdP; omega)), W.eq (fun k i _ => g1.2 k i (by unfold gdP; omega))⟩
  refine m_Mo_selectorFits (Nat.le_of_ble_eq_true rfl) fun X hl hD hP hA => ?_
  subst hl hD
  -- the rows of steps
  have outer : ∀ (m j : Nat) (S1 : MS), j + m = u.length → 1 ≤ j → gF [] gdP S S1 → (∀ y, y < s.n → S1.2 80 y = bI (gP ts tb s (u.take j).reverse y)) → xG X 35 [(3, .int (nI j)), (0, .ref M.1), (1, .int (nI si)), (2, .int (nI e))] [] (mH h0 M S1) 0 0 := by
    intro m
    induction m with
    | zero =>
      intro j S1 hj h1 g1 hgd
      obtain ⟨R1, G1, W1⟩ := RR g1
      have ej : j = u.length := by omega
      subst ej
      refine xgo [] 40 hA ?_
      refine ya (by rfl) ?_
      refine yl (i := si) hM (by rfl) rfl hs ?_
      rw [W1.2.1]
      refine xt (Int32.le_refl _) ?_
      refine ya (by rfl) ?_
      refine ylz (i := e) hM (by rfl) rfl (by show e < 500; omega) ?_
      rw [hgd e he, List.take_length, ← mt_gP]
      exact ⟨bI_nar _, xP hP ⟨_, rfl, g1, rfl⟩⟩
    | succ m ih =>
      intro j S1 hj h1 g1 hgd
      obtain ⟨R1, G1, W1⟩ := RR g1
      have hjl : j < u.length := by omega
      obtain ⟨st, hst⟩ : ∃ st, u[j]? = some st := ⟨_, List.getElem?_eq_getElem hjl⟩
      obtain ⟨fi, wst, hfi⟩ := W.2.2.2 j st hst
      have hlk := isLk_cs (hu j st h1 hst)
      have hr0 : (u.take j).reverse ≠ [] := by
        intro z
        have := congrArg List.length z
        rw [List.length_reverse, List.length_take, List.length_nil] at this
        omega
      have eg : ∀ y, gP ts tb s (u.take (j + 1)).reverse y = (stH ts tb s st y && (back s.F st.2.1 y).any (gP ts tb s (u.take j).reverse)) := fun y => by
        rw [tk_sc hst, gP_more _ _ _ _ hr0]
      obtain ⟨P, hPd⟩ : ∃ P, P = gP ts tb s (u.take j).reverse := ⟨_, rfl⟩
      rw [← hPd] at hgd eg
      -- the elements
      have inner : ∀ (m2 i : Nat) (S2 : MS), i + m2 = s.n → gF [] gdP S S2 → (∀ y, y < s.n → S2.2 81 y = bI (P y)) → (∀ y, y < i → S2.2 80 y = bI (gP ts tb s (u.take (j + 1)).reverse y)) → xG X 90 [(5, .int (nI i)), (4, .int (nI (f + j))), (3, .int (nI j)), (0, .ref M.1), (1, .int (nI si)), (2, .int (nI e))] [] (mH h0 M S2) 0 0 := by
        intro m2
        induction m2 with
        | zero =>
          intro i S2 hi g2 ha hg2
          obtain ⟨R2, G2, W2⟩ := RR g2
          refine xgo [35] 20 hA ?_
          refine yg (by rfl) ?_
          rw [R2.1.1]
          have ei : i = s.n := by omega
          subst ei
          refine xt (Int32.le_refl _) ?_
          have q := ih (j + 1) S2 (by omega) (by omega) g2 hg2
          rw [← nI_1] at q
          exact q.locs (by simp [nI_zero, nI_one, bI])
        | succ m2 ih2 =>
          intro i S2 hi g2 ha hg2
          obtain ⟨R2, G2, W2⟩ := RR g2
          have hin : i < s.n := by omega
          obtain ⟨⟨⟨a1, a2, a3, a4, a5, a6⟩, -⟩, -, -⟩ := R2.2.2.1.1 i hin
          obtain ⟨fi2, wst2, hfi2⟩ := W2.2.2.2 j st hst
          have l59 : S2.2 59 (f + j) = nI st.2.1 := by
            rw [wst2.2.1, lkI, if_neg (by omega)]
          have hF := hW.2 i hin
          -- behind the look back
          have k236 : ∀ q : Bool, (back s.F st.2.1 i).any P = q → xG X 236 [(6, .int (bI q)), (5, .int (nI i)), (4, .int (nI (f + j))), (3, .int (nI j)), (0, .ref M.1), (1, .int (nI si)), (2, .int (nI e))] [] (mH h0 M S2) 0 0 := by
            intro q hq
            have done : ∀ v : Bool, gP ts tb s (u.take (j + 1)).reverse i = v → xG X 264 [(6, .int (bI q)), (5, .int (nI i)), (4, .int (nI (f + j))), (3, .int (nI j)), (0, .ref M.1), (1, .int (nI si)), (2, .int (nI e))] [] (mH h0 M (s2 S2 80 i (bI v))) 0 0 := by
              intro v hv
              refine xgo [90] 10 hA ?_
              have q := ih2 (i + 1) (s2 S2 80 i (bI v)) (by omega) (g2.s (Or.inl rfl)) (fun y hy => by rw [← ha y hy]; simp [s2]) (fun y hy => by
                by_cases z : y = i
                · subst z; simp [s2, hv]
                · rw [← hg2 y (by omega)]; simp [s2, z])
              rw [← nI_1] at q
              exact q.locs (by simp [nI_zero, nI_one, bI])
            refine xgo [264] 30 hA ?_
            refine ya (by rfl) ?_
            cases q with
            | false =>
              refine xt rfl ?_
              refine ysz (i := i) hM (by rfl) rfl (by show i < 500; omega) (Or.inl rfl) ?_
              exact done false (by rw [eg, hq, Bool.and_false])
            | true =>
              refine xf (by decide) ?_
              refine xcV (mH_m _ _ _) (c_stepFits2 rfl hM R2 hin G2 wst2 (by omega) (by omega)) (by rfl) (by rfl) (by rfl) (Nat.zero_le _) (Nat.zero_le _) ?_
              rintro o h' ⟨rfl, rfl⟩
              refine xb (fun c => ?_) (fun c => ?_)
              · have n := (bI_0 _).mp c
                refine ysz (i := i) hM (by rfl) rfl (by show i < 500; omega) (Or.inl rfl) ?_
                exact done false (by rw [eg, n, Bool.false_and])
              · have n := (bI_n0 _).mp c
                refine ysz (i := i) hM (by rfl) rfl (by show i < 500; omega) (Or.inr rfl) ?_
                exact done true (by rw [eg, n, hq]; rfl)
          refine xgo [35, 205, 236] 60 hA ?_
          refine yg (by rfl) ?_
          rw [R2.1.1]
          refine xf (fun z => by have := (nI_leI (a := s.n) (b := i) (by omega) (by omega)).mp z; omega) ?_
          refine ya (by rfl) ?_
          refine yl (i := f + j) hM (by rfl) rfl (by show f + j < 1000; omega) ?_
          rw [l59]
          rcases hlk with z | z | z
          · -- what it is in
            have eb : back s.F st.2.1 i = (parO s.F i).toList := by unfold back; rw [z]; rfl
            rw [z]
            refine xfn rfl ?_
            refine ya (by rfl) ?_
            refine yl (i := i) hM (by rfl) rfl (by show i < 1000; omega) ?_
            rw [a3]
            by_cases y : s.F 2 i = 0
            · refine xt (by rw [y]; decide) ?_
              exact (k236 false (by rw [eb, parO, if_pos y]; rfl)).locs (by simp [nI_zero, nI_one, bI])
            · refine xf (by rw [mI_nI y]; exact nI_neg (by omega)) ?_
              refine ya (by rfl) ?_
              refine ya (by rfl) ?_
              refine yl (i := i) hM (by rfl) rfl (by show i < 1000; omega) ?_
              rw [a3]
              refine ylz (i := s.F 2 i - 1) hM (by rfl) (mI_nI y) (by show s.F 2 i - 1 < 500; omega) ?_
              rw [ha _ (by omega)]
              have eq : (back s.F st.2.1 i).any P = P (s.F 2 i - 1) := by rw [eb, parO, if_neg y]; simp
              refine xb (fun c => ?_) (fun c => ?_)
              · exact (k236 false (by rw [eq]; exact (bI_0 _).mp c)).locs (by simp [nI_zero, nI_one, bI])
              · exact (k236 true (by rw [eq]; exact (bI_n0 _).mp c)).locs (by simp [nI_zero, nI_one, bI])
          · -- all that it is in
            have eb : back s.F st.2.1 i = anc s.F 20 i := by unfold back; rw [z]; rfl
            rw [z]
            refine xtn (by decide) ?_
            refine ya (by rfl) ?_
            refine yl (i := f + j) hM (by rfl) rfl (by show f + j < 1000; omega) ?_
            rw [l59, z]
            refine xtn (by decide) ?_
            refine ya (by rfl) ?_
            refine yl (i := i) hM (by rfl) rfl (by show i < 1000; omega) ?_
            rw [a3]
            have up : ∀ (m3 y : Nat), y < s.n → s.F 5 y < m3 → (back s.F st.2.1 i).any P = (anc s.F m3 y).any P → xG X 205 [(7, .int (mI (s.F 2 y))), (6, .int 0), (5, .int (nI i)), (4, .int (nI (f + j))), (3, .int (nI j)), (0, .ref M.1), (1, .int (nI si)), (2, .int (nI e))] [] (mH h0 M S2) 0 0 := by
              intro m3
              induction m3 with
              | zero => intro y _ h5; omega
              | succ m3 ih3 =>
                intro y hy h5 he3
                have hFy := hW.2 y hy
                refine xgo [205, 236] 40 hA ?_
                by_cases y0 : s.F 2 y = 0
                · refine xt (by rw [y0]; decide) ?_
                  exact (k236 false (by rw [he3, anc, if_pos y0]; rfl)).locs (by simp [nI_zero, nI_one, bI])
                refine xf (by rw [mI_nI y0]; exact nI_neg (by omega)) ?_
                refine xfn rfl ?_
                refine ya (by rfl) ?_
                refine ylz (i := s.F 2 y - 1) hM (by rfl) (mI_nI y0) (by show s.F 2 y - 1 < 500; omega) ?_
                rw [ha _ (by omega)]
                have hpn : s.F 2 y - 1 < s.n := by omega
                obtain ⟨⟨⟨b1, b2, b3, b4, b5, b6⟩, -⟩, -, -⟩ := R2.2.2.1.1 (s.F 2 y - 1) hpn
                refine ya (by rfl) ?_
                refine yl (i := s.F 2 y - 1) hM (by rfl) (mI_nI y0) (by show s.F 2 y - 1 < 1000; omega) ?_
                rw [b3]
                have e3 : (back s.F st.2.1 i).any P = (P (s.F 2 y - 1) || (anc s.F m3 (s.F 2 y - 1)).any P) := by
                  rw [he3, anc, if_neg y0, List.any_cons]
                cases hq : P (s.F 2 y - 1) with
                | false =>
                  rw [hq, Bool.false_or] at e3
                  have := hFy.2.2.1 y0
                  exact (ih3 (s.F 2 y - 1) hpn (by omega) e3).locs (by simp [nI_zero, nI_one, bI])
                | true =>
                  rw [hq, Bool.true_or] at e3
                  refine xgo [236] 40 hA ?_
                  by_cases w : s.F 2 (s.F 2 y - 1) = 0
                  · refine xt (by rw [w]; decide) ?_
                    exact (k236 true e3).locs (by simp [nI_zero, nI_one, bI])
                  · refine xf (by rw [mI_nI w]; exact nI_neg (by have := (hW.2 _ hpn).1.1; omega)) ?_
                    refine xtn (by decide) ?_
                    exact (k236 true e3).locs (by simp [nI_zero, nI_one, bI])
            exact (up 20 i hin hF.1.2.2 (by rw [eb])).locs (by simp [nI_zero, nI_one, bI])
          · -- the one ahead
            have eb : back s.F st.2.1 i = (befO s.F i).toList := by unfold back; rw [z]; rfl
            rw [z]
            refine xtn (by decide) ?_
            refine ya (by rfl) ?_
            refine yl (i := f + j) hM (by rfl) rfl (by show f + j < 1000; omega) ?_
            rw [l59, z]
            refine xfn rfl ?_
            refine ya (by rfl) ?_
            refine yl (i := i) hM (by rfl) rfl (by show i < 1000; omega) ?_
            rw [a4]
            by_cases y : s.F 3 i = 0
            · refine xt (by rw [y]; decide) ?_
              exact (k236 false (by rw [eb, befO, if_pos y]; rfl)).locs (by simp [nI_zero, nI_one, bI])
            · refine xf (by rw [mI_nI y]; exact nI_neg (by omega)) ?_
              refine ya (by rfl) ?_
              refine ya (by rfl) ?_
              refine yl (i := i) hM (by rfl) rfl (by show i < 1000; omega) ?_
              rw [a4]
              refine ylz (i := s.F 3 i - 1) hM (by rfl) (mI_nI y) (by show s.F 3 i - 1 < 500; omega) ?_
              rw [ha _ (by omega)]
              have eq : (back s.F st.2.1 i).any P = P (s.F 3 i - 1) := by rw [eb, befO, if_neg y]; simp
              refine xb (fun c => ?_) (fun c => ?_)
              · exact (k236 false (by rw [eq]; exact (bI_0 _).mp c)).locs (by simp [nI_zero, nI_one, bI])
              · exact (k236 true (by rw [eq]; exact (bI_n0 _).mp c)).locs (by simp [nI_zero, nI_one, bI])
      -- the copy
      have copy : ∀ (m2 i : Nat) (S2 : MS), i + m2 = s.n → gF [] gdP S S2 → (∀ y, y < s.n → S2.2 80 y = bI (P y)) → (∀ y, y < i → S2.2 81 y = bI (P y)) → xG X 58 [(5, .int (nI i)), (4, .int (nI (f + j))), (3, .int (nI j)), (0, .ref M.1), (1, .int (nI si)), (2, .int (nI e))] [] (mH h0 M S2) 0 0 := by
        intro m2
        induction m2 with
        | zero =>
          intro i S2 hi g2 hg2 ha
          obtain ⟨R2, G2, W2⟩ := RR g2
          refine xgo [90] 20 hA ?_
          refine yg (by rfl) ?_
          rw [R2.1.1]
          have ei : i = s.n := by omega
          subst ei
          refine xt (Int32.le_refl _) ?_
          exact (inner s.n 0 S2 (by omega) g2 ha (fun y hy => absurd hy (Nat.not_lt_zero _))).locs (by simp [nI_zero, nI_one, bI])
        | succ m2 ih2 =>
          intro i S2 hi g2 hg2 ha
          obtain ⟨R2, G2, W2⟩ := RR g2
          refine xgo [58, 90] 30 hA ?_
          refine yg (by rfl) ?_
          rw [R2.1.1]
          refine xf (fun z => by have := (nI_leI (a := s.n) (b := i) (by omega) (by omega)).mp z; omega) ?_
          refine ya (by rfl) ?_
          refine ya (by rfl) ?_
          refine ylz (i := i) hM (by rfl) rfl (by show i < 500; omega) ?_
          refine ysz (i := i) hM (by rfl) rfl (by show i < 500; omega) (by rw [hg2 i (by omega)]; exact b01 _) ?_
          have q := ih2 (i + 1) (s2 S2 81 i (S2.2 80 i)) (by omega) (g2.s (Or.inr rfl)) (fun y hy => by rw [← hg2 y hy]; simp [s2]) (fun y hy => by
            by_cases z : y = i
            · subst z; simp [s2, hg2 y (by omega)]
            · rw [← ha y (by omega)]; simp [s2, z])
          rw [← nI_1] at q
          exact q.locs (by simp [nI_zero, nI_one, bI])
      refine xgo [58] 40 hA ?_
      refine ya (by rfl) ?_
      refine yl (i := si) hM (by rfl) rfl hs ?_
      rw [W1.2.1]
      refine xf (fun z => by have := (nI_leI (a := u.length) (b := j) (by omega) (by omega)).mp z; omega) ?_
      refine ya (by rfl) ?_
      refine yl (i := si) hM (by rfl) rfl hs ?_
      rw [W1.1]
      exact (copy s.n 0 S1 (by omega) g1 hgd (fun y hy => absurd hy (Nat.not_lt_zero _))).locs (by simp [nI_zero, nI_one, nI_add])
  obtain ⟨st0, hst0⟩ : ∃ st, u[0]? = some st := ⟨_, List.getElem?_eq_getElem hul⟩
  have first : ∀ (m i : Nat) (S2 : MS), i + m = s.n → gF [] gdP S S2 → (∀ y, y < i → S2.2 80 y = bI (stH ts tb s st0 y)) → xG X 2 [(3, .int (nI i)), (0, .ref M.1), (1, .int (nI si)), (2, .int (nI e))] [] (mH h0 M S2) 0 0 := by
    intro m
    induction m with
    | zero =>
      intro i S2 hi g2 hg2
      obtain ⟨R2, G2, W2⟩ := RR g2
      refine xgo [35] 20 hA ?_
      refine yg (by rfl) ?_
      rw [R2.1.1]
      have ei : i = s.n := by omega
      subst ei
      refine xt (Int32.le_refl _) ?_
      refine (outer (u.length - 1) 1 S2 (by omega) (Nat.le_refl _) g2 (fun y hy => ?_)).locs (by simp [nI_zero, nI_one, nI_1])
      rw [hg2 y hy]
      have : (u.take 1).reverse = [st0] := by
        have := tk_sc hst0
        simpa using this
      rw [this, gP_one]
    | succ m ih =>
      intro i S2 hi g2 hg2
      obtain ⟨R2, G2, W2⟩ := RR g2
      obtain ⟨fi2, wst2, hfi2⟩ := W2.2.2.2 0 st0 hst0
      refine xgo [2] 30 hA ?_
      refine yg (by rfl) ?_
      rw [R2.1.1]
      refine xf (fun z => by have := (nI_leI (a := s.n) (b := i) (by omega) (by omega)).mp z; omega) ?_
      refine ya (by rfl) ?_
      refine ya (by rfl) ?_
      refine yl (i := si) hM (by rfl) rfl hs ?_
      rw [W2.1]
      refine xcV (mH_m _ _ _) (c_stepFits2 (e := i) rfl hM R2 (by omega) G2 wst2 (by omega) (by omega)) (by rfl) (by rfl) (by rfl) (Nat.zero_le _) (Nat.zero_le _) ?_
      rintro o h' ⟨rfl, rfl⟩
      refine ysz (i := i) hM (by rfl) rfl (by show i < 500; omega) (b01 _) ?_
      have q := ih (i + 1) (s2 S2 80 i (bI (stH ts tb s st0 i))) (by omega) (g2.s (Or.inl rfl)) (fun y hy => by
        by_cases z : y = i
        · subst z; simp [s2]
        · rw [← hg2 y (by omega)]; simp [s2, z])
      rw [← nI_1] at q
      exact q.locs (by simp [nI_zero, nI_one, bI])
  refine xgo [2] 10 hA ?_
  exact (first s.n 0 S (by omega) (gF.refl _ _ _) (fun y hy => absurd hy (Nat.not_lt_zero _))).locs (by simp [nI_zero, nI_one, lv_args, Value.category])
end
