/-! THE REFERENCE, 9: selectors -/
def slM (S : MS) (b : Nat) (t : List Nat) (s f g : Nat) (ss : List ST) : Prop := S.2 53 s = nI f ∧ S.2 54 s = nI ss.length ∧ S.2 56 s = nI (wgt ss) ∧ ∀ i st, ss[i]? = some st → ∃ fi, stM S b t (f + i) fi st ∧ fi + st.2.2.length ≤ g
def slP (kk n s k i : Nat) : Prop := stP kk n s k i ∨ (k = 53 ∧ i = s)
theorem slM.eq {S S' : MS} {b s f g : Nat} {t : List Nat} {ss : List ST} (H : slM S b t s f g ss) (h : ∀ k i, ((53 ≤ k ∧ k ≤ 56 ∧ k ≠ 55 ∧ i = s) ∨ (57 ≤ k ∧ k ≤ 61 ∧ i < f + ss.length) ∨ (62 ≤ k ∧ k ≤ 67 ∧ i < g)) → S'.2 k i = S.2 k i) : slM S' b t s f g ss := by
  obtain ⟨h1, h2, h3, h4⟩ := H
  refine ⟨by rw [h 53 s (by omega)]; exact h1, by rw [h 54 s (by omega)]; exact h2, by rw [h 56 s (by omega)]; exact h3, fun i st hi => ?_⟩
  obtain ⟨fi, w, hg⟩ := h4 i st hi
  have := (List.getElem?_eq_some_iff.mp hi).1
  exact ⟨fi, w.eq (fun j x hx => h j x (by omega)), hg⟩
theorem tkS_lk {t : List Nat} {s c : Nat} (h : ch t s = c) (hc : isLk c = true) : tkS t s = lkI c ∧ tkE t s = s + 1 ∧ sgn c = true := by
  have hs : sgn c = true := by
    unfold isLk at hc
    simp only [Bool.or_eq_true, beq_iff_eq] at hc
    rcases hc with (z | z) | z <;> subst z <;> rfl
  obtain ⟨h1, h2, h3⟩ := tk_sg hs h
  refine ⟨?_, h3, hs⟩
  rw [h2, lkI, if_neg]
  intro z
  rw [z] at hc
  cases hc
section
variable {l : Launch} {D : xD} {h0 : xH} {M : MA} {S : MS}
set_option maxRecDepth 20000 in
theorem c_selector2 {b p s k n : Nat} {t : List Nat} (hM : mok M) (A : atA S b t p) (hs : s < 123) (h51 : S.1 51 = nI k) (h52 : S.1 52 = nI n) (hk : k ≤ 960) (hn : n ≤ 4 * k) : xMet l D 5 y_Mo_selector [.ref M.1, .int (nI s)] (mH h0 M S) 0 0 (fun o h' => ∃ S', h' = mH h0 M S' ∧ o = .inl none ∧ gF seL (slP k n s) S S' ∧ mRes S' b t (pSel t p) (fun ss => ss.length ≤ 8 ∧ S'.1 51 = nI (k + ss.length) ∧ ∃ n', S'.1 52 = nI n' ∧ n ≤ n' ∧ n' ≤ 4 * (k + ss.length) ∧ slM S' b t s k n' ss)) := by
  have hl := A.1.2.2.2.2.1
  refine m_Mo_selector (Nat.le_of_ble_eq_true rfl) fun X hl hD hP hA => ?_
  subst hl hD
  -- behind a step
  have after : ∀ (m : Nat) (ss : List ST) (j lk n' : Nat) (S' S2 : MS), ss.length + m = 8 → pSel t p = pSteps t m j lk ss → gF seL (slP k n s) S S' → S'.1 51 = nI (k + ss.length) → n ≤ n' → n' ≤ 4 * (k + ss.length) → slM S' b t s k n' ss → gF seL (stP (k + ss.length) n' s) S' S2 → mRes S2 b t (if ss.length = 8 then .error (scan bl t j) else pStep t j lk) (fun st => S2.1 51 = nI (k + ss.length + 1) ∧ S2.1 52 = nI (n' + st.2.2.length) ∧ S2.2 54 s = nI (ss.length + 1) ∧ S2.2 56 s = nI (wgt ss + wSt st) ∧ stM S2 b t (k + ss.length) n' st) → xG X 30 [(1, .int (nI s)), (0, .ref M.1)] [] (mH h0 M S2) 0 0 := by
    intro m
    induction m with
    | zero =>
      intro ss j lk n' S' S2 hm eP g e51 hn1 hn2 W g2 R
      rw [if_pos (by omega)] at R
      obtain ⟨T', hf', hw', e, he⟩ := id R
      refine xgo [] 30 hA ?_
      refine yg (by rfl) ?_
      refine xt (by rw [hf']; exact nI_pos' (by omega)) ?_
      refine xP hP ⟨_, rfl, rfl, g.tr g2 (by decide) (fun a x z => Or.inl (by unfold stP at *; omega)), ?_⟩
      rw [eP]
      exact R
    | succ m ih =>
      intro ss j lk n' S' S2 hm eP g e51 hn1 hn2 W g2 R
      rw [if_neg (by omega)] at R
      have gg := g.tr g2 (by decide) (fun a x z => Or.inl (by unfold stP at *; omega))
      cases hq : pStep t j lk with
      | error wr =>
        rw [hq] at R
        obtain ⟨T', hf', hw', e, he⟩ := id R
        refine xgo [] 30 hA ?_
        refine yg (by rfl) ?_
        refine xt (by rw [hf']; exact nI_pos' (by omega)) ?_
        refine xP hP ⟨_, rfl, rfl, gg, ?_⟩
        rw [eP, pSteps, pB_er hq]
        exact R
      | ok q =>
        obtain ⟨st, j2⟩ := q
        rw [hq] at R
        obtain ⟨A2, r51, r52, r54, r56, rW⟩ := R
        obtain ⟨T2, K2, hf2, hp2⟩ := id A2
        obtain ⟨q1, q2, q3, q4, q5⟩ := id K2
        have W5 : st.2.2.length ≤ 4 := rW.2.2.2.2.1
        have hlen : (ss ++ [st]).length = ss.length + 1 := by simp
        have W2 : slM S2 b t s k (n' + st.2.2.length) (ss ++ [st]) := by
          obtain ⟨w1, w2, w3, w4⟩ := W
          refine ⟨?_, by rw [r54, hlen], by rw [r56, wgt_snoc], fun i st' hi => ?_⟩
          · rw [g2.2 53 s (by unfold stP; omega)]; exact w1
          · by_cases hx : i < ss.length
            · rw [List.getElem?_append_left hx] at hi
              obtain ⟨fi, y1, y2⟩ := w4 i st' hi
              refine ⟨fi, y1.eq (fun a x z => g2.2 a x (by unfold stP; omega)), by omega⟩
            · rw [List.getElem?_append_right (by omega)] at hi
              have : i = ss.length := by
                have := (List.getElem?_eq_some_iff.mp hi).1
                simp only [List.length_singleton] at this
                omega
              subst this
              rw [Nat.sub_self] at hi
              have : st' = st := by simpa using hi.symm
              subst this
              exact ⟨n', rW, Nat.le_refl _⟩
        have eS : pSel t p = (if isLk (ch t (scan bl t j2)) = true then pSteps t m (scan bl t j2 + 1) (ch t (scan bl t j2)) (ss ++ [st]) else .ok (ss ++ [st], scan bl t j2)) := by rw [eP, pSteps, pB_ok hq]
        have more : isLk (ch t (scan bl t j2)) = true → xG X 64 [(1, .int (nI s)), (0, .ref M.1)] [] (mH h0 M S2) 0 0 := by
          intro hlk
          obtain ⟨u1, u2, u3⟩ := tkS_lk rfl hlk
          have hlt := isLk_lt hlk
          refine xgo [30] 40 hA ?_
          refine yg (by rfl) ?_
          rw [q4, u1]
          refine xcV (mH_m _ _ _) (c_Mo_nextA (p := 0) hM T2 (by rw [q2, u2]) hf2 (by omega)) (by rfl) (by rfl) (by rfl) (Nat.zero_le _) (Nat.zero_le _) ?_
          rintro o h' ⟨S3, rfl, rfl, f3, A3⟩
          have d3 := fun k => f3.2 k (by simp)
          have W3 : slM S3 b t s k (n' + st.2.2.length) (ss ++ [st]) := W2.eq (fun a x _ => by rw [d3])
          refine xcV (mH_m _ _ _) (c_step2 (k := k + (ss ++ [st]).length) (n := n' + st.2.2.length) (c := (ss ++ [st]).length) (w := wgt (ss ++ [st])) hM A3 hs (by rw [f3.1 51 (by decide), r51, hlen, Nat.add_assoc]) (by rw [f3.1 52 (by decide), r52]) (by omega) (by omega) W3.2.1 (by omega) W3.2.2.1) (by rfl) (by rfl) (by rfl) (Nat.zero_le _) (Nat.zero_le _) ?_
          rintro o h' ⟨S4, rfl, rfl, g4, R4⟩
          refine (ih (ss ++ [st]) (scan bl t j2 + 1) _ (n' + st.2.2.length) S3 S4 (by omega) (by rw [eS, if_pos hlk]) (gg.tr f3.g0 (by decide) (fun _ _ z => z)) (by rw [f3.1 51 (by decide), r51, hlen, Nat.add_assoc]) (by omega) (by omega) W3 g4 R4).locs (by simp)
        have stop : ¬ isLk (ch t (scan bl t j2)) = true → xG X 82 [(1, .int (nI s)), (0, .ref M.1)] [] (mH h0 M S2) 0 0 := by
          intro hlk
          refine xgo [] 10 hA ?_
          refine xP hP ⟨_, rfl, rfl, gg, ?_⟩
          rw [eS, if_neg hlk]
          have l8 : (ss ++ [st]).length ≤ 8 := by omega
          have b4 : n' + st.2.2.length ≤ 4 * (k + (ss ++ [st]).length) := by omega
          have b5 : n ≤ n' + st.2.2.length := by omega
          exact ⟨A2.sc, l8, by rw [hlen, r51, Nat.add_assoc], _, r52, b5, b4, W2⟩
        refine xgo [64, 82] 40 hA ?_
        refine yg (by rfl) ?_
        rw [hf2]
        refine xf (by decide) ?_
        refine xcV (mH_m _ _ _) (c_Mo_isSign T2 K2 (c := 62) (by rfl)) (by rfl) (by rfl) (by rfl) (Nat.zero_le _) (Nat.zero_le _) ?_
        rintro o h' ⟨rfl, rfl⟩
        refine xb (fun c1 => ?_) (fun c1 => ?_)
        · exact more (by rw [of_decide_eq_true ((bI_n0 _).mp c1)]; rfl)
        have n1 := of_decide_eq_false ((bI_0 _).mp c1)
        refine xcV (mH_m _ _ _) (c_Mo_isSign T2 K2 (c := 47) (by rfl)) (by rfl) (by rfl) (by rfl) (Nat.zero_le _) (Nat.zero_le _) ?_
        rintro o h' ⟨rfl, rfl⟩
        refine xb (fun c2 => ?_) (fun c2 => ?_)
        · exact more (by rw [of_decide_eq_true ((bI_n0 _).mp c2)]; rfl)
        have n2 := of_decide_eq_false ((bI_0 _).mp c2)
        refine xcV (mH_m _ _ _) (c_Mo_isSign T2 K2 (c := 43) (by rfl)) (by rfl) (by rfl) (by rfl) (Nat.zero_le _) (Nat.zero_le _) ?_
        rintro o h' ⟨rfl, rfl⟩
        refine xb (fun c3 => ?_) (fun c3 => ?_)
        · have n3 := of_decide_eq_false ((bI_0 _).mp c3)
          exact stop (by
            unfold isLk
            simp only [Bool.or_eq_true, beq_iff_eq]
            rintro ((z | z) | z)
            · exact n1 z
            · exact n2 z
            · exact n3 z)
        · exact more (by rw [of_decide_eq_true ((bI_n0 _).mp c3)]; rfl)
  refine xgo [24, 30] 60 hA ?_
  refine ya (by rfl) ?_
  refine yg (by rfl) ?_
  refine ys (i := s) hM (by rfl) rfl hs ?_
  refine ya (by rfl) ?_
  refine ys (i := s) hM (by rfl) rfl hs ?_
  refine ya (by rfl) ?_
  refine ys (i := s) hM (by rfl) rfl hs ?_
  obtain ⟨S1, hS1⟩ : ∃ S1, S1 = s2 (s2 (s2 S 53 s (S.1 51)) 54 s 0) 56 s 0 := ⟨_, rfl⟩
  have g1 : gF [] (slP k n s) S S1 := by
    rw [hS1]
    refine (((gF.refl _ _ _).s ?_).s ?_).s ?_
    all_goals unfold slP stP; omega
  have A1 := A.gf g1 (by decide) (fun i _ _ => by unfold slP stP; omega)
  suffices this : xG X 24 [(0, .ref M.1), (1, .int (nI s))] [] (mH h0 M S1) 0 0 by
    rw [hS1] at this
    exact this
  refine xgo [30] 20 hA ?_
  have W1 : slM S1 b t s k n [] := ⟨by rw [hS1]; simp [s2, h51], by rw [hS1]; simp [s2]; rfl, by rw [hS1]; simp [s2]; rfl, fun i st hi => by cases hi⟩
  refine xcV (mH_m _ _ _) (c_step2 (k := k) (n := n) (c := 0) (w := 0) (lk := 256) hM A1 hs (by rw [g1.1 51 (by simp)]; exact h51) (by rw [g1.1 52 (by simp)]; exact h52) (by omega) (by omega) W1.2.1 (by omega) W1.2.2.1) (by rfl) (by rfl) (by rfl) (Nat.zero_le _) (Nat.zero_le _) ?_
  rintro o h' ⟨S4, rfl, rfl, g4, R4⟩
  exact (after 8 [] p 256 n S1 S4 rfl rfl (g1.wk (by simp) (fun _ _ z => z)) (by rw [g1.1 51 (by simp)]; exact h51) (Nat.le_refl _) (by simpa using hn) W1 g4 R4).locs (by simp)
end
