/-! THE REFERENCE, 8: steps -/
/-- only these number fields and elements differ -/
def gF (L : List Nat) (P : Nat → Nat → Prop) (S S' : MS) : Prop := (∀ k, k ∉ L → S'.1 k = S.1 k) ∧ ∀ k i, ¬ P k i → S'.2 k i = S.2 k i
theorem gF.refl (L : List Nat) (P : Nat → Nat → Prop) (S : MS) : gF L P S S := ⟨fun _ _ => rfl, fun _ _ _ => rfl⟩
theorem gF.tr {L N : List Nat} {P Q : Nat → Nat → Prop} {S S' S2 : MS} (H : gF L P S S') (H2 : gF N Q S' S2) (h1 : ∀ k ∈ N, k ∈ L) (h2 : ∀ k i, Q k i → P k i) : gF L P S S2 :=
  ⟨fun k hk => (H2.1 k (fun z => hk (h1 k z))).trans (H.1 k hk), fun k i hk => (H2.2 k i (fun z => hk (h2 k i z))).trans (H.2 k i hk)⟩
theorem gF.wk {L N : List Nat} {P Q : Nat → Nat → Prop} {S S' : MS} (H2 : gF N Q S S') (h1 : ∀ k ∈ N, k ∈ L) (h2 : ∀ k i, Q k i → P k i) : gF L P S S' := (gF.refl L P S).tr H2 h1 h2
theorem gF.p {L : List Nat} {P : Nat → Nat → Prop} {S S' : MS} (H : gF L P S S') {k : Nat} {v : Int32} (hk : k ∈ L) : gF L P S (s1 S' k v) := ⟨fun j hj => by
  show (if j = k then v else S'.1 j) = _
  rw [if_neg (fun z : j = k => hj (by rw [z]; exact hk))]; exact H.1 j hj, H.2⟩
theorem gF.s {L : List Nat} {P : Nat → Nat → Prop} {S S' : MS} (H : gF L P S S') {k i : Nat} {v : Int32} (hk : P k i) : gF L P S (s2 S' k i v) := ⟨H.1, fun j x hj => by
  show (if j = k ∧ x = i then v else S'.2 j x) = _
  rw [if_neg (fun z : j = k ∧ x = i => hj (by rw [z.1, z.2]; exact hk))]; exact H.2 j x hj⟩
theorem mF.g {L L2 : List Nat} {S S' : MS} (H : mF L L2 S S') : gF L (fun k _ => k ∈ L2) S S' := ⟨H.1, fun k i h => by rw [H.2 k h]⟩
theorem mF.g0 {L : List Nat} {P : Nat → Nat → Prop} {S S' : MS} (H : mF L [] S S') : gF L P S S' := ⟨H.1, fun k i _ => by rw [H.2 k (by simp)]⟩
theorem mF.gp {L L2 : List Nat} {n : Nat} {S S' : MS} (H : mF L L2 S S') (H2 : pF L2 n S S') : gF L (fun k i => k ∈ L2 ∧ n ≤ i) S S' := ⟨H.1, fun k i h => by
  by_cases z : k ∈ L2
  · exact H2 k z i (Nat.lt_of_not_le fun y => h ⟨z, y⟩)
  · rw [H.2 k z]⟩
theorem tx.gf {S S' : MS} {b : Nat} {t L : List Nat} {P : Nat → Nat → Prop} (T : tx S b t) (f : gF L P S S') (h1 : (L.contains 8 || L.contains 9) = false) (h2 : ∀ i, b ≤ i → i < b + t.length → ¬ P 7 i) : tx S' b t := by
  simp only [Bool.or_eq_false_iff] at h1
  have e8 := f.1 8 (fun z => by have := h1.1; rw [List.contains_iff_mem.mpr z] at this; cases this)
  have e9 := f.1 9 (fun z => by have := h1.2; rw [List.contains_iff_mem.mpr z] at this; cases this)
  exact ⟨by rw [e8]; exact T.1, by rw [e9]; exact T.2.1, fun k hk => by rw [f.2 7 _ (h2 (b + k) (by omega) (by omega))]; exact T.2.2.1 k hk, T.2.2.2⟩
theorem atA.gf {S S' : MS} {b p : Nat} {t L : List Nat} {P : Nat → Nat → Prop} (A : atA S b t p) (f : gF L P S S') (h1 : (L.all fun k => decide (k ∉ [6, 8, 9, 45, 46, 47, 48, 49])) = true) (h2 : ∀ i, b ≤ i → i < b + t.length → ¬ P 7 i) : atA S' b t p := by
  obtain ⟨T, ⟨k1, k2, k3, k4, k5⟩, hf, hp⟩ := A
  have e : ∀ k ∈ [6, 8, 9, 45, 46, 47, 48, 49], S'.1 k = S.1 k := fun k hk => f.1 k fun z => by
    have := List.all_eq_true.mp h1 k z
    exact absurd hk (of_decide_eq_true this)
  refine ⟨⟨by rw [e 8 (by decide)]; exact T.1, by rw [e 9 (by decide)]; exact T.2.1, fun k hk => by rw [f.2 7 _ (h2 (b + k) (by omega) (by omega))]; exact T.2.2.1 k hk, T.2.2.2⟩, ⟨by rw [e 46 (by decide)]; exact k1, by rw [e 47 (by decide)]; exact k2, by rw [e 45 (by decide)]; exact k3, by rw [e 49 (by decide)]; exact k4, fun z => by rw [e 48 (by decide)]; exact k5 z⟩, by rw [e 6 (by decide)]; exact hf, hp⟩
theorem atA.sc {S : MS} {b p : Nat} {t : List Nat} (A : atA S b t p) : atA S b t (scan bl t p) := by
  obtain ⟨T, ⟨k1, k2, k3, k4, k5⟩, hf, hp⟩ := A
  refine ⟨T, ?_, hf, scan_le1 hp⟩
  unfold tkA
  rw [scan_scan]
  exact ⟨k1, k2, k3, k4, k5⟩
theorem mRes.gf {α β : Type} {S S' : MS} {b : Nat} {t L : List Nat} {P : Nat → Nat → Prop} {w : Nat} {ok : α → Prop} {ok' : β → Prop} (H : mRes S b t (.error w) ok) (f : gF L P S S') (h1 : (L.all fun k => decide (k ∉ [6, 8, 9, 45, 46, 47, 48, 49])) = true) (h2 : ∀ i, b ≤ i → i < b + t.length → ¬ P 7 i) : mRes S' b t (.error w : Except Nat (β × Nat)) ok' := by
  obtain ⟨T, hf, hw, e, he⟩ := H
  have q : ∀ k ∈ [6, 8, 9, 45, 46, 47, 48, 49], S'.1 k = S.1 k := fun k hk => f.1 k fun z => by
    have := List.all_eq_true.mp h1 k z
    exact absurd hk (of_decide_eq_true this)
  exact ⟨⟨by rw [q 8 (by decide)]; exact T.1, by rw [q 9 (by decide)]; exact T.2.1, fun k hk => by rw [f.2 7 _ (h2 (b + k) (by omega) (by omega))]; exact T.2.2.1 k hk, T.2.2.2⟩, by rw [q 6 (by decide)]; exact hf, hw, e, by rw [q 47 (by decide)]; exact he.1, he.2⟩
def lkI (c : Nat) : Int32 := if c = 256 then 0 else nI c
def stM (S : MS) (b : Nat) (t : List Nat) (k f : Nat) (st : ST) : Prop := (match st.1 with
  | none => S.2 58 k = 0
  | some a => S.2 57 k = nI (b + a.1) ∧ S.2 58 k = nI a.2 ∧ 1 ≤ a.2 ∧ a.1 + a.2 ≤ t.length) ∧ S.2 59 k = lkI st.2.1 ∧ S.2 60 k = nI f ∧ S.2 61 k = nI st.2.2.length ∧ st.2.2.length ≤ 4 ∧ ∀ i c, st.2.2[i]? = some c → teM S b t (f + i) c
/-- what a step may change -/
def stP (kk n s k i : Nat) : Prop := (57 ≤ k ∧ k ≤ 61 ∧ kk ≤ i) ∨ (62 ≤ k ∧ k ≤ 67 ∧ n ≤ i) ∨ ((k = 54 ∨ k = 56) ∧ i = s)
abbrev seL : List Nat := [6, 45, 46, 47, 48, 49, 51, 52]
theorem teM.eq {S S' : MS} {b : Nat} {t : List Nat} {i : Nat} {c : CN} (H : teM S b t i c) (h : ∀ k, 62 ≤ k → k ≤ 67 → S'.2 k i = S.2 k i) : teM S' b t i c := by
  unfold teM
  rw [h 62 (by decide) (by decide), h 63 (by decide) (by decide), h 64 (by decide) (by decide), h 65 (by decide) (by decide), h 66 (by decide) (by decide), h 67 (by decide) (by decide)]
  exact H
theorem teL_of {k : Nat} (h : k ∈ teL) : 62 ≤ k ∧ k ≤ 67 := by
  simp only [List.mem_cons, List.not_mem_nil, or_false] at h
  omega
theorem stM.eq {S S' : MS} {b : Nat} {t : List Nat} {k f : Nat} {st : ST} (H : stM S b t k f st) (h : ∀ j i, (57 ≤ j ∧ j ≤ 61 ∧ i = k) ∨ (62 ≤ j ∧ j ≤ 67 ∧ i < f + st.2.2.length) → S'.2 j i = S.2 j i) : stM S' b t k f st := by
  obtain ⟨w1, w2, w3, w4, w5, w6⟩ := H
  refine ⟨?_, ?_, ?_, ?_, w5, fun i c hi => (w6 i c hi).eq fun j h1 h2 => h j _ (Or.inr ⟨h1, h2, by have := (List.getElem?_eq_some_iff.mp hi).1; omega⟩)⟩
  · rw [h 57 k (by omega), h 58 k (by omega)]; exact w1
  · rw [h 59 k (by omega)]; exact w2
  · rw [h 60 k (by omega)]; exact w3
  · rw [h 61 k (by omega)]; exact w4
section
variable {l : Launch} {D : xD} {h0 : xH} {M : MA} {S : MS}
set_option maxRecDepth 20000 in
theorem c_step2 {b p s k n c w lk : Nat} {t : List Nat} (hM : mok M) (A : atA S b t p) (hs : s < 123) (h51 : S.1 51 = nI k) (h52 : S.1 52 = nI n) (hk : k < 1000) (hn : n + 4 ≤ 4000) (h54 : S.2 54 s = nI c) (hc : c ≤ 8) (h56 : S.2 56 s = nI w) : xMet l D 4 y_Mo_step [.ref M.1, .int (nI s), .int (lkI lk)] (mH h0 M S) 0 0 (fun o h' => ∃ S', h' = mH h0 M S' ∧ o = .inl none ∧ gF seL (stP k n s) S S' ∧ mRes S' b t (if c = 8 then .error (scan bl t p) else pStep t p lk) (fun st => S'.1 51 = nI (k + 1) ∧ S'.1 52 = nI (n + st.2.2.length) ∧ S'.2 54 s = nI (c + 1) ∧ S'.2 56 s = nI (w + wSt st) ∧ stM S' b t k n st)) := by
  obtain ⟨T, K, hf, hp⟩ := id A
  obtain ⟨k1, k2, k3, k4, k5⟩ := id K
  have hB := T.2.2.2.2.2
  have hl := T.2.2.2.2.1
  have hsc := scan_le1 (p := bl) hp
  refine m_Mo_step (Nat.le_of_ble_eq_true rfl) fun X hl hD hP hA => ?_
  subst hl hD
  have er : c = 8 ∨ (¬ ch t (scan bl t p) = 42 ∧ tkK t (scan bl t p) ≠ 1) → xG X 36 [(0, .ref M.1)] [] (mH h0 M S) 0 0 := by
    intro hor
    refine xgo [] 20 hA ?_
    refine yg (by rfl) ?_
    refine xcV (mH_m _ _ _) (c_Mo_wrong hf) (by rfl) (by rfl) (by rfl) (Nat.zero_le _) (Nat.zero_le _) ?_
    rintro o h' ⟨rfl, rfl⟩
    refine xP hP ⟨_, rfl, rfl, (gF.refl _ _ _).p (by decide), ?_⟩
    have : (if c = 8 then .error (scan bl t p) else pStep t p lk) = .error (scan bl t p) := by
      by_cases z : c = 8
      · rw [if_pos z]
      · rw [if_neg z]
        rcases hor with y | ⟨y1, y2⟩
        · exact absurd y z
        · rw [pStep, pB_er]
          rw [pHead, if_neg y1, pB_er (pName_0 y2)]
    rw [this]
    exact ⟨T.p (by decide) (by decide), k1, hsc, _, k2, tkE_le hsc⟩
  -- the conditions
  have loop : ∀ (nm : Option (Nat × Nat)) (j0 : Nat), c ≠ 8 → pStep t p lk = (pB (pConds t 4 j0 []) fun cs k => .ok ((nm, lk, cs), k)) → ∀ (m : Nat) (cs : List CN) (i : Nat) (S' : MS), cs.length + m = 4 → pConds t 4 j0 [] = pConds t m i cs → atA S' b t i → gF seL (stP k n s) S S' → S'.1 51 = nI k → S'.1 52 = nI (n + cs.length) → S'.2 54 s = nI c → S'.2 56 s = nI (w + wSt (nm, lk, cs)) → stM S' b t k n (nm, lk, cs) → xG X 142 [(3, .int (nI k)), (1, .int (nI s)), (0, .ref M.1)] [] (mH h0 M S') 0 0 := by
    intro nm j0 hc8 eP m
    have c8 : c < 8 := by omega
    -- a fault inside
    have bad : ∀ (S' : MS) (wr : Nat), gF seL (stP k n s) S S' → mRes S' b t (.error wr : Except Nat (CN × Nat)) (fun _ => True) → pStep t p lk = .error wr → xG X 206 [(3, .int (nI k)), (1, .int (nI s)), (0, .ref M.1)] [] (mH h0 M S') 0 0 := by
      intro S' wr g R eR
      obtain ⟨T', hf', hw', e, he⟩ := id R
      refine xgo [] 90 hA ?_
      refine yg (by rfl) ?_
      refine yp (by rfl) ?_
      refine ya (by rfl) ?_
      refine yl (i := k) hM (by rfl) rfl hk ?_
      refine ys (i := k) hM (by rfl) rfl hk ?_
      refine ya (by rfl) ?_
      refine yl (i := s) hM (by rfl) rfl hs ?_
      refine ys (i := s) hM (by rfl) rfl hs ?_
      refine yg (by rfl) ?_
      refine xt (by
        show (0 : Int32) ≤ S'.1 6
        rw [hf']; exact nI_pos' (by omega)) ?_
      refine yg (by rfl) ?_
      refine yp (by rfl) ?_
      refine ya (by rfl) ?_
      refine yl (i := s) hM (by rfl) rfl hs ?_
      refine ys (i := s) hM (by rfl) rfl hs ?_
      have g2 := fun v1 v2 v3 v4 v5 => ((((gF.refl [51, 52] (stP k n s) S').p (k := 52) (v := v1) (by decide)).s (k := 61) (i := k) (v := v2) (Or.inl ⟨by decide, by decide, Nat.le_refl _⟩)).s (k := 56) (i := s) (v := v3) (Or.inr (Or.inr ⟨Or.inr rfl, rfl⟩))).p (k := 51) (v := v4) (by decide) |>.s (k := 54) (i := s) (v := v5) (Or.inr (Or.inr ⟨Or.inl rfl, rfl⟩))
      refine xP hP ⟨_, rfl, rfl, g.tr (g2 _ _ _ _ _) (by decide) (fun _ _ z => z), ?_⟩
      rw [if_neg hc8, eR]
      exact R.gf (g2 _ _ _ _ _) (by decide) (fun i _ _ => by unfold stP; omega)
    -- the end
    have fin : ∀ (cs : List CN) (i : Nat) (S' : MS), pConds t 4 j0 [] = .ok (cs, scan bl t i) → atA S' b t i → gF seL (stP k n s) S S' → S'.1 51 = nI k → S'.1 52 = nI (n + cs.length) → S'.2 54 s = nI c → S'.2 56 s = nI (w + wSt (nm, lk, cs)) → stM S' b t k n (nm, lk, cs) → xG X 240 [(3, .int (nI k)), (1, .int (nI s)), (0, .ref M.1)] [] (mH h0 M S') 0 0 := by
      intro cs i S' eC A' g e51 e52 e54 e56 W
      refine xgo [] 40 hA ?_
      refine yg (by rfl) ?_
      refine yp (by rfl) ?_
      refine ya (by rfl) ?_
      refine yl (i := s) hM (by rfl) rfl hs ?_
      refine ys (i := s) hM (by rfl) rfl hs ?_
      have g2 := fun v1 v2 => (((gF.refl [51] (fun k i => k = 54 ∧ i = s) S').p (k := 51) (v := v1) (by decide)).s (k := 54) (i := s) (v := v2) ⟨rfl, rfl⟩)
      refine xP hP ⟨_, rfl, rfl, g.tr (g2 _ _) (by decide) (fun _ _ z => Or.inr (Or.inr ⟨Or.inl z.1, z.2⟩)), ?_⟩
      rw [if_neg hc8, eP, pB_ok eC]
      refine ⟨(A'.gf (g2 _ _) (by decide) (fun i _ _ => by omega)).sc, ?_, e52, ?_, ?_, ?_⟩
      · show S'.1 51 + 1 = _
        rw [e51, nI_1]
      · rw [s2_eq]
        show S'.2 54 s + 1 = _
        rw [e54, nI_1]
      · rw [s2_na _ _ (by decide)]; exact e56
      · exact W.eq (fun k i z => (g2 _ _).2 k i (by omega))
    induction m with
    | zero =>
      intro cs i S' hm eC A' g e51 e52 e54 e56 W
      obtain ⟨T', K', hf', hp'⟩ := id A'
      obtain ⟨q1, q2, q3, q4, q5⟩ := id K'
      have hsc' := scan_le1 (p := bl) hp'
      have l4 : cs.length = 4 := by omega
      have more : (ch t (scan bl t i) = 91 ∨ ch t (scan bl t i) = 58) → xG X 167 [(3, .int (nI k)), (1, .int (nI s)), (0, .ref M.1)] [] (mH h0 M S') 0 0 := by
        intro hor
        refine xgo [] 40 hA ?_
        refine ya (by rfl) ?_
        refine yl (i := k) hM (by rfl) rfl hk ?_
        rw [W.2.2.2.1]
        refine xfn (by rw [l4]; rfl) ?_
        refine yg (by rfl) ?_
        refine xcV (mH_m _ _ _) (c_Mo_wrong hf') (by rfl) (by rfl) (by rfl) (Nat.zero_le _) (Nat.zero_le _) ?_
        rintro o h' ⟨rfl, rfl⟩
        refine xP hP ⟨_, rfl, rfl, g.p (by decide), ?_⟩
        rw [if_neg hc8, eP, pB_er (by rw [eC, pConds, if_pos hor])]
        exact ⟨T'.p (by decide) (by decide), q1, hsc', _, q2, tkE_le hsc'⟩
      refine xgo [167, 240] 40 hA ?_
      refine yg (by rfl) ?_
      rw [hf']
      refine xf (by decide) ?_
      refine xcV (mH_m _ _ _) (c_Mo_isSign T' K' (c := 91) (by rfl)) (by rfl) (by rfl) (by rfl) (Nat.zero_le _) (Nat.zero_le _) ?_
      rintro o h' ⟨rfl, rfl⟩
      refine xb (fun c1 => ?_) (fun c1 => ?_)
      · exact more (Or.inl (of_decide_eq_true ((bI_n0 _).mp c1)))
      refine xcV (mH_m _ _ _) (c_Mo_isSign T' K' (c := 58) (by rfl)) (by rfl) (by rfl) (by rfl) (Nat.zero_le _) (Nat.zero_le _) ?_
      rintro o h' ⟨rfl, rfl⟩
      refine xb (fun c2 => ?_) (fun c2 => ?_)
      · have n1 := of_decide_eq_false ((bI_0 _).mp c1)
        have n2 := of_decide_eq_false ((bI_0 _).mp c2)
        exact fin cs i S' (by rw [eC, pConds, if_neg (fun z => z.elim n1 n2)]) A' g e51 e52 e54 e56 W
      · exact more (Or.inr (of_decide_eq_true ((bI_n0 _).mp c2)))
    | succ m ih =>
      intro cs i S' hm eC A' g e51 e52 e54 e56 W
      obtain ⟨T', K', hf', hp'⟩ := id A'
      obtain ⟨q1, q2, q3, q4, q5⟩ := id K'
      have hsc' := scan_le1 (p := bl) hp'
      -- behind the condition
      have good : ∀ (S2 : MS) (cd : CN) (j : Nat), pConds t 4 j0 [] = pConds t m j (cs ++ [cd]) → atA S2 b t j → gF tL (fun k i => k ∈ teL ∧ n + cs.length ≤ i) S' S2 → teM S2 b t (n + cs.length) cd → xG X 206 [(3, .int (nI k)), (1, .int (nI s)), (0, .ref M.1)] [] (mH h0 M S2) 0 0 := by
        intro S2 cd j eC2 A2 g2 te
        have d1 : ∀ k, k < 62 → ∀ i, S2.2 k i = S'.2 k i := fun k hk i => g2.2 k i fun z => by have := teL_of z.1; omega
        refine xgo [142] 60 hA ?_
        refine yg (by rfl) ?_
        refine yp (by rfl) ?_
        refine ya (by rfl) ?_
        refine yl (i := k) hM (by rfl) rfl hk ?_
        refine ys (i := k) hM (by rfl) rfl hk ?_
        refine ya (by rfl) ?_
        refine yl (i := s) hM (by rfl) rfl hs ?_
        refine ys (i := s) hM (by rfl) rfl hs ?_
        have g3 := fun v1 v2 v3 => (((gF.refl [51, 52] (stP k n s) S2).p (k := 52) (v := v1) (by decide)).s (k := 61) (i := k) (v := v2) (Or.inl ⟨by decide, by decide, Nat.le_refl _⟩)).s (k := 56) (i := s) (v := v3) (Or.inr (Or.inr ⟨Or.inr rfl, rfl⟩))
        have gg := (g.tr g2 (by decide) (fun k i z => Or.inr (Or.inl ⟨(teL_of z.1).1, (teL_of z.1).2, by omega⟩)))
        refine ih (cs ++ [cd]) j _ (by rw [List.length_append]; show cs.length + 1 + m = 4; omega) eC2 (A2.gf (g3 _ _ _) (by decide) (fun i _ _ => by unfold stP; omega)) (gg.tr (g3 _ _ _) (by decide) (fun _ _ z => z)) ?_ ?_ ?_ ?_ ?_
        · show S2.1 51 = _
          rw [g2.1 51 (by decide)]; exact e51
        · show S2.1 52 + 1 = _
          rw [g2.1 52 (by decide), e52, nI_1, List.length_append]; rfl
        · rw [s2_na _ _ (by decide), s2_na _ _ (by decide)]
          show S2.2 54 s = _
          rw [d1 _ (by decide)]; exact e54
        · rw [s2_eq, s2_na _ _ (by decide)]
          show S2.2 56 s + 100 = _
          rw [d1 _ (by decide), e56]
          show nI _ + nI 100 = _
          rw [nI_add]
          congr 1
          unfold wSt
          simp only [List.length_append, List.length_singleton]
          omega
        · obtain ⟨w1, w2, w3, w4, w5, w6⟩ := W
          have o : ∀ k', k' ≠ 61 → k' ≠ 56 → k' < 62 → ∀ (v1 v2 v3 : Int32) (x : Nat), (s2 (s2 (s1 S2 52 v1) 61 k v2) 56 s v3).2 k' x = S'.2 k' x := fun k' h1 h2 h3 v1 v2 v3 x => by
            rw [s2_na _ _ h2, s2_na _ _ h1]
            exact d1 k' h3 x
          refine ⟨?_, ?_, ?_, ?_, ?_, ?_⟩
          · cases nm with
            | none =>
              show (s2 _ _ _ _).2 58 k = 0
              rw [o 58 (by decide) (by decide) (by decide)]; exact w1
            | some a =>
              show (s2 _ _ _ _).2 57 k = _ ∧ (s2 _ _ _ _).2 58 k = _ ∧ _
              rw [o 57 (by decide) (by decide) (by decide), o 58 (by decide) (by decide) (by decide)]; exact w1
          · rw [o 59 (by decide) (by decide) (by decide)]; exact w2
          · rw [o 60 (by decide) (by decide) (by decide)]; exact w3
          · rw [s2_na _ _ (by decide), s2_eq]
            show S2.2 61 k + 1 = nI (cs ++ [cd]).length
            rw [d1 _ (by decide), w4, List.length_append]
            exact nI_1 _
          · show (cs ++ [cd]).length ≤ 4
            rw [List.length_append]; show cs.length + 1 ≤ 4; omega
          · intro x cx hx
            have e3 : ∀ k', 62 ≤ k' → k' ≤ 67 → ∀ (v1 v2 v3 : Int32) (x : Nat), (s2 (s2 (s1 S2 52 v1) 61 k v2) 56 s v3).2 k' x = S2.2 k' x := fun k' h1 h2 v1 v2 v3 x => by
              rw [s2_na _ _ (by omega), s2_na _ _ (by omega)]; rfl
            change (cs ++ [cd])[x]? = some cx at hx
            by_cases hx' : x < cs.length
            · rw [List.getElem?_append_left hx'] at hx
              refine (w6 x cx hx).eq (fun k' h1 h2 => ?_)
              rw [e3 k' h1 h2]
              exact g2.2 k' _ (fun z => by omega)
            · rw [List.getElem?_append_right (by omega)] at hx
              have : x = cs.length := by
                have := (List.getElem?_eq_some_iff.mp hx).1
                simp only [List.length_singleton] at this
                omega
              subst this
              rw [Nat.sub_self] at hx
              have : cx = cd := by simpa using hx.symm
              subst this
              exact te.eq (fun k' h1 h2 => e3 k' h1 h2 _ _ _ _)
      have l4 : cs.length < 4 := by omega
      have fB : ∀ (S2 : MS) (R : Except Nat (CN × Nat)), R = pCond t (scan bl t i) → (ch t (scan bl t i) = 91 ∨ ch t (scan bl t i) = 58) → mF tL teL S' S2 → pF teL (n + cs.length) S' S2 → mRes S2 b t R (fun c => teM S2 b t (n + cs.length) c) → xG X 206 [(3, .int (nI k)), (1, .int (nI s)), (0, .ref M.1)] [] (mH h0 M S2) 0 0 := by
        intro S2 R hR hor f2 p2 r
        have g2 := f2.gp p2
        have gg := (g.tr g2 (by decide) (fun k i z => Or.inr (Or.inl ⟨(teL_of z.1).1, (teL_of z.1).2, by omega⟩)))
        cases R with
        | error wr =>
          refine bad S2 wr gg r ?_
          rw [eP, pB_er (by rw [eC, pConds, if_pos hor, pB_er hR.symm])]
        | ok q =>
          refine good S2 q.1 q.2 ?_ r.1 g2 r.2
          rw [eC, pConds, if_pos hor, pB_ok (a := q.1) (i := q.2) hR.symm]
      have more : (ch t (scan bl t i) = 91 ∨ ch t (scan bl t i) = 58) → xG X 167 [(3, .int (nI k)), (1, .int (nI s)), (0, .ref M.1)] [] (mH h0 M S') 0 0 := by
        intro hor
        have hE : S'.1 47 = nI (scan bl t i + 1) ∧ scan bl t i < t.length := by
          rw [q2]
          rcases hor with z | z
          · exact ⟨by rw [(tk_sg (c := 91) (by rfl) z).2.2], ch_lt z (by decide)⟩
          · exact ⟨by rw [(tk_sg (c := 58) (by rfl) z).2.2], ch_lt z (by decide)⟩
        refine xgo [206] 40 hA ?_
        refine ya (by rfl) ?_
        refine yl (i := k) hM (by rfl) rfl hk ?_
        rw [W.2.2.2.1]
        refine xtn (fun z => by
          have z' := (nI_eq (a := cs.length) (b := 4) (by omega) (by decide)).mp z
          omega) ?_
        refine xcV (mH_m _ _ _) (c_Mo_isSign T' K' (c := 91) (by rfl)) (by rfl) (by rfl) (by rfl) (Nat.zero_le _) (Nat.zero_le _) ?_
        rintro o h' ⟨rfl, rfl⟩
        refine xb (fun c1 => ?_) (fun c1 => ?_)
        · have n1 := of_decide_eq_false ((bI_0 _).mp c1)
          refine xcV (mH_m _ _ _) (c_colon2 hM T' hE.1 hf' (by omega) e52 (by omega)) (by rfl) (by rfl) (by rfl) (Nat.zero_le _) (Nat.zero_le _) ?_
          rintro o h' ⟨S2, rfl, rfl, f2, p2, r⟩
          exact fB S2 _ (by rw [pCond, if_neg n1]) hor f2 p2 r
        · have y1 := of_decide_eq_true ((bI_n0 _).mp c1)
          refine xcV (mH_m _ _ _) (c_bracket2 hM T' hE.1 hf' (by omega) e52 (by omega)) (by rfl) (by rfl) (by rfl) (Nat.zero_le _) (Nat.zero_le _) ?_
          rintro o h' ⟨S2, rfl, rfl, f2, p2, r⟩
          exact fB S2 _ (by rw [pCond, if_pos y1]) hor f2 p2 r
      refine xgo [167, 240] 40 hA ?_
      refine yg (by rfl) ?_
      rw [hf']
      refine xf (by decide) ?_
      refine xcV (mH_m _ _ _) (c_Mo_isSign T' K' (c := 91) (by rfl)) (by rfl) (by rfl) (by rfl) (Nat.zero_le _) (Nat.zero_le _) ?_
      rintro o h' ⟨rfl, rfl⟩
      refine xb (fun c1 => ?_) (fun c1 => ?_)
      · exact more (Or.inl (of_decide_eq_true ((bI_n0 _).mp c1)))
      refine xcV (mH_m _ _ _) (c_Mo_isSign T' K' (c := 58) (by rfl)) (by rfl) (by rfl) (by rfl) (Nat.zero_le _) (Nat.zero_le _) ?_
      rintro o h' ⟨rfl, rfl⟩
      refine xb (fun c2 => ?_) (fun c2 => ?_)
      · have n1 := of_decide_eq_false ((bI_0 _).mp c1)
        have n2 := of_decide_eq_false ((bI_0 _).mp c2)
        exact fin cs i S' (by rw [eC, pConds, if_neg (fun z => z.elim n1 n2)]) A' g e51 e52 e54 e56 W
      · exact more (Or.inr (of_decide_eq_true ((bI_n0 _).mp c2)))
  obtain ⟨s0, hs0⟩ : ∃ s0, s0 = scan bl t p := ⟨_, rfl⟩
  obtain ⟨E, hE⟩ : ∃ E, E = tkE t s0 := ⟨_, rfl⟩
  have start : c ≠ 8 → (nm : Option (Nat × Nat)) → ((nm = none ∧ tkK t s0 ≠ 1) ∨ (nm = some (s0, E - s0) ∧ tkK t s0 = 1 ∧ s0 < E ∧ E ≤ t.length)) → pHead t s0 = .ok (nm, E) → xG X 45 [(0, .ref M.1), (1, .int (nI s)), (2, .int (lkI lk))] [] (mH h0 M S) 0 0 := by
    intro hc8 nm hnm eH
    have eP : pStep t p lk = (pB (pConds t 4 E []) fun cs k => .ok ((nm, lk, cs), k)) := by rw [pStep, ← hs0, pB_ok eH]
    rw [← hs0] at k1 k2 k3 hsc
    rw [← hE] at k2
    have hEl := tkE_le (t := t) hsc
    rw [← hE] at hEl
    have hK : tkK t s0 < 6 := by
      unfold tkK
      repeat' split
      all_goals decide
    have k112 : ∀ v u : Int32, ((tkK t s0 ≠ 1 ∧ v = 0) ∨ (tkK t s0 = 1 ∧ v = S.1 47 - S.1 46)) → ((tkK t s0 ≠ 1 ∧ u = 0) ∨ (tkK t s0 = 1 ∧ u = 1)) → xG X 112 [(3, .int (S.1 51)), (0, .ref M.1), (1, .int (nI s)), (2, .int (lkI lk))] [.int u, .int ((s2 (s2 S 57 k (S.1 8 + S.1 46)) 58 k v).2 56 s), .int (nI s), .ref (M.2 56)] (mH h0 M (s2 (s2 S 57 k (S.1 8 + S.1 46)) 58 k v)) 0 0 := by
      intro v u hv hu
      refine xgo [138] 60 hA ?_
      refine ys (i := s) hM (by rfl) rfl hs ?_
      refine ya (by rfl) ?_
      refine ys (i := k) hM (by rfl) h51 hk ?_
      refine ya (by rfl) ?_
      refine yg (by rfl) ?_
      refine ys (i := k) hM (by rfl) h51 hk ?_
      refine ya (by rfl) ?_
      refine ys (i := k) hM (by rfl) h51 hk ?_
      obtain ⟨S1, hS1⟩ : ∃ S1, S1 = s2 (s2 (s2 (s2 (s2 (s2 S 57 k (S.1 8 + S.1 46)) 58 k v) 56 s ((s2 (s2 S 57 k (S.1 8 + S.1 46)) 58 k v).2 56 s + u)) 59 k (lkI lk)) 60 k (S.1 52)) 61 k 0 := ⟨_, rfl⟩
      have g1 : gF [] (stP k n s) S S1 := by
        rw [hS1]
        refine (((((gF.refl _ _ _).s ?_).s ?_).s ?_).s ?_).s ?_ |>.s ?_
        all_goals unfold stP; omega
      suffices this : xG X 138 [(3, .int (nI k)), (1, .int (nI s)), (0, .ref M.1)] [] (mH h0 M S1) 0 0 by
        rw [hS1, ← h51] at this
        exact this.locs (by simp)
      have A1 := A.gf g1 (by decide) (fun i _ _ => by unfold stP; omega)
      refine xgo [142] 20 hA ?_
      obtain ⟨T1, ⟨-, m2, -⟩, hf1, -⟩ := id A1
      rw [← hs0, ← hE] at m2
      refine xcV (mH_m _ _ _) (c_Mo_nextA (p := 0) hM T1 m2 hf1 hEl) (by rfl) (by rfl) (by rfl) (Nat.zero_le _) (Nat.zero_le _) ?_
      rintro o h' ⟨S2, rfl, rfl, f2, A2⟩
      have d2 := fun k => f2.2 k (by simp)
      have e57 : S1.2 57 k = nI (b + s0) := by rw [hS1]; simp [s2, T.1, k1, nI_add]
      have e58 : S1.2 58 k = v := by rw [hS1]; simp [s2]
      have e59 : S1.2 59 k = lkI lk := by rw [hS1]; simp [s2]
      have e60 : S1.2 60 k = nI n := by rw [hS1]; simp [s2, h52]
      have e61 : S1.2 61 k = 0 := by rw [hS1]; simp [s2]
      have e56 : S1.2 56 s = nI w + u := by rw [hS1]; simp [s2, h56]
      have e54 : S1.2 54 s = nI c := by rw [hS1]; simp [s2, h54]
      refine loop nm E hc8 eP 4 [] E S2 rfl rfl A2 ((g1.wk (by simp) (fun _ _ z => z)).tr f2.g0 (by decide) (fun _ _ z => z)) ?_ ?_ ?_ ?_ ?_
      · rw [f2.1 51 (by decide), g1.1 51 (by simp)]; exact h51
      · rw [f2.1 52 (by decide), g1.1 52 (by simp)]; exact h52
      · rw [d2]; exact e54
      · rw [d2, e56]
        rcases hnm with ⟨z1, z2⟩ | ⟨z1, z2, -⟩
        · rcases hu with ⟨-, y⟩ | ⟨y, -⟩
          · rw [y, z1]; show nI w + nI 0 = _; rw [nI_add]; rfl
          · exact absurd y z2
        · rcases hu with ⟨y, -⟩ | ⟨-, y⟩
          · exact absurd z2 y
          · rw [y, z1]; show nI w + nI 1 = _; rw [nI_add]; rfl
      · refine ⟨?_, ?_, ?_, ?_, Nat.zero_le _, fun i c hi => by cases hi⟩
        · rcases hnm with ⟨z1, z2⟩ | ⟨z1, z2, z3, z4⟩
          · rw [z1]
            show S2.2 58 k = 0
            rcases hv with ⟨-, y⟩ | ⟨y, -⟩
            · rw [d2, e58, y]
            · exact absurd y z2
          · rw [z1]
            show S2.2 57 k = nI (b + s0) ∧ S2.2 58 k = nI (E - s0) ∧ 1 ≤ E - s0 ∧ s0 + (E - s0) ≤ t.length
            rcases hv with ⟨y, -⟩ | ⟨-, y⟩
            · exact absurd z2 y
            · exact ⟨by rw [d2, e57], by rw [d2, e58, y, k1, k2, nI_sub (by omega)], by omega, by omega⟩
        · rw [d2, e59]
        · rw [d2, e60]
        · rw [d2, e61]; rfl
    have k91 : ∀ v : Int32, ((tkK t s0 ≠ 1 ∧ v = 0) ∨ (tkK t s0 = 1 ∧ v = S.1 47 - S.1 46)) → xG X 91 [(3, .int (S.1 51)), (0, .ref M.1), (1, .int (nI s)), (2, .int (lkI lk))] [.int v, .int (S.1 51), .ref (M.2 58)] (mH h0 M (s2 S 57 k (S.1 8 + S.1 46))) 0 0 := by
      intro v hv
      refine xgo [112] 40 hA ?_
      refine ys (i := k) hM (by rfl) h51 hk ?_
      refine ya (by rfl) ?_
      refine yl (i := s) hM (by rfl) rfl hs ?_
      refine yg (by rfl) ?_
      refine xb (fun c1 => ?_) (fun c1 => ?_)
      · exact k112 v 0 hv (Or.inl ⟨fun z => c1 (by show S.1 45 = 1; rw [k3, z]; rfl), rfl⟩)
      · exact k112 v 1 hv (Or.inr ⟨(nI_eq (b := 1) (by omega) (by decide)).mp (by rw [← k3]; exact c1), rfl⟩)
    refine xgo [91] 60 hA ?_
    refine yg (by rfl) ?_
    refine ya (by rfl) ?_
    refine yg (by rfl) ?_
    refine yg (by rfl) ?_
    refine ys (i := k) hM (by rfl) h51 hk ?_
    refine ya (by rfl) ?_
    refine yg (by rfl) ?_
    refine xb (fun c1 => ?_) (fun c1 => ?_)
    · exact k91 0 (Or.inl ⟨fun z => c1 (by show S.1 45 = 1; rw [k3, z]; rfl), rfl⟩)
    · refine yg (by rfl) ?_
      refine yg (by rfl) ?_
      exact k91 _ (Or.inr ⟨(nI_eq (b := 1) (by omega) (by decide)).mp (by rw [← k3]; exact c1), rfl⟩)
  refine xgo [36, 45] 40 hA ?_
  refine yg (by rfl) ?_
  rw [hf]
  refine xt (by decide) ?_
  refine ya (by rfl) ?_
  refine yl (i := s) hM (by rfl) rfl hs ?_
  rw [h54]
  refine xb (fun c0 => ?_) (fun c0 => ?_)
  · exact (er (Or.inl ((nI_eq (b := 8) (by omega) (by decide)).mp c0))).locs (by simp [lv_args])
  have hc8 : c ≠ 8 := fun z => c0 (by rw [z]; rfl)
  refine xcV (mH_m _ _ _) (c_Mo_isSign T K (c := 42) (by rfl)) (by rfl) (by rfl) (by rfl) (Nat.zero_le _) (Nat.zero_le _) ?_
  rintro o h' ⟨rfl, rfl⟩
  refine xb (fun c1 => ?_) (fun c1 => ?_)
  · have y1 := of_decide_eq_true ((bI_n0 _).mp c1)
    obtain ⟨u1, u2, u3⟩ := tk_sg (c := 42) (by rfl) y1
    rw [← hs0] at u1 u3 y1
    rw [← hE] at u3
    exact (start hc8 none (Or.inl ⟨rfl, by omega⟩) (by rw [pHead, if_pos y1, u3]))
  have n1 := of_decide_eq_false ((bI_0 _).mp c1)
  refine yg (by rfl) ?_
  refine xb (fun c2 => ?_) (fun c2 => ?_)
  · have hK1 : tkK t s0 = 1 := by
      rw [k3, ← hs0] at c2
      refine (nI_eq (b := 1) ?_ (by decide)).mp c2
      have : tkK t s0 < 6 := by
        unfold tkK
        repeat' split
        all_goals decide
      omega
    have eN := pName_1 hK1
    obtain ⟨n1', n2, n3, n4, n5, n6, -⟩ := pName_sub eN
    simp only [] at n2 n3
    rw [← hE] at eN n2 n3 n6
    rw [← hs0] at n1
    exact (start hc8 (some (s0, E - s0)) (Or.inr ⟨rfl, hK1, by omega, n6⟩) (by rw [pHead, if_neg n1, pB_ok eN]))
  · exact (er (Or.inr ⟨n1, fun z => c2 (by rw [k3, z]; rfl)⟩)).locs (by simp [lv_args])
end
