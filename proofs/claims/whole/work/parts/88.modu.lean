/-! THE REFERENCE, 21: the small ones -/
theorem in_lt {j n : Nat} (hj : j < n) (hn : n < 2 ^ 30) : (0 : Int32) ≤ nI j ∧ nI j ≤ nI n - 1 := by
  refine ⟨nI_pos' (by omega), ?_⟩
  rw [show nI n - 1 = nI (n - 1) from nI_sub (b := 1) (by omega)]
  exact nI_le (by omega) (by omega)
theorem in_no {i : Int32} {n : Nat} (hn : n < 2 ^ 30) (h : i < 0 ∨ nI n ≤ i) : ¬ ((0 : Int32) ≤ i ∧ i ≤ nI n - 1) := by
  rintro ⟨h1, h2⟩
  rcases h with z | z
  · exact Int32.lt_irrefl (Int32.lt_of_lt_of_le z h1)
  · by_cases y : n = 0
    · subst y
      have : i ≤ (-1 : Int32) := h2
      exact Int32.lt_irrefl (Int32.lt_of_le_of_lt (Int32.le_trans h1 this) (by decide))
    · rw [show nI n - 1 = nI (n - 1) from nI_sub (b := 1) (by omega)] at h2
      have := (nI_leI (a := n) (b := n - 1) (by omega) (by omega)).mp (Int32.le_trans z h2)
      omega
theorem mR.thr {S : MS} {A : AS} (R : mR S A) (v : Int32) : mR (s1 S 0 v) A := by
  obtain ⟨rT, rO, rF, rP, rS, rY, rss⟩ := R
  have g : gF [0] (fun _ _ => False) S (s1 S 0 v) := (gF.refl _ _ _).p (by decide)
  exact ⟨rT.gf g (by rfl) (fun i z => z), rO.gf g (by rfl) (fun i z => z), rF.gf g (by rfl) (fun i z => z), rP, rS.gf g (by rfl) (fun k i _ _ z => z) (fun i _ z => z), rY.gf g (by rfl) (by rfl) (fun k i _ _ z => z) (fun i _ _ z => z), rss⟩
/-- the tape alone changes -/
theorem mR.tp {S S' : MS} {A : AS} {p : List Nat} (R : mR S A) (g : gF [0, 2] (fun k _ => k = 1) S S') (T : tpR S' p) : mR S' (A.wTp p) := by
  obtain ⟨rT, rO, rF, rP, rS, rY, rss⟩ := R
  exact ⟨T, rO.gf g (by rfl) (fun i z => by omega), rF.gf g (by rfl) (fun i z => by omega), by rw [g.1 5 (by decide)]; exact rP, rS.gf g (by rfl) (fun k i _ _ z => by omega) (fun i _ z => by omega), rY.gf g (by rfl) (by rfl) (fun k i _ _ z => by omega) (fun i _ _ z => by omega), rss⟩
def oML (q : Option Int64) (S' : MS) (o : xO) : Prop := match q with
  | none => S'.1 0 = 1 ∧ ∃ v : Int64, o = .inl (some (.long v))
  | some v => S'.1 0 = 0 ∧ o = .inl (some (.long v))
section
variable {l : Launch} {D : xD} {h0 : xH} {M : MA} {S : MS}
set_option maxRecDepth 20000 in
theorem c_feed2 {A : AS} {a b c d e : Int32} (hM : mok M) (R : mR S A) (rA : AOk A) : xMet l D 1 y_Mo_feed [.ref M.1, .int a, .int b, .int c, .int d, .int e] (mH h0 M S) 0 0 (fun o h' => ∃ S', h' = mH h0 M S' ∧ oM (aFeed A a b c d e).1 S' o ∧ mR S' (aFeed A a b c d e).2) := by
  obtain ⟨rT, -⟩ := id R
  have tl : A.tp.length ≤ 8192 := rA.1.1
  refine m_Mo_feed (Nat.le_of_ble_eq_true rfl) fun X hl hD hP hA => ?_
  subst hl hD
  refine xgo [] 60 hA ?_
  refine yg (by rfl) ?_
  rw [rT.1]
  by_cases z : 8172 < A.tp.length
  · have ea : aFeed A a b c d e = (none, A) := if_pos z
    rw [ea] at hP
    refine xf (fun y => by
      rw [show nI A.tp.length + 20 = nI (A.tp.length + 20) from nI_add _ 20] at y
      have := (nI_leI (b := 8192) (by omega) (by decide)).mp y
      omega) ?_
    refine xcV (mH_m _ _ _) (c_Mo_refuse) (by rfl) (by rfl) (by rfl) (Nat.zero_le _) (Nat.zero_le _) ?_
    rintro o h' ⟨rfl, rfl⟩
    exact xP hP ⟨_, rfl, ⟨rfl, _, rfl⟩, R.thr _⟩
  · have ea : aFeed A a b c d e = (some (nI (A.tp.length + 20)), A.wTp (A.tp ++ by4 a ++ by4 b ++ by4 c ++ by4 d ++ by4 e)) := if_neg z
    rw [ea] at hP
    refine xt (by
      rw [show nI A.tp.length + 20 = nI (A.tp.length + 20) from nI_add _ 20]
      exact (nI_leI (b := 8192) (by omega) (by decide)).mpr (by omega)) ?_
    refine yp (by rfl) ?_
    have g0 : gF [0, 2] (fun k _ => k = 1) S (s1 S 0 0) := (gF.refl _ _ _).p (by decide)
    have T0 : tpR (s1 S 0 0) A.tp := ⟨rT.1, rT.2.1, rT.2.2⟩
    have l4 : ∀ (p : List Nat) (x : Int32), (p ++ by4 x).length = p.length + 4 := fun p x => by rw [List.length_append]; rfl
    refine xcV (mH_m _ _ _) (c_Mo_four hM T0 (by omega)) (by rfl) (by rfl) (by rfl) (Nat.zero_le _) (Nat.zero_le _) ?_
    rintro o h' ⟨S1, rfl, rfl, f1, T1⟩
    refine xcV (mH_m _ _ _) (c_Mo_four hM T1 (by rw [l4]; omega)) (by rfl) (by rfl) (by rfl) (Nat.zero_le _) (Nat.zero_le _) ?_
    rintro o h' ⟨S2, rfl, rfl, f2, T2⟩
    refine xcV (mH_m _ _ _) (c_Mo_four hM T2 (by rw [l4, l4]; omega)) (by rfl) (by rfl) (by rfl) (Nat.zero_le _) (Nat.zero_le _) ?_
    rintro o h' ⟨S3, rfl, rfl, f3, T3⟩
    refine xcV (mH_m _ _ _) (c_Mo_four hM T3 (by rw [l4, l4, l4]; omega)) (by rfl) (by rfl) (by rfl) (Nat.zero_le _) (Nat.zero_le _) ?_
    rintro o h' ⟨S4, rfl, rfl, f4, T4⟩
    refine xcV (mH_m _ _ _) (c_Mo_four hM T4 (by rw [l4, l4, l4, l4]; omega)) (by rfl) (by rfl) (by rfl) (Nat.zero_le _) (Nat.zero_le _) ?_
    rintro o h' ⟨S5, rfl, rfl, f5, T5⟩
    refine yg (by rfl) ?_
    have q1 : ∀ k i, k ∈ [1] → (fun k _ => k = 1 : Nat → Nat → Prop) k i := fun k i z => by simpa using z
    have g5 := ((((g0.tr f1.g (by simp) q1).tr f2.g (by simp) q1).tr f3.g (by simp) q1).tr f4.g (by simp) q1).tr f5.g (by simp) q1
    refine xP hP ⟨S5, rfl, ⟨?_, ?_⟩, R.tp g5 T5⟩
    · rw [f5.1 0 (by decide), f4.1 0 (by decide), f3.1 0 (by decide), f2.1 0 (by decide), f1.1 0 (by decide)]; rfl
    · rw [T5.1, l4, l4, l4, l4, l4]
set_option maxRecDepth 20000 in
theorem c_end2 {A : AS} {n : Int32} (hM : mok M) (R : mR S A) (rA : AOk A) : xMet l D 1 y_Mo_end [.ref M.1, .int n] (mH h0 M S) 0 0 (fun o h' => ∃ S', h' = mH h0 M S' ∧ oM (aEnd A n).1 S' o ∧ mR S' (aEnd A n).2) := by
  obtain ⟨rT, -⟩ := id R
  have tl : A.tp.length ≤ 8192 := rA.1.1
  refine m_Mo_end (Nat.le_of_ble_eq_true rfl) fun X hl hD hP hA => ?_
  subst hl hD
  refine xgo [] 60 hA ?_
  refine yg (by rfl) ?_
  rw [rT.1]
  refine xcS (c_Mo_in) (by rfl) (by rfl) (by rfl) (Nat.zero_le _) (Nat.zero_le _) ?_
  rintro o h' ⟨rfl, rfl⟩
  by_cases z : n < 0 ∨ nI A.tp.length < n
  · have ea : aEnd A n = (none, A) := if_pos z
    rw [ea] at hP
    refine xb (fun c => ?_) (fun c => ?_)
    · have := of_decide_eq_true ((bI_n0 _).mp c)
      rcases z with y | y
      · exact absurd (Int32.lt_of_lt_of_le y this.1) (Int32.lt_irrefl)
      · exact absurd (Int32.lt_of_lt_of_le y this.2) (Int32.lt_irrefl)
    · refine xcV (mH_m _ _ _) (c_Mo_refuse) (by rfl) (by rfl) (by rfl) (Nat.zero_le _) (Nat.zero_le _) ?_
      rintro o h' ⟨rfl, rfl⟩
      exact xP hP ⟨_, rfl, ⟨rfl, _, rfl⟩, R.thr _⟩
  · have ea : aEnd A n = (some n, A.wTp (A.tp.take n.toNatClampNeg)) := if_neg z
    rw [ea] at hP
    refine xb (fun c => ?_) (fun c => ?_)
    rotate_left
    · have := of_decide_eq_false ((bI_0 _).mp c)
      exact absurd ⟨Int32.not_lt.mp (fun y => z (Or.inl y)), Int32.not_lt.mp (fun y => z (Or.inr y))⟩ this
    · have h := of_decide_eq_true ((bI_n0 _).mp c)
      rcases pk_ix n (n := A.tp.length + 1) (by omega) with y | y | ⟨j, hj, rfl⟩
      · exact absurd (Or.inl y) z
      · have := Int32.le_trans y h.2
        have := (nI_leI (a := A.tp.length + 1) (b := A.tp.length) (by omega) (by omega)).mp this
        omega
      rw [nI_clamp (by omega)] at hP
      refine yp (by rfl) ?_
      refine yp (by rfl) ?_
      have g0 : gF [0, 2] (fun k _ => k = 1) S (s1 (s1 S 0 0) 2 (nI j)) := ((gF.refl _ _ _).p (by decide)).p (by decide)
      have hl : (A.tp.take j).length = j := by rw [List.length_take]; omega
      refine xP hP ⟨_, rfl, ⟨rfl, rfl⟩, R.tp g0 ⟨by rw [hl]; rfl, fun k hk => ?_, by rw [hl]; omega⟩⟩
      rw [hl] at hk
      show S.2 1 k = _
      rw [rT.2.1 k (by omega), ch_in (by omega), ch_in (by rw [hl]; exact hk), List.getElem_take]
set_option maxRecDepth 20000 in
theorem c_place2 {A : AS} (R : mR S A) : xMet l D 0 y_Mo_place [.ref M.1] (mH h0 M S) 0 0 (fun o h' => ∃ S', h' = mH h0 M S' ∧ o = .inl (some (.int (plI A.pl))) ∧ mR S' A) := by
  refine m_Mo_place (Nat.le_of_ble_eq_true rfl) fun X hl hD hP hA => ?_
  subst hl hD
  refine xgo [] 60 hA ?_
  refine yp (by rfl) ?_
  refine yg (by rfl) ?_
  exact xP hP ⟨_, rfl, by rw [← R.2.2.2.1]; rfl, R.thr _⟩
set_option maxRecDepth 20000 in
theorem c_found2 {A : AS} {i : Int32} (hM : mok M) (R : mR S A) (rA : AOk A) : xMet l D 1 y_Mo_found [.ref M.1, .int i] (mH h0 M S) 0 0 (fun o h' => ∃ S', h' = mH h0 M S' ∧ oM (aFound A i) S' o ∧ mR S' A) := by
  obtain ⟨rT, rO, rF, -⟩ := id R
  have hl : A.fo.length ≤ 500 := rA.2.2.1.1
  refine m_Mo_found (Nat.le_of_ble_eq_true rfl) fun X hl hD hP hA => ?_
  subst hl hD
  refine xgo [] 60 hA ?_
  refine yg (by rfl) ?_
  rw [rF.1]
  refine xcS (c_Mo_in) (by rfl) (by rfl) (by rfl) (Nat.zero_le _) (Nat.zero_le _) ?_
  rintro o h' ⟨rfl, rfl⟩
  rcases pk_ix i (n := A.fo.length) (by omega) with z | z | ⟨j, hj, rfl⟩
  · have ea : aFound A i = none := if_pos (Or.inl z)
    rw [ea] at hP
    rw [decide_eq_false (in_no (by omega) (Or.inl z))]
    refine xfn rfl ?_
    refine xcV (mH_m _ _ _) (c_Mo_refuse) (by rfl) (by rfl) (by rfl) (Nat.zero_le _) (Nat.zero_le _) ?_
    rintro o h' ⟨rfl, rfl⟩
    exact xP hP ⟨_, rfl, ⟨rfl, _, rfl⟩, R.thr _⟩
  · have ea : aFound A i = none := if_pos (Or.inr z)
    rw [ea] at hP
    rw [decide_eq_false (in_no (by omega) (Or.inr z))]
    refine xfn rfl ?_
    refine xcV (mH_m _ _ _) (c_Mo_refuse) (by rfl) (by rfl) (by rfl) (Nat.zero_le _) (Nat.zero_le _) ?_
    rintro o h' ⟨rfl, rfl⟩
    exact xP hP ⟨_, rfl, ⟨rfl, _, rfl⟩, R.thr _⟩
  · have ea : aFound A (nI j) = some (nI A.fo[j]) := by
      unfold aFound
      rw [if_neg, nI_clamp (by omega)]
      · simp [hj]
      · rintro (y | y)
        · exact nI_neg (by omega) y
        · have := (nI_leI (by omega) (by omega)).mp y; omega
    rw [ea] at hP
    rw [decide_eq_true (in_lt hj (by omega))]
    refine xtn (by decide) ?_
    refine yp (by rfl) ?_
    refine ya (by rfl) ?_
    refine yl (i := j) hM (by rfl) rfl (by show j < 500; omega) ?_
    exact xP hP ⟨_, rfl, ⟨rfl, by rw [← rF.2.1 j _ (List.getElem?_eq_getElem hj)]; rfl⟩, R.thr _⟩
set_option maxRecDepth 20000 in
theorem c_word2 {A : AS} {i : Int32} (hM : mok M) (R : mR S A) (rA : AOk A) : xMet l D 1 y_Mo_word [.ref M.1, .int i] (mH h0 M S) 0 0 (fun o h' => ∃ S', h' = mH h0 M S' ∧ oML (aWord A i) S' o ∧ mR S' A) := by
  obtain ⟨rT, rO, rF, -⟩ := id R
  have hl : A.ou.length ≤ 16384 := rA.2.1.1
  refine m_Mo_word (Nat.le_of_ble_eq_true rfl) fun X hl hD hP hA => ?_
  subst hl hD
  refine xgo [31] 60 hA ?_
  refine yg (by rfl) ?_
  rw [rO.1]
  refine xcS (c_Mo_in) (by rfl) (by rfl) (by rfl) (Nat.zero_le _) (Nat.zero_le _) ?_
  rintro o h' ⟨rfl, rfl⟩
  rcases pk_ix i (n := A.ou.length) (by omega) with z | z | ⟨j, hj, rfl⟩
  · have ea : aWord A i = none := if_pos (Or.inl z)
    rw [ea] at hP
    rw [decide_eq_false (in_no (by omega) (Or.inl z))]
    refine xfn rfl ?_
    refine xcV (mH_m _ _ _) (c_Mo_refuse) (by rfl) (by rfl) (by rfl) (Nat.zero_le _) (Nat.zero_le _) ?_
    rintro o h' ⟨rfl, rfl⟩
    exact xP hP ⟨_, rfl, ⟨rfl, _, rfl⟩, R.thr _⟩
  · have ea : aWord A i = none := if_pos (Or.inr z)
    rw [ea] at hP
    rw [decide_eq_false (in_no (by omega) (Or.inr z))]
    refine xfn rfl ?_
    refine xcV (mH_m _ _ _) (c_Mo_refuse) (by rfl) (by rfl) (by rfl) (Nat.zero_le _) (Nat.zero_le _) ?_
    rintro o h' ⟨rfl, rfl⟩
    exact xP hP ⟨_, rfl, ⟨rfl, _, rfl⟩, R.thr _⟩
  · have ea : aWord A (nI j) = some (wd A.ou j 8) := by
      unfold aWord
      rw [if_neg, nI_clamp (by omega)]
      rintro (y | y)
      · exact nI_neg (by omega) y
      · have := (nI_leI (by omega) (by omega)).mp y; omega
    rw [ea] at hP
    rw [decide_eq_true (in_lt hj (by omega))]
    refine xtn (by decide) ?_
    refine yp (by rfl) ?_
    have key : ∀ n k : Nat, k + n = 8 → xG X 31 [(4, .int (nI (j + k))), (2, .long (wd A.ou j k)), (0, .ref M.1), (1, .int (nI j))] [] (mH h0 M (s1 S 0 0)) 0 0 := by
      intro n
      induction n with
      | zero =>
        intro k hk
        have hk : k = 8 := by omega
        subst hk
        refine xgo [] 60 hA ?_
        refine xt (by rw [show nI j + 8 = nI (j + 8) from nI_add j 8]; exact Int32.le_refl _) ?_
        exact xP hP ⟨_, rfl, ⟨rfl, rfl⟩, R.thr _⟩
      | succ n ih =>
        intro k hk
        have nxt : ∀ v : Int32, v = (if j + k < A.ou.length then nI (ch A.ou (j + k)) else 0) → xG X 64 [(4, .int (nI (j + k))), (2, .long (wd A.ou j k)), (0, .ref M.1), (1, .int (nI j))] [.int v, .long (wd A.ou j k <<< ((8 : Int32).toInt64 &&& 63))] (mH h0 M (s1 S 0 0)) 0 0 := by
          intro v hv
          refine xgo [31] 60 hA ?_
          have := ih (k + 1) (by omega)
          rw [show wd A.ou j (k + 1) = wd A.ou j k <<< ((8 : Int32).toInt64 &&& 63) ||| v.toInt64 by rw [hv]; rfl, show j + (k + 1) = j + k + 1 from rfl, ← nI_1] at this
          exact this.locs (by simp)
        refine xgo [64] 60 hA ?_
        refine xf (fun y => by
          rw [show nI j + 8 = nI (j + 8) from nI_add j 8] at y
          have := (nI_leI (by omega) (by omega)).mp y; omega) ?_
        refine yg (by rfl) ?_
        rw [show (s1 S 0 0).1 4 = nI A.ou.length from rO.1]
        by_cases hlt : j + k < A.ou.length
        · refine xf (fun y => by have := (nI_leI (by omega) (by omega)).mp y; omega) ?_
          refine ya (by rfl) ?_
          refine yl (i := j + k) hM (by rfl) rfl (by show j + k < 16384; omega) ?_
          rw [show (s1 S 0 0).2 3 (j + k) = nI (ch A.ou (j + k)) from rO.2 _ hlt]
          exact nxt _ (by rw [if_pos hlt])
        · refine xt (nI_le (by omega) (by omega)) ?_
          exact nxt _ (by rw [if_neg hlt])
    exact (key 8 0 rfl).locs (by simp [lv_args, Value.category, wd])
set_option maxRecDepth 20000 in
theorem c_isThere2 {A : AS} {e : Int32} (R : mR S A) : xMet l D 1 y_Mo_isThere [.ref M.1, .int e] (mH h0 M S) 0 0 (fun o h' => h' = mH h0 M S ∧ o = .inl (some (.int (bI (decide (0 ≤ e ∧ e ≤ nI A.S.n - 1)))))) := by
  refine m_Mo_isThere (Nat.le_of_ble_eq_true rfl) fun X hl hD hP hA => ?_
  subst hl hD
  refine xgo [] 60 hA ?_
  refine yg (by rfl) ?_
  rw [R.2.2.2.2.1.1.1]
  refine xcS (c_Mo_in) (by rfl) (by rfl) (by rfl) (Nat.zero_le _) (Nat.zero_le _) ?_
  rintro o h' ⟨rfl, rfl⟩
  exact ⟨bI_nar _, xP hP ⟨rfl, rfl⟩⟩
/-- is it an element -/
theorem elK_cs (s : SS) (hn : s.n ≤ 500) (e : Int32) : (elK s e = none ∧ decide (0 ≤ e ∧ e ≤ nI s.n - 1) = false) ∨ ∃ k, k < s.n ∧ e = nI k ∧ elK s e = some k ∧ decide (0 ≤ e ∧ e ≤ nI s.n - 1) = true := by
  rcases pk_ix e (n := s.n) (by omega) with z | z | ⟨j, hj, rfl⟩
  · exact Or.inl ⟨elK_none (fun k hk y => by rw [y] at z; exact nI_neg (by omega) z), decide_eq_false (in_no (by omega) (Or.inl z))⟩
  · refine Or.inl ⟨elK_none (fun k hk y => ?_), decide_eq_false (in_no (by omega) (Or.inr z))⟩
    rw [y] at z
    have := (nI_leI (by omega) (by omega)).mp z
    omega
  · exact Or.inr ⟨j, hj, rfl, elK_some hn hj, decide_eq_true (in_lt hj (by omega))⟩
set_option maxRecDepth 20000 in
theorem c_element2 {A : AS} {e w : Int32} (hM : mok M) (R : mR S A) : xMet l D 2 y_Mo_element [.ref M.1, .int e, .int w] (mH h0 M S) 0 0 (fun o h' => ∃ S', h' = mH h0 M S' ∧ oM (aElement A e w) S' o ∧ mR S' A) := by
  obtain ⟨rT, rO, rF, rP, rS, -⟩ := id R
  have hn5 : A.S.n ≤ 500 := rS.2.2.2.2.2.1.1
  refine m_Mo_element (Nat.le_of_ble_eq_true rfl) fun X hl hD hP hA => ?_
  subst hl hD
  have bad : aElement A e w = none → xG X 18 [(0, .ref M.1)] [] (mH h0 M S) 0 0 := by
    intro ea
    rw [ea] at hP
    refine xgo [] 30 hA ?_
    refine xcV (mH_m _ _ _) (c_Mo_refuse) (by rfl) (by rfl) (by rfl) (Nat.zero_le _) (Nat.zero_le _) ?_
    rintro o h' ⟨rfl, rfl⟩
    exact xP hP ⟨_, rfl, ⟨rfl, _, rfl⟩, R.thr _⟩
  refine xgo [18] 60 hA ?_
  refine xcV (mH_m _ _ _) (c_isThere2 R) (by rfl) (by rfl) (by rfl) (Nat.zero_le _) (Nat.zero_le _) ?_
  rintro o h' ⟨rfl, rfl⟩
  rcases elK_cs A.S hn5 e with ⟨z1, z2⟩ | ⟨k, hk, rfl, z1, z2⟩
  · rw [z2]
    refine xt rfl ?_
    exact (bad (by unfold aElement; rw [z1]; rfl)).locs (by simp [lv_args])
  rw [z2]
  refine xf (by decide) ?_
  refine xcS (c_Mo_in) (by rfl) (by rfl) (by rfl) (Nat.zero_le _) (Nat.zero_le _) ?_
  rintro o h' ⟨rfl, rfl⟩
  have ea : aElement A (nI k) w = aEl A.S k w := by unfold aElement; rw [z1]; rfl
  obtain ⟨⟨⟨a1, a2, a3, a4, a5, a6⟩, b1, b2, b3, b4, b5, b6⟩, cc, dd⟩ := rS.2.2.1.1 k hk
  have fin : ∀ v : Int32, aEl A.S k w = some v → ∀ v', v' = v → X.P (.inl (some (.int v'))) (mH h0 M (s1 S 0 0)) := fun v e v' hv => by
    subst hv
    rw [ea, e] at hP
    exact xP hP ⟨_, rfl, ⟨rfl, rfl⟩, R.thr _⟩
  have k1 : k < 1000 := by omega
  refine xb (fun c => ?_) (fun c => ?_)
  rotate_left
  · have h := of_decide_eq_false ((bI_0 _).mp c)
    refine (bad ?_).locs (by simp [lv_args])
    rw [ea]
    unfold aEl
    rw [if_neg (fun z => h (by rw [z]; decide)), if_neg (fun z => h (by rw [z]; decide)), if_neg (fun z => h (by rw [z]; decide)), if_neg (fun z => h (by rw [z]; decide)), if_neg (fun z => h (by rw [z]; decide)), if_neg (fun z => h (by rw [z]; decide)), if_neg (fun z => h (by rw [z]; decide)), if_neg (fun z => h (by rw [z]; decide)), if_neg (fun z => h (by rw [z]; decide))]
  have h := of_decide_eq_true ((bI_n0 _).mp c)
  unfold aEl at fin
  refine yp (by rfl) ?_
  refine xb (fun c0 => ?_) (fun c0 => ?_)
  rotate_left
  · refine ya (by rfl) ?_
    refine yl (i := k) hM (by rfl) rfl k1 ?_
    exact fin _ (if_pos c0) _ a6
  rw [if_neg c0] at fin
  refine xb (fun c1 => ?_) (fun c1 => ?_)
  rotate_left
  · refine ya (by rfl) ?_
    refine yl (i := k) hM (by rfl) rfl k1 ?_
    exact fin _ (if_pos c1) _ a3
  rw [if_neg c1] at fin
  refine xb (fun c2 => ?_) (fun c2 => ?_)
  rotate_left
  · refine ya (by rfl) ?_
    refine yl (i := k) hM (by rfl) rfl k1 ?_
    exact fin _ (if_pos c2) _ a4
  rw [if_neg c2] at fin
  refine xb (fun c3 => ?_) (fun c3 => ?_)
  rotate_left
  · refine ya (by rfl) ?_
    refine yl (i := k) hM (by rfl) rfl k1 ?_
    exact fin _ (if_pos c3) _ a5
  rw [if_neg c3] at fin
  refine xb (fun c4 => ?_) (fun c4 => ?_)
  rotate_left
  · refine ya (by rfl) ?_
    refine yl (i := k) hM (by rfl) rfl k1 ?_
    exact fin _ (if_pos c4) _ b1
  rw [if_neg c4] at fin
  refine xb (fun c5 => ?_) (fun c5 => ?_)
  rotate_left
  · refine ya (by rfl) ?_
    refine yl (i := k) hM (by rfl) rfl k1 ?_
    exact fin _ (if_pos c5) _ b2
  rw [if_neg c5] at fin
  refine xb (fun c6 => ?_) (fun c6 => ?_)
  rotate_left
  · refine ya (by rfl) ?_
    refine ylz (i := k) hM (by rfl) rfl k1 ?_
    have b6' : (s1 S 0 0).2 25 k = bI (A.S.F 8 k == 0 && A.S.F 11 k == 0) := b6
    rw [b6']
    refine xb (fun c7 => ?_) (fun c7 => ?_)
    · exact fin _ (if_pos c6) _ c7.symm
    · refine fin _ (if_pos c6) _ ?_
      rw [(bI_n0 _).mp c7]; rfl
  rw [if_neg c6] at fin
  refine xb (fun c7 => ?_) (fun c7 => ?_)
  rotate_left
  · refine ya (by rfl) ?_
    refine yl (i := k) hM (by rfl) rfl k1 ?_
    exact fin _ (if_pos c7) _ b3
  rw [if_neg c7] at fin
  refine ya (by rfl) ?_
  refine yl (i := k) hM (by rfl) rfl k1 ?_
  have no : ¬ opn A.S.F A.S.op (k + 1) := by
    rw [rS.2.2.2.1]
    intro z
    have := z.zero
    omega
  refine fin _ (if_pos ?_) _ (cc no).1
  rcases pk_ix w (n := 9) (by omega) with z | z | ⟨j, hj, rfl⟩
  · exact absurd (Int32.lt_of_lt_of_le z h.1) Int32.lt_irrefl
  · exact absurd (Int32.le_trans z h.2) (by decide)
  · have : ∀ m : Nat, m < 9 → nI j = nI m → j = m := fun m hm y => (nI_eq (by omega) (by omega)).mp y
    have h8 : j = 8 := by
      have q0 : j ≠ 0 := fun z => c0 (by rw [z]; rfl)
      have q1 : j ≠ 1 := fun z => c1 (by rw [z]; rfl)
      have q2 : j ≠ 2 := fun z => c2 (by rw [z]; rfl)
      have q3 : j ≠ 3 := fun z => c3 (by rw [z]; rfl)
      have q4 : j ≠ 4 := fun z => c4 (by rw [z]; rfl)
      have q5 : j ≠ 5 := fun z => c5 (by rw [z]; rfl)
      have q6 : j ≠ 6 := fun z => c6 (by rw [z]; rfl)
      have q7 : j ≠ 7 := fun z => c7 (by rw [z]; rfl)
      omega
    rw [h8]; rfl
theorem flT_len : ∀ (rs : List RU) (n : Nat), ((((rs.zipIdx n).map (fun R => R.1.2.map (fun l => (l, R.2)))).flatten) : List (TD × Nat)).length = tcs rs
  | [], _ => rfl
  | R :: rs, n => by
    have := flT_len rs (n + 1)
    simp only [List.zipIdx_cons, List.map_cons, List.flatten_cons, List.length_append, List.length_map] at this ⊢
    rw [this]
    rfl
set_option maxRecDepth 20000 in
theorem c_count2 {A : AS} {w : Int32} (hM : mok M) (R : mR S A) (rA : AOk A) : xMet l D 1 y_Mo_count [.ref M.1, .int w] (mH h0 M S) 0 0 (fun o h' => ∃ S', h' = mH h0 M S' ∧ oM (aCount A w) S' o ∧ mR S' A) := by
  obtain ⟨rT, rO, rF, rP, rS, rY, rss⟩ := id R
  have yR := rY.2.2.2.1
  have hsl : A.ss.length ≤ 120 := rA.2.2.2.2.2.2.2.2.1
  have hss : (flS A.rs).length = A.ss.length := by rw [flS_len, rss]
  refine m_Mo_count (Nat.le_of_ble_eq_true rfl) fun X hl hD hP hA => ?_
  subst hl hD
  have bad : aCount A w = none → xG X 22 [(0, .ref M.1), (1, .int w)] [] (mH h0 M S) 0 0 := by
    intro ea
    rw [ea] at hP
    refine xgo [] 30 hA ?_
    refine xcV (mH_m _ _ _) (c_Mo_refuse) (by rfl) (by rfl) (by rfl) (Nat.zero_le _) (Nat.zero_le _) ?_
    rintro o h' ⟨rfl, rfl⟩
    exact xP hP ⟨_, rfl, ⟨rfl, _, rfl⟩, R.thr _⟩
  have fin : ∀ v : Int32, aCount A w = some v → ∀ v', v' = v → X.P (.inl (some (.int v'))) (mH h0 M (s1 S 0 0)) := fun v e v' hv => by
    subst hv
    rw [e] at hP
    exact xP hP ⟨_, rfl, ⟨rfl, rfl⟩, R.thr _⟩
  have go : ∀ j : Nat, w = nI j → (j ≤ 6 ∨ (10 ≤ j ∧ j < 130)) → xG X 28 [(0, .ref M.1), (1, .int w)] [] (mH h0 M S) 0 0 := by
    intro j hj hor
    have ne : ∀ m : Nat, m < 130 → j ≠ m → ¬ w = nI m := fun m hm hne z => hne ((nI_eq (by omega) (by omega)).mp (hj.symm.trans z))
    refine xgo [] 90 hA ?_
    refine yp (by rfl) ?_
    have cs : j = 0 ∨ j = 1 ∨ j = 2 ∨ j = 3 ∨ j = 4 ∨ j = 5 ∨ j = 6 ∨ (10 ≤ j ∧ j < 130) := by omega
    rcases cs with z | z | z | z | z | z | z | z
    · subst z hj
      refine xfn rfl ?_
      refine yg (by rfl) ?_
      exact fin _ rfl _ rT.1
    · subst z hj
      refine xtn (by decide) ?_
      refine xfn rfl ?_
      refine yg (by rfl) ?_
      exact fin _ rfl _ rO.1
    · subst z hj
      refine xtn (by decide) ?_
      refine xtn (by decide) ?_
      refine xfn rfl ?_
      refine yg (by rfl) ?_
      exact fin _ rfl _ (by rw [← hss]; exact yR.1)
    · subst z hj
      refine xtn (by decide) ?_
      refine xtn (by decide) ?_
      refine xtn (by decide) ?_
      refine xfn rfl ?_
      refine yg (by rfl) ?_
      exact fin _ rfl _ (by rw [← flT_len A.rs 0]; exact yR.2.1)
    · subst z hj
      refine xtn (by decide) ?_
      refine xtn (by decide) ?_
      refine xtn (by decide) ?_
      refine xtn (by decide) ?_
      refine xfn rfl ?_
      refine yg (by rfl) ?_
      exact fin _ rfl _ rS.1.1
    · subst z hj
      refine xtn (by decide) ?_
      refine xtn (by decide) ?_
      refine xtn (by decide) ?_
      refine xtn (by decide) ?_
      refine xtn (by decide) ?_
      refine xfn rfl ?_
      refine yg (by rfl) ?_
      exact fin _ rfl _ rF.1
    · subst z hj
      refine xtn (by decide) ?_
      refine xtn (by decide) ?_
      refine xtn (by decide) ?_
      refine xtn (by decide) ?_
      refine xtn (by decide) ?_
      refine xtn (by decide) ?_
      refine xfn rfl ?_
      refine yg (by rfl) ?_
      exact fin _ rfl _ rF.2.2
    · have e10 : w - 10 = nI (j - 10) := by rw [hj]; exact nI_sub (b := 10) (by omega)
      have ea : aCount A w = some (if j - 10 < A.ss.length then nI (wgt (A.ss.getD (j - 10) [])) else -1) := by
        unfold aCount
        rw [if_pos (by rw [hj]; exact ⟨(nI_leI (a := 10) (by decide) (by omega)).mpr z.1, (nI_ltI (b := 130) (by omega) (by decide)).mpr z.2⟩), e10, nI_clamp (by omega)]
      refine xtn (ne 0 (by decide) (by omega)) ?_
      refine xtn (ne 1 (by decide) (by omega)) ?_
      refine xtn (ne 2 (by decide) (by omega)) ?_
      refine xtn (ne 3 (by decide) (by omega)) ?_
      refine xtn (ne 4 (by decide) (by omega)) ?_
      refine xtn (ne 5 (by decide) (by omega)) ?_
      refine xtn (ne 6 (by decide) (by omega)) ?_
      refine yg (by rfl) ?_
      have y1 : (s1 S 0 0).1 50 = nI A.ss.length := by rw [← hss]; exact yR.1
      rw [y1]
      by_cases y : j - 10 < A.ss.length
      · refine xf (fun q => by
          rw [e10] at q
          have := (nI_leI (a := A.ss.length) (b := j - 10) (by omega) (by omega)).mp q
          omega) ?_
        refine ya (by rfl) ?_
        refine yl (i := j - 10) hM (by rfl) e10 (by show j - 10 < 123; omega) ?_
        rw [if_pos y] at ea
        refine fin _ ea _ ?_
        obtain ⟨k, n, -, -, -, -, bs⟩ := yR.2.2.2.1
        have hy : j - 10 < (flS A.rs).length := by omega
        obtain ⟨-, -, f, W, -⟩ := bs (j - 10) _ (List.getElem?_eq_getElem hy)
        have e : A.ss.getD (j - 10) [] = ((flS A.rs)[j - 10]).1 := by
          have h1 : A.ss[j - 10]? = some ((flS A.rs)[j - 10]).1 := by rw [rss, ← flS_ss, List.getElem?_map, List.getElem?_eq_getElem hy]; rfl
          rw [List.getD_eq_getElem?_getD, h1]; rfl
        rw [e]
        exact W.2.2.1
      · refine xt (by rw [e10]; exact nI_le (by omega) (by omega)) ?_
        rw [if_neg y] at ea
        exact fin _ ea _ rfl
  refine xgo [22, 28] 60 hA ?_
  refine xcS (c_Mo_in) (by rfl) (by rfl) (by rfl) (Nat.zero_le _) (Nat.zero_le _) ?_
  rintro o h' ⟨rfl, rfl⟩
  refine xb (fun c => ?_) (fun c => ?_)
  · have h := of_decide_eq_true ((bI_n0 _).mp c)
    rcases pk_ix w (n := 7) (by omega) with z | z | ⟨j, hj, hw⟩
    · exact absurd (Int32.lt_of_lt_of_le z h.1) Int32.lt_irrefl
    · exact absurd (Int32.le_trans z h.2) (by decide)
    · exact go j hw (Or.inl (by omega))
  have h1 := of_decide_eq_false ((bI_0 _).mp c)
  refine xcS (c_Mo_in) (by rfl) (by rfl) (by rfl) (Nat.zero_le _) (Nat.zero_le _) ?_
  rintro o h' ⟨rfl, rfl⟩
  refine xb (fun c => ?_) (fun c => ?_)
  · have h := of_decide_eq_true ((bI_n0 _).mp c)
    rcases pk_ix w (n := 130) (by omega) with z | z | ⟨j, hj, hw⟩
    · exact absurd (Int32.lt_of_lt_of_le z (Int32.le_trans (by decide) h.1)) Int32.lt_irrefl
    · exact absurd (Int32.le_trans z h.2) (by decide)
    · refine go j hw (Or.inr ⟨?_, hj⟩)
      rw [hw] at h
      exact (nI_leI (a := 10) (by decide) (by omega)).mp h.1
  · have h2 := of_decide_eq_false ((bI_0 _).mp c)
    refine bad ?_
    unfold aCount
    rw [if_neg (fun z => h2 ⟨z.1, by
      rcases pk_ix w (n := 130) (by omega) with y | y | ⟨j, hj, hw⟩
      · exact Int32.le_of_lt (Int32.lt_trans y (by decide))
      · exact absurd (Int32.lt_of_le_of_lt y z.2) (by decide)
      · rw [hw]; exact (nI_leI (b := 129) (by omega) (by decide)).mpr (by omega)⟩), if_neg (fun z => h1 (by rw [z]; decide)), if_neg (fun z => h1 (by rw [z]; decide)), if_neg (fun z => h1 (by rw [z]; decide)), if_neg (fun z => h1 (by rw [z]; decide)), if_neg (fun z => h1 (by rw [z]; decide)), if_neg (fun z => h1 (by rw [z]; decide)), if_neg (fun z => h1 (by rw [z]; decide))]
end
