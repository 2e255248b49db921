/-! THE REFERENCE, 17: begins of elements -/
theorem nBefS_le {t : List Nat} {s : SS} (I : SI t s) : nBef s ≤ s.n := by
  have hop : s.op ≤ s.n := I.2.2.1
  unfold nBef
  split
  · exact I.1.2.1
  · exact (I.1.2.2.2.2 (s.op - 1) (by show s.op - 1 < s.n; omega)).2.2.2.2.2.1.1
theorem nDep_le {t : List Nat} {s : SS} (I : SI t s) : nDep s ≤ 20 := by
  have hop : s.op ≤ s.n := I.2.2.1
  unfold nDep
  split
  · decide
  · exact (I.1.2.2.2.2 (s.op - 1) (by show s.op - 1 < s.n; omega)).1.2.2
theorem SoR.new {S S' : MS} {t : List Nat} {s : SS} {p j : Nat} {a : Nat × Nat} (H : SoR S t s p) (I : SI t s) (hj : j ≤ t.length)
    (g : gF [11, 38, 39, 40] (fun k i => (12 ≤ k ∧ k ≤ 25 ∧ i = s.n) ∨ (s.op ≠ 0 ∧ (k = 16 ∨ k = 24 ∨ k = 25) ∧ i = s.op - 1)) S S')
    (hN : (S'.2 12 s.n = nI a.1 ∧ S'.2 13 s.n = nI a.2 ∧ S'.2 14 s.n = mI s.op ∧ S'.2 15 s.n = mI (nBef s) ∧ S'.2 16 s.n = 0 ∧ S'.2 17 s.n = nI (nNum s)) ∧ S'.2 18 s.n = nI (nDep s) ∧ S'.2 19 s.n = 0 ∧ S'.2 20 s.n = nI p ∧ S'.2 22 s.n = nI s.ps.length ∧ S'.2 24 s.n = -1 ∧ S'.2 25 s.n = 1)
    (hQ : s.op ≠ 0 → S'.2 16 (s.op - 1) = nI (nNum s) ∧ S'.2 24 (s.op - 1) = nI s.n ∧ S'.2 25 (s.op - 1) = 0)
    (h1 : S'.1 11 = nI (s.n + 1)) (h2 : S'.1 38 = nI j) (h3 : S'.1 39 = nI (if s.op = 0 then s.tm + 1 else s.tm)) (h4 : S'.1 40 = mI (if s.op = 0 then s.n + 1 else s.tl)) : SoR S' t (opnE (addE s a p []) (s.n + 1)) j := by
  obtain ⟨g1, g2, g3, g4, g5, g6, g7⟩ := H
  have hop : s.op ≤ s.n := I.2.2.1
  have hbf := nBefS_le I
  have hpq : (opnE (addE s a p []) (s.n + 1)).tm = (if s.op = 0 then s.tm + 1 else s.tm) ∧ (opnE (addE s a p []) (s.n + 1)).tl = (if s.op = 0 then s.n + 1 else s.tl) := by
    unfold opnE addE
    constructor
    · show (if s.op = 0 then (s.tm + 1, s.n + 1) else (s.tm, s.tl)).1 = _
      split <;> rfl
    · show (if s.op = 0 then (s.tm + 1, s.n + 1) else (s.tm, s.tl)).2 = _
      split <;> rfl
  refine ⟨g1.gf g (by decide) (fun i _ _ => by omega), ⟨by rw [g.1 6 (by decide)]; exact g2.1, h2, hj⟩, ⟨h1, by rw [g.1 32 (by decide)]; exact g3.2.1, by rw [g.1 37 (by decide)]; exact g3.2.2.1, by rw [hpq.1]; exact h3, by rw [hpq.2]; exact h4⟩, fun k hk => ?_, g5.eq (fun j i _ _ _ => g.2 j i (by omega)), g6.eq (fun j i _ _ _ => g.2 j i (by omega)), g7⟩
  have hk' : k < s.n + 1 := hk
  have hF : (opnE (addE s a p []) (s.n + 1)).F = nF3 s a p := rfl
  have hfd : (opnE (addE s a p []) (s.n + 1)).fd k = if k = s.n then [] else s.fd k := rfl
  have hoo : (opnE (addE s a p []) (s.n + 1)).op = s.n + 1 := rfl
  unfold elM
  rw [hF, hfd, hoo]
  by_cases z : k = s.n
  · subst z
    obtain ⟨⟨a1, a2, a3, a4, a5, a6⟩, b1, b2, b3, b4, b5, b6⟩ := hN
    rw [if_pos rfl]
    have hn := fun f => nF3_new s a p f hop hbf
    simp only [hn]
    refine ⟨⟨⟨a1, a2, a3, a4, by rw [a5]; rfl, a6⟩, b1, by rw [b2]; rfl, b3, b4, by rw [b5]; rfl, by rw [b6]; rfl⟩, fun no => absurd ⟨0, rfl⟩ no, fun i q hq => by cases hq⟩
  · rw [if_neg z]
    have hkn : k < s.n := by omega
    obtain ⟨⟨⟨a1, a2, a3, a4, a5, a6⟩, b1, b2, b3, b4, b5, b6⟩, c, d⟩ := g4 k hkn
    have ho : ∀ f, f ≠ 8 → f ≠ 9 → f ≠ 10 → nF3 s a p f k = s.F f k := fun f h8 h9 h10 => by
      rw [nF3_old s a p f z, if_neg (fun y => h10 y.1), if_neg (fun y => h9 y.1), if_neg (fun y => h8 y.1)]
    have o8 : nF3 s a p 8 k = if s.op ≠ 0 ∧ k = s.op - 1 then nNum s else s.F 8 k := by
      rw [nF3_old s a p 8 z, if_neg (fun y => by cases y.1), if_neg (fun y => by cases y.1)]
      simp
    have o9 : nF3 s a p 9 k = if s.op ≠ 0 ∧ k = s.op - 1 then s.n + 1 else s.F 9 k := by
      rw [nF3_old s a p 9 z, if_neg (fun y => by cases y.1)]
      simp
    rw [ho 0 (by decide) (by decide) (by decide), ho 1 (by decide) (by decide) (by decide), ho 2 (by decide) (by decide) (by decide), ho 3 (by decide) (by decide) (by decide), ho 4 (by decide) (by decide) (by decide), ho 5 (by decide) (by decide) (by decide), ho 6 (by decide) (by decide) (by decide), ho 13 (by decide) (by decide) (by decide), ho 11 (by decide) (by decide) (by decide), ho 12 (by decide) (by decide) (by decide), ho 14 (by decide) (by decide) (by decide), o8, o9]
    refine ⟨⟨⟨?_, ?_, ?_, ?_, ?_, ?_⟩, ?_, ?_, ?_, ?_, ?_, ?_⟩, ?_, ?_⟩
    · rw [g.2 12 k (by omega)]; exact a1
    · rw [g.2 13 k (by omega)]; exact a2
    · rw [g.2 14 k (by omega)]; exact a3
    · rw [g.2 15 k (by omega)]; exact a4
    · by_cases y : s.op ≠ 0 ∧ k = s.op - 1
      · rw [if_pos y, y.2]; exact (hQ y.1).1
      · rw [if_neg y, g.2 16 k (by omega)]; exact a5
    · rw [g.2 17 k (by omega)]; exact a6
    · rw [g.2 18 k (by omega)]; exact b1
    · rw [g.2 19 k (by omega)]; exact b2
    · rw [g.2 20 k (by omega)]; exact b3
    · rw [g.2 22 k (by omega)]; exact b4
    · by_cases y : s.op ≠ 0 ∧ k = s.op - 1
      · rw [if_pos y, y.2, (hQ y.1).2.1]; rfl
      · rw [if_neg y, g.2 24 k (by omega)]; exact b5
    · by_cases y : s.op ≠ 0 ∧ k = s.op - 1
      · rw [if_pos y]
        have : nNum s ≠ 0 := by unfold nNum; rw [if_neg y.1]; omega
        rw [beq_eq_false_iff_ne.mpr this, y.2, (hQ y.1).2.2]; rfl
      · rw [if_neg y, g.2 25 k (by omega)]; exact b6
    · intro no
      rw [g.2 21 k (by omega), g.2 23 k (by omega)]
      refine c fun op => no ?_
      have e2 : nF3 s a p 2 s.n = s.op := by rw [nF3_new s a p 2 hop hbf]; rfl
      refine opn.up (x := s.n + 1) (by omega) ?_
      rw [Nat.add_sub_cancel, e2]
      exact op.congr (n := s.n) I.f2 (fun i hi => by rw [nF3_old s a p 2 (by omega), if_neg (fun y => by cases y.1), if_neg (fun y => by cases y.1), if_neg (fun y => by cases y.1)]) hop
    · intro i q hq
      rw [g.2 26 _ (by omega), g.2 27 _ (by omega), g.2 28 _ (by omega), g.2 29 _ (by omega)]
      exact d i q hq
theorem adF_addE (s : SS) (a : Nat × Nat) (p : Nat) (fs : List PR) (q : PR) : adF (opnE (addE s a p fs) (s.n + 1)) q = opnE (addE s a p (fs ++ [q])) (s.n + 1) := by
  unfold adF opnE addE
  have : (fun i => if i = s.n + 1 - 1 then (if i = s.n then fs else s.fd i) ++ [q] else (if i = s.n then fs else s.fd i)) = fun i => if i = s.n then fs ++ [q] else s.fd i := by
    funext i
    rw [Nat.add_sub_cancel]
    by_cases z : i = s.n
    · rw [if_pos z, if_pos z, if_pos z]
    · rw [if_neg z, if_neg z, if_neg z]
  simp only [SS.n, SS.F, SS.fd, SS.tm, SS.tl, SS.ps, SS.pc, SS.en] at this ⊢
  rw [this]
theorem fld1_no {t : List Nat} {q : Nat} {fs : List PR} (h : ¬ sm (ch t q) = true) : fld1 t q fs = .error q := by
  rw [fld1, pB_er]
  rw [pName, if_neg (fun z => h z.1)]
theorem fld1_6 {t : List Nat} {q : Nat} {fs : List PR} (h : fs.length = 6) : fld1 t q fs = .error q := by
  unfold fld1
  cases e : pName t q with
  | error w =>
    unfold pName at e
    split at e
    · cases e
    · cases e; rfl
  | ok x => show (if _ then _ else _) = _; rw [if_neg (by omega)]
theorem sFld_no {t : List Nat} {m j : Nat} {fs : List PR} (h : ¬ sm (ch t (scan bl t j)) = true) : sFld t m j fs = .ok (fs, scan bl t j) := by
  have h' : sm (ch t (scan bl t j)) = false := by simpa using h
  cases m with
  | zero => rw [sFld, if_pos h']
  | succ m => rw [sFld, if_pos h']
theorem sFld_st {t : List Nat} {m j : Nat} {fs : List PR} (h : sm (ch t (scan bl t j)) = true) (hs : scan bl t j = j) : sFld t m j fs = .error (scan bl t j) := by
  have h' : ¬ sm (ch t (scan bl t j)) = false := by rw [h]; decide
  cases m with
  | zero => rw [sFld, if_neg h']
  | succ m => rw [sFld, if_neg h', if_pos hs]
theorem sFld_go {t : List Nat} {m j : Nat} {fs : List PR} (h : sm (ch t (scan bl t j)) = true) (hs : ¬ scan bl t j = j) (hm : fs.length + m = 6) : sFld t m j fs = (pB (fld1 t (scan bl t j) fs) fun x j3 => sFld t (m - 1) j3 (fs ++ [x])) := by
  have h' : ¬ sm (ch t (scan bl t j)) = false := by rw [h]; decide
  cases m with
  | zero => rw [sFld, if_neg h', pB_er (fld1_6 (by omega))]
  | succ m =>
    rw [sFld, if_neg h', if_neg hs, fld1, Nat.add_sub_cancel]
    cases e : pName t (scan bl t j) with
    | error w => rfl
    | ok x =>
      obtain ⟨a, j1⟩ := x
      show (if _ then _ else _) = pB (if _ then _ else _) _
      by_cases y : fs.all (fun q => !decide (sub t q.1 = sub t a)) = true
      · rw [if_pos y, if_pos ⟨by omega, y⟩]
        cases e1 : pSig 61 t j1 with
        | error w => rfl
        | ok x1 =>
          obtain ⟨u, j2⟩ := x1
          cases e2 : pStr t (scan bl t j2) with
          | error w => simp [pB, e2]
          | ok x2 => simp [pB, e2]
      · rw [if_neg y, if_neg (fun z => y z.2)]; rfl
section
variable {l : Launch} {D : xD} {h0 : xH} {M : MA} {S : MS}
set_option maxRecDepth 20000 in
theorem c_opened2 {p : Nat} {t : List Nat} {s : SS} (hM : mok M) (R : SoR S t s p) (I : SI t s) (hlt : p < t.length) : xMet l D 3 y_Mo_opened [.ref M.1, .int (mI s.op)] (mH h0 M S) 0 0 (fun o h' => ∃ S' v, h' = mH h0 M S' ∧ o = .inl (some (.int v)) ∧ gF soL soP S S' ∧ soRes S' t s (sBeg t p (p + 1) s) ∧ ∀ q, sBeg t p (p + 1) s = .ok q → v = mI q.1.op) := by
  obtain ⟨T, ⟨hf, h38, hp⟩, ⟨h11, h32, h37, h39, h40⟩, hel, hpsM, hen, hel40⟩ := id R
  have hB := T.2.2.2.2.2
  have hl := T.2.2.2.2.1
  have hopn : s.op ≤ s.n := I.2.2.1
  have hn5 : s.n ≤ 500 := I.1.1
  have hdp := nDep_le I
  refine m_Mo_opened (Nat.le_of_ble_eq_true rfl) fun X hl hD hP hA => ?_
  subst hl hD
  refine xgo [44] 60 hA ?_
  refine yg (by rfl) ?_
  rw [h11]
  refine yg (by rfl) ?_
  rw [h38]
  refine xcV (mH_m _ _ _) (c_nameF (k := p + 1) (nI_1 p) hM T hf (by omega)) (by rfl) (by rfl) (by rfl) (Nat.zero_le _) (Nat.zero_le _) ?_
  rintro o h' (⟨v, rfl, eN, rfl⟩ | ⟨a, j, eN, rfl, rfl⟩)
  · refine yg (by rfl) ?_
    rw [s1_eq]
    refine xf (nI_neg (by omega)) ?_
    have e : sBeg t p (p + 1) s = .error (p + 1) := by rw [sBeg, pB_er eN]
    exact xP hP ⟨_, _, rfl, rfl, (gF.refl _ _ _).p (by decide), soRes.er T e (by omega) rfl, fun q hq => by rw [e] at hq; cases hq⟩
  obtain ⟨n1, n2, n3, n4, n5, n6, n7⟩ := pName_sub eN
  have hal : a.1 + a.2 ≤ t.length := by omega
  refine yg (by rfl) ?_
  rw [hf]
  refine xt (by decide) ?_
  have eB : sBeg t p (p + 1) s = (if 500 ≤ s.n ∨ 20 ≤ nDep s then .error (p + 1) else pB (sFld t 6 j []) fun fs k => sBeg2 t k (addE s a p fs)) := by rw [sBeg, pB_ok eN]
  have hk1 : nI p + 1 = nI (p + 1) := nI_1 p
  -- an element under way
  have loop : s.n < 500 → nDep s < 20 → ∀ (m : Nat) (fs : List PR) (x : Nat) (S1 : MS), fs.length + m = 6 → sFld t 6 j [] = sFld t m x fs → gF soL soP S S1 → SoR S1 t (opnE (addE s a p fs) (s.n + 1)) x → ∀ ls, (∀ q ∈ [(2, Value.int (nI s.n)), (0, .ref M.1), (1, .int (mI s.op))], q ∈ ls) → xG X 253 ls [] (mH h0 M S1) 0 0 := by
    intro hn hd
    rw [if_neg (by omega)] at eB
    have step : ∀ (m : Nat), (∀ (fs : List PR) (x : Nat) (S1 : MS), m ≠ 0 → fs.length + (m - 1) = 6 → sFld t 6 j [] = sFld t (m - 1) x fs → gF soL soP S S1 → SoR S1 t (opnE (addE s a p fs) (s.n + 1)) x → ∀ ls, (∀ q ∈ [(2, Value.int (nI s.n)), (0, .ref M.1), (1, .int (mI s.op))], q ∈ ls) → xG X 253 ls [] (mH h0 M S1) 0 0) → ∀ (fs : List PR) (x : Nat) (S1 : MS), fs.length + m = 6 → sFld t 6 j [] = sFld t m x fs → gF soL soP S S1 → SoR S1 t (opnE (addE s a p fs) (s.n + 1)) x → ∀ ls, (∀ q ∈ [(2, Value.int (nI s.n)), (0, .ref M.1), (1, .int (mI s.op))], q ∈ ls) → xG X 253 ls [] (mH h0 M S1) 0 0 := by
      intro m ih fs x S1 hm6 eS g R1 ls hls
      refine xG.locs ?_ hls
      obtain ⟨T1, ⟨hf1, h381, hx⟩, ⟨h111, h321, h371, h391, h401⟩, hel1, hpsM1, hen1, hel401⟩ := id R1
      have T1' : ∀ v : Int32, tx (s1 S1 38 v) 0 t := fun v => T1.p (by decide) (by decide)
      obtain ⟨q, hq⟩ : ∃ q, q = scan bl t x := ⟨_, rfl⟩
      have hql : q ≤ t.length := by rw [hq]; exact scan_le hx
      have hcq : ch t q ≤ 256 := hB.le q
      have hqq : scan bl t q = q := by rw [hq, scan_scan]
      refine xgo [253, 306, 375] 90 hA ?_
      refine yg (by rfl) ?_
      rw [hf1]
      refine xf (by decide) ?_
      refine yg (by rfl) ?_
      rw [h381]
      refine xcV (mH_m _ _ _) (c_blanks2 (p := x) hM T1 h381 (by omega)) (by rfl) (by rfl) (by rfl) (Nat.zero_le _) (Nat.zero_le _) ?_
      rintro o h' ⟨rfl, rfl⟩
      rw [← hq]
      refine yg (by rfl) ?_
      rw [s1_eq]
      refine xcV (mH_m _ _ _) (c_Mo_byteAt (k := q) hM (T1' _) (by omega)) (by rfl) (by rfl) (by rfl) (Nat.zero_le _) (Nat.zero_le _) ?_
      rintro o h' ⟨rfl, rfl⟩
      have R2 := R1.mv hql
      have g2 : ∀ v, gF soL soP S (s1 S1 38 v) := fun v => g.p (by decide)
      refine xb (fun c => ?_) (fun c => ?_)
      rotate_left
      · -- it is open
        have c1 := (cI_lit (k := 62) hcq (by decide)).mp c
        have hqlt := ch_lt c1 (by decide)
        refine yg (by rfl) ?_
        rw [s1_eq]
        refine yp (by rfl) ?_
        rw [s1_s1, nI_1]
        have eR : sBeg t p (p + 1) s = .ok (opnE (addE s a p fs) (s.n + 1), q + 1) := by
          rw [eB, eS, pB_ok (sFld_no (by rw [← hq, c1]; decide)), ← hq, sBeg2, hqq, if_neg (by rw [c1]; decide), pB_ok (a := ()) (i := q + 1)]
          · rfl
          · rw [pSig, hqq, pExp, if_pos c1]
        refine xP hP ⟨_, _, rfl, rfl, g2 _, ?_, ?_⟩
        · rw [eR]
          exact ⟨R1.mv hqlt, Nat.le_succ _⟩
        · intro q' hq'
          rw [eR] at hq'
          cases hq'
          rfl
      have c1 : ¬ ch t q = 62 := fun z => c ((cI_lit (k := 62) hcq (by decide)).mpr z)
      refine xb (fun c => ?_) (fun c => ?_)
      rotate_left
      · -- it is closed at once
        have c2 := (cI_lit (k := 47) hcq (by decide)).mp c
        have hqlt := ch_lt c2 (by decide)
        obtain ⟨q2, hq2⟩ : ∃ q2, q2 = scan bl t (q + 1) := ⟨_, rfl⟩
        have hql2 : q2 ≤ t.length := by rw [hq2]; exact scan_le hqlt
        have hcq2 : ch t q2 ≤ 256 := hB.le q2
        have eR0 : sBeg t p (p + 1) s = (pB (pSig 62 t (q + 1)) fun _ m => .ok (finE (addE s a p fs) s.n m, m)) := by
          rw [eB, eS, pB_ok (sFld_no (by rw [← hq, c2]; decide)), ← hq, sBeg2, hqq, if_pos c2]
          rfl
        show xG X 306 _ [] _ _ _
        refine xgo [] 90 hA ?_
        refine yg (by rfl) ?_
        rw [s1_eq]
        refine yp (by rfl) ?_
        rw [s1_s1, nI_1]
        refine xcV (mH_m _ _ _) (c_blanks2 (p := q + 1) hM (T1' _) (s1_eq _ _ _) (by omega)) (by rfl) (by rfl) (by rfl) (Nat.zero_le _) (Nat.zero_le _) ?_
        rintro o h' ⟨rfl, rfl⟩
        rw [s1_s1, ← hq2]
        refine yg (by rfl) ?_
        rw [s1_eq]
        refine xcV (mH_m _ _ _) (c_Mo_byteAt (k := q2) hM (T1' _) (by omega)) (by rfl) (by rfl) (by rfl) (Nat.zero_le _) (Nat.zero_le _) ?_
        rintro o h' ⟨rfl, rfl⟩
        refine xb (fun c => ?_) (fun c => ?_)
        rotate_left
        · have c3 : ¬ ch t q2 = 62 := fun z => c ((cI_lit (k := 62) hcq2 (by decide)).mpr z)
          refine yg (by rfl) ?_
          rw [s1_eq]
          refine xcV (mH_m _ _ _) (c_Mo_wrong hf1) (by rfl) (by rfl) (by rfl) (Nat.zero_le _) (Nat.zero_le _) ?_
          rintro o h' ⟨rfl, rfl⟩
          have e : sBeg t p (p + 1) s = .error q2 := by rw [eR0, pB_er]; rw [pSig, ← hq2, pExp, if_neg c3]
          exact xP hP ⟨_, _, rfl, rfl, (g2 _).p (by decide), soRes.er (T1' _) e (by omega) rfl, fun q hq => by rw [e] at hq; cases hq⟩
        have c3 := (cI_lit (k := 62) hcq2 (by decide)).mp c
        have hqlt2 := ch_lt c3 (by decide)
        have eR : sBeg t p (p + 1) s = .ok (finE (addE s a p fs) s.n (q2 + 1), q2 + 1) := by rw [eR0, pB_ok (a := ()) (i := q2 + 1)]; rw [pSig, ← hq2, pExp, if_pos c3]
        refine yg (by rfl) ?_
        rw [s1_eq]
        refine yp (by rfl) ?_
        rw [s1_s1, nI_1]
        refine ya (by rfl) ?_
        refine yg (by rfl) ?_
        refine ys (i := s.n) hM (by rfl) rfl (by show s.n < 1000; omega) ?_
        refine ya (by rfl) ?_
        refine yg (by rfl) ?_
        refine ys (i := s.n) hM (by rfl) rfl (by show s.n < 1000; omega) ?_
        refine xP hP ⟨_, _, rfl, rfl, ?_, ?_, ?_⟩
        · refine (((g2 _)).s ?_).s ?_
          all_goals unfold soP; omega
        · rw [eR]
          refine ⟨R1.fin (e := s.n) (j := q2 + 1) (op' := s.op) hqlt2 ?_ ?_, Nat.le_succ _⟩
          · show _ = s2 (s2 (s1 S1 38 (nI (q2 + 1))) 23 s.n (nI s.ps.length)) 21 s.n (nI (q2 + 1))
            have h32' : S1.1 32 = nI s.ps.length := h321
            rw [← h32']; rfl
          · intro k hk hke no op
            have e2 : nF3 s a p 2 s.n = s.op := by rw [nF3_new s a p 2 hopn (nBefS_le I)]; rfl
            rcases opn.cs (x := s.n + 1) (by omega) op with y | y
            · exact hke (by omega)
            · rw [Nat.add_sub_cancel] at y
              change opn (nF3 s a p) (nF3 s a p 2 s.n) (k + 1) at y
              rw [e2] at y
              exact no y
        · intro q' hq'
          rw [eR] at hq'
          cases hq'
          rfl
      have c2 : ¬ ch t q = 47 := fun z => c ((cI_lit (k := 47) hcq (by decide)).mpr z)
      have noR : ¬ sm (ch t q) = true → sBeg t p (p + 1) s = .error q := by
        intro hs
        rw [eB, eS, pB_ok (sFld_no (by rw [← hq]; exact hs)), ← hq, sBeg2, hqq, if_neg c2, pB_er]
        rw [pSig, hqq, pExp, if_neg c1]
      show xG X 375 [(7, .int (cI (ch t q))), (6, .int (nI x)), (2, .int (nI s.n)), (0, .ref M.1), (1, .int (mI s.op))] [] (mH h0 M (s1 S1 38 (nI q))) _ _
      refine xgo [253] 60 hA ?_
      refine yg (by rfl) ?_
      rw [s1_eq]
      refine xb (fun c => ?_) (fun c => ?_)
      rotate_left
      · have c3 : q = x := (nI_eq (by omega) (by omega)).mp c
        refine yg (by rfl) ?_
        rw [s1_eq]
        refine xcV (mH_m _ _ _) (c_Mo_wrong hf1) (by rfl) (by rfl) (by rfl) (Nat.zero_le _) (Nat.zero_le _) ?_
        rintro o h' ⟨rfl, rfl⟩
        have e : sBeg t p (p + 1) s = .error q := by
          by_cases hs : sm (ch t q) = true
          · rw [eB, eS, pB_er (sFld_st (by rw [← hq]; exact hs) (by rw [← hq]; exact c3)), ← hq]
          · exact noR hs
        exact xP hP ⟨_, _, rfl, rfl, (g2 _).p (by decide), soRes.er (T1' _) e (by omega) rfl, fun q hq => by rw [e] at hq; cases hq⟩
      have c3 : ¬ q = x := fun z => c (by rw [z])
      have hfd : ∀ k, k < s.n + 1 → ((opnE (addE s a p fs) (s.n + 1)).fd k).length ≤ 6 := by
        intro k hk
        show (if k = s.n then fs else s.fd k).length ≤ 6
        split
        · omega
        · exact (I.2.1 k (by omega)).1
      have hfn : (opnE (addE s a p fs) (s.n + 1)).fd s.n = fs := if_pos rfl
      refine xcV (mH_m _ _ _) (c_field2 (e := s.n) hM R2 rfl (by show s.n + 1 ≤ 500; omega) hfd) (by rfl) (by rfl) (by rfl) (Nat.zero_le _) (Nat.zero_le _) ?_
      rintro o h' ⟨S3, rfl, rfl, g3, r3⟩
      rw [hfn] at r3
      have gg3 := (g2 _).tr g3 (by simp) (fun _ _ z => z)
      cases hF : fld1 t q fs with
      | error w =>
        rw [hF] at r3
        obtain ⟨r1, r2, r4⟩ := r3
        have e : sBeg t p (p + 1) s = .error w := by
          by_cases hs : sm (ch t q) = true
          · rw [eB, eS, pB_er (w := w)]
            rw [sFld_go (by rw [← hq]; exact hs) (by rw [← hq]; exact c3) hm6, ← hq, pB_er hF]
          · rw [fld1_no hs] at hF
            cases hF
            exact noR hs
        show xG X 253 _ [] _ _ _
        refine xgo [] 30 hA ?_
        refine yg (by rfl) ?_
        refine xt (by rw [r2]; exact nI_pos' (by omega)) ?_
        refine xP hP ⟨_, _, rfl, rfl, gg3, ?_, fun q hq => by rw [e] at hq; cases hq⟩
        rw [e]
        exact ⟨r1, r2, r4⟩
      | ok y =>
        obtain ⟨y, j3⟩ := y
        rw [hF] at r3
        have hs : sm (ch t q) = true := by
          refine Classical.byContradiction fun z => ?_
          rw [fld1_no z] at hF
          cases hF
        have hm0 : m ≠ 0 := by
          intro z
          rw [fld1_6 (by omega)] at hF
          cases hF
        refine ih (fs ++ [y]) j3 S3 hm0 (by rw [List.length_append, List.length_singleton]; omega) ?_ gg3 ?_ _ (by simp)
        · rw [eS, sFld_go (by rw [← hq]; exact hs) (by rw [← hq]; exact c3) hm6, ← hq, pB_ok hF]
        · rw [← adF_addE]; exact r3
    intro m
    induction m with
    | zero => exact step 0 (fun fs x S1 z => absurd rfl z)
    | succ m ihm => exact step (m + 1) (fun fs x S1 _ => by rw [Nat.add_sub_cancel]; exact ihm fs x S1)
  have k44 : xG X 44 [(4, .int (nI j)), (3, .int (nI p + 1)), (2, .int (nI s.n)), (0, .ref M.1), (1, .int (mI s.op))] [.int (nI (nDep s))] (mH h0 M S) 0 0 := by
    refine xgo [60, 67] 30 hA ?_
    have k60 : (500 ≤ s.n ∨ 20 ≤ nDep s) → ∀ v5 : Int32, xG X 60 [(5, .int v5), (4, .int (nI j)), (3, .int (nI p + 1)), (2, .int (nI s.n)), (0, .ref M.1), (1, .int (mI s.op))] [] (mH h0 M S) 0 0 := by
      intro hor v5
      refine xgo [] 30 hA ?_
      refine xcV (mH_m _ _ _) (c_Mo_wrong hf) (by rfl) (by rfl) (by rfl) (Nat.zero_le _) (Nat.zero_le _) ?_
      rintro o h' ⟨rfl, rfl⟩
      have e : sBeg t p (p + 1) s = .error (p + 1) := by rw [eB, if_pos hor]
      exact xP hP ⟨_, _, rfl, rfl, (gF.refl _ _ _).p (by decide), soRes.er T e (by omega) (by rw [hk1]), fun q hq => by rw [e] at hq; cases hq⟩
    refine xb (fun c => ?_) (fun c => ?_)
    · exact k60 (Or.inl (Nat.le_of_eq ((nI_eq (b := 500) (by omega) (by decide)).mp c).symm)) _
    have hn : s.n < 500 := by
      have : ¬ s.n = 500 := fun z => c (by rw [z]; rfl)
      omega
    refine xb (fun c2 => ?_) (fun c2 => ?_)
    rotate_left
    · exact k60 (Or.inr (Nat.le_of_eq ((nI_eq (b := 20) (by omega) (by decide)).mp c2).symm)) _
    have hd : nDep s < 20 := by
      have : ¬ nDep s = 20 := fun z => c2 (by rw [z]; rfl)
      omega
    show xG X 67 [(5, .int (nI (nDep s))), (4, .int (nI j)), (3, .int (nI p + 1)), (2, .int (nI s.n)), (0, .ref M.1), (1, .int (mI s.op))] [] (mH h0 M S) _ _
    have hn1 : s.n < 1000 := by omega
    refine xgo [147] 120 hA ?_
    refine ya (by rfl) ?_
    refine ys (i := s.n) hM (by rfl) rfl hn1 ?_
    refine ya (by rfl) ?_
    refine ys (i := s.n) hM (by rfl) rfl hn1 ?_
    refine ya (by rfl) ?_
    refine ys (i := s.n) hM (by rfl) rfl hn1 ?_
    refine ya (by rfl) ?_
    refine ys (i := s.n) hM (by rfl) rfl hn1 ?_
    refine ya (by rfl) ?_
    refine yg (by rfl) ?_
    refine ys (i := s.n) hM (by rfl) rfl hn1 ?_
    refine ya (by rfl) ?_
    refine ys (i := s.n) hM (by rfl) rfl hn1 ?_
    refine ya (by rfl) ?_
    refine ys (i := s.n) hM (by rfl) rfl hn1 ?_
    refine ya (by rfl) ?_
    refine ys (i := s.n) hM (by rfl) rfl hn1 ?_
    refine ya (by rfl) ?_
    refine ysz (i := s.n) hM (by rfl) rfl hn1 (Or.inr rfl) ?_
    refine ya (by rfl) ?_
    refine yg (by rfl) ?_
    refine ys (i := s.n) hM (by rfl) rfl hn1 ?_
    obtain ⟨S1, hS1⟩ : ∃ S1, S1 = s2 (s2 (s2 (s2 (s2 (s2 (s2 (s2 (s2 (s2 S 12 s.n (nI p + 1)) 13 s.n (nI j - (nI p + 1))) 14 s.n (mI s.op)) 18 s.n (nI (nDep s))) 20 s.n (S.1 38)) 16 s.n 0) 24 s.n (-1)) 19 s.n 0) 25 s.n 1) 22 s.n (S.1 32) := ⟨_, rfl⟩
    have g1 : gF [] (fun k i => (12 ≤ k ∧ k ≤ 25 ∧ i = s.n) ∨ (s.op ≠ 0 ∧ (k = 16 ∨ k = 24 ∨ k = 25) ∧ i = s.op - 1)) S S1 := by
      rw [hS1]
      refine ((((((((((gF.refl _ _ _).s ?_).s ?_).s ?_).s ?_).s ?_).s ?_).s ?_).s ?_).s ?_).s ?_
      all_goals exact Or.inl ⟨by decide, by decide, rfl⟩
    have e12 : S1.2 12 s.n = nI a.1 := by rw [hS1, n1, ← hk1]; simp [s2]
    have e13 : S1.2 13 s.n = nI a.2 := by
      have : nI j - (nI p + 1) = nI a.2 := by rw [hk1, nI_sub (by omega), show j - (p + 1) = a.2 by omega]
      rw [hS1, this]; simp [s2]
    have e14 : S1.2 14 s.n = mI s.op := by rw [hS1]; simp [s2]
    have e18 : S1.2 18 s.n = nI (nDep s) := by rw [hS1]; simp [s2]
    have e20 : S1.2 20 s.n = nI p := by rw [hS1]; simp [s2, h38]
    have e16 : S1.2 16 s.n = 0 := by rw [hS1]; simp [s2]
    have e24 : S1.2 24 s.n = -1 := by rw [hS1]; simp [s2]
    have e19 : S1.2 19 s.n = 0 := by rw [hS1]; simp [s2]
    have e25 : S1.2 25 s.n = 1 := by rw [hS1]; simp [s2]
    have e22 : S1.2 22 s.n = nI s.ps.length := by rw [hS1]; simp [s2, h32]
    suffices this : xG X 147 [(5, .int (nI (nDep s))), (4, .int (nI j)), (3, .int (nI p + 1)), (2, .int (nI s.n)), (0, .ref M.1), (1, .int (mI s.op))] [] (mH h0 M S1) 0 0 by
      rw [hS1] at this
      exact this
    by_cases z : s.op = 0
    · refine xgo [253] 120 hA ?_
      refine xf (by rw [z]; decide) ?_
      refine yg (by rfl) ?_
      refine yp (by rfl) ?_
      refine ya (by rfl) ?_
      refine yg (by rfl) ?_
      refine ys (i := s.n) hM (by rfl) rfl hn1 ?_
      refine ya (by rfl) ?_
      refine yg (by rfl) ?_
      refine ys (i := s.n) hM (by rfl) rfl hn1 ?_
      refine yp (by rfl) ?_
      refine yg (by rfl) ?_
      refine yp (by rfl) ?_
      refine yp (by rfl) ?_
      obtain ⟨S2, hS2⟩ : ∃ S2, S2 = s1 (s1 (s1 (s2 (s2 (s1 S1 39 (S1.1 39 + 1)) 17 s.n (S1.1 39 + 1)) 15 s.n (S1.1 40)) 40 (nI s.n)) 11 (S1.1 11 + 1)) 38 (nI j) := ⟨_, rfl⟩
      have g2 : gF [11, 38, 39, 40] (fun k i => (k = 17 ∨ k = 15) ∧ i = s.n) S1 S2 := by
        rw [hS2]
        exact ((((((gF.refl _ _ _).p (by decide)).s ⟨Or.inl rfl, rfl⟩).s ⟨Or.inr rfl, rfl⟩).p (by decide)).p (by decide)).p (by decide)
      have gg := (g1.wk (L := [11, 38, 39, 40]) (by simp) (fun _ _ z => z)).tr g2 (by simp) (fun k i z => by omega)
      suffices this : xG X 253 [(5, .int (nI (nDep s))), (4, .int (nI j)), (3, .int (nI p + 1)), (2, .int (nI s.n)), (0, .ref M.1), (1, .int (mI s.op))] [] (mH h0 M S2) 0 0 by
        rw [hS2] at this
        exact this
      have t39 : S1.1 39 = nI s.tm := by rw [g1.1 39 (by simp)]; exact h39
      have t40 : S1.1 40 = mI s.tl := by rw [g1.1 40 (by simp)]; exact h40
      refine loop hn hd 6 [] j S2 rfl rfl (gg.wk (by decide) (fun k i z => by unfold soP; omega)) (R.new I n6 gg ⟨⟨?_, ?_, ?_, ?_, ?_, ?_⟩, ?_, ?_, ?_, ?_, ?_, ?_⟩ (fun y => absurd z y) ?_ ?_ ?_ ?_) _ (by simp)
      · rw [g2.2 12 _ (by omega)]; exact e12
      · rw [g2.2 13 _ (by omega)]; exact e13
      · rw [g2.2 14 _ (by omega)]; exact e14
      · rw [nBef, if_pos z, ← t40, hS2]; simp [s1, s2]
      · rw [g2.2 16 _ (by omega)]; exact e16
      · rw [nNum, if_pos z, ← nI_1, ← t39, hS2]; simp [s1, s2]
      · rw [g2.2 18 _ (by omega)]; exact e18
      · rw [g2.2 19 _ (by omega)]; exact e19
      · rw [g2.2 20 _ (by omega)]; exact e20
      · rw [g2.2 22 _ (by omega)]; exact e22
      · rw [g2.2 24 _ (by omega)]; exact e24
      · rw [g2.2 25 _ (by omega)]; exact e25
      · have : S1.1 11 = nI s.n := by rw [g1.1 11 (by simp)]; exact h11
        rw [← nI_1, ← this, hS2]; simp [s1, s2]
      · rw [hS2]; simp [s1]
      · rw [if_pos z, ← nI_1, ← t39, hS2]; simp [s1, s2]
      · rw [if_pos z, hS2]; simp [s1, s2, mI]
    · obtain ⟨e, he⟩ : ∃ e, e = s.op - 1 := ⟨_, rfl⟩
      have hen' : e < s.n := by omega
      have hne : e ≠ s.n := by omega
      have hmi : mI s.op = nI e := by rw [mI_nI z, he]
      obtain ⟨⟨⟨-, -, -, -, q5, -⟩, -, -, -, -, q11, -⟩, -, -⟩ := hel e hen'
      have t16 : S1.2 16 e = nI (s.F 8 e) := by rw [hS1]; simp [s2, hne]; exact q5
      have t24 : S1.2 24 e = mI (s.F 9 e) := by rw [hS1]; simp [s2, hne]; exact q11
      refine xgo [253] 120 hA ?_
      refine xt (mI_pos z (by omega)) ?_
      rw [hmi]
      refine ya (by rfl) ?_
      refine yl (i := e) hM (by rfl) rfl (by show e < 1000; omega) ?_
      refine ys (i := e) hM (by rfl) rfl (by show e < 1000; omega) ?_
      refine ya (by rfl) ?_
      refine ya (by rfl) ?_
      refine yl (i := e) hM (by rfl) rfl (by show e < 1000; omega) ?_
      refine ys (i := s.n) hM (by rfl) rfl hn1 ?_
      refine ya (by rfl) ?_
      refine ya (by rfl) ?_
      refine yl (i := e) hM (by rfl) rfl (by show e < 1000; omega) ?_
      refine ys (i := s.n) hM (by rfl) rfl hn1 ?_
      refine ya (by rfl) ?_
      refine ys (i := e) hM (by rfl) rfl (by show e < 1000; omega) ?_
      refine ya (by rfl) ?_
      refine ysz (i := e) hM (by rfl) rfl (by show e < 1000; omega) (Or.inl rfl) ?_
      refine yg (by rfl) ?_
      refine yp (by rfl) ?_
      refine yp (by rfl) ?_
      rw [s2_eq]
      obtain ⟨S2, hS2⟩ : ∃ S2, S2 = s1 (s1 (s2 (s2 (s2 (s2 (s2 S1 16 e (S1.2 16 e + 1)) 17 s.n (S1.2 16 e + 1)) 15 s.n (S1.2 24 e)) 24 e (nI s.n)) 25 e 0) 11 (S1.1 11 + 1)) 38 (nI j) := ⟨_, rfl⟩
      have g2 : gF [11, 38] (fun k i => ((k = 17 ∨ k = 15) ∧ i = s.n) ∨ ((k = 16 ∨ k = 24 ∨ k = 25) ∧ i = e)) S1 S2 := by
        rw [hS2]
        refine ((((((gF.refl _ _ _).s ?_).s ?_).s ?_).s ?_).s ?_).p (by decide) |>.p (by decide)
        all_goals simp
      have gg := (g1.wk (L := [11, 38, 39, 40]) (by simp) (fun _ _ z => z)).tr g2 (by simp) (fun k i z => by omega)
      have q24 : (s2 (s2 S1 16 e (S1.2 16 e + 1)) 17 s.n (S1.2 16 e + 1)).2 24 e = S1.2 24 e := by simp [s2]
      suffices this : xG X 253 [(5, .int (nI (nDep s))), (4, .int (nI j)), (3, .int (nI p + 1)), (2, .int (nI s.n)), (0, .ref M.1), (1, .int (nI e))] [] (mH h0 M S2) 0 0 by
        rw [hS2, ← q24] at this
        exact this
      refine loop hn hd 6 [] j S2 rfl rfl (gg.wk (by decide) (fun k i z => by unfold soP; omega)) (R.new I n6 gg ⟨⟨?_, ?_, ?_, ?_, ?_, ?_⟩, ?_, ?_, ?_, ?_, ?_, ?_⟩ (fun _ => ⟨?_, ?_, ?_⟩) ?_ ?_ ?_ ?_) _ (by rw [hmi]; simp)
      · rw [g2.2 12 _ (by omega)]; exact e12
      · rw [g2.2 13 _ (by omega)]; exact e13
      · rw [g2.2 14 _ (by omega)]; exact e14
      · rw [nBef, if_neg z, ← he, ← t24, hS2]; simp [s1, s2]
      · rw [g2.2 16 _ (by omega)]; exact e16
      · rw [nNum, if_neg z, ← he, ← nI_1, ← t16, hS2]; simp [s1, s2]
      · rw [g2.2 18 _ (by omega)]; exact e18
      · rw [g2.2 19 _ (by omega)]; exact e19
      · rw [g2.2 20 _ (by omega)]; exact e20
      · rw [g2.2 22 _ (by omega)]; exact e22
      · rw [g2.2 24 _ (by omega)]; exact e24
      · rw [g2.2 25 _ (by omega)]; exact e25
      · rw [← he, nNum, if_neg z, ← he, ← nI_1, ← t16, hS2]; simp [s1, s2]
      · rw [← he, hS2]; simp [s1, s2]
      · rw [← he, hS2]; simp [s1, s2]
      · have : S1.1 11 = nI s.n := by rw [g1.1 11 (by simp)]; exact h11
        rw [← nI_1, ← this, hS2]; simp [s1, s2]
      · rw [hS2]; simp [s1]
      · rw [if_neg z, g2.1 39 (by decide), g1.1 39 (by simp)]; exact h39
      · rw [if_neg z, g2.1 40 (by decide), g1.1 40 (by simp)]; exact h40
  by_cases z : s.op = 0
  · refine xf (by rw [z]; decide) ?_
    have : nDep s = 0 := by unfold nDep; rw [if_pos z]
    rw [this] at k44
    exact k44
  · refine xt (mI_pos z (by omega)) ?_
    obtain ⟨⟨-, q7, -⟩, -, -⟩ := hel (s.op - 1) (by omega)
    refine ya (by rfl) ?_
    refine yl (i := s.op - 1) hM (by rfl) (mI_nI z) (by show s.op - 1 < 1000; omega) ?_
    have : nDep s = s.F 5 (s.op - 1) + 1 := by unfold nDep; rw [if_neg z]
    rw [this, ← nI_1, ← q7] at k44
    exact k44
end
