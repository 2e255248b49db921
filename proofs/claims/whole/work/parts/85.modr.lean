/-! THE REFERENCE, 18: a source -/
theorem addP_op (s : SS) (q : Nat × Nat) : (addP s q).op = s.op := by
  unfold addP
  split
  · rfl
  · split <;> rfl
theorem sRef_op {t : List Nat} {i : Nat} {s : SS} {q : SS × Nat} (h : sRef t i s = .ok q) : q.1.op = s.op := by
  obtain ⟨a, j, e1, e2⟩ := pB_inv h
  split at e2
  · cases e2
  · obtain ⟨u, k, e3, e4⟩ := pB_inv e2
    cases e4
    exact addP_op _ _
theorem sEnt_op {t : List Nat} {i : Nat} {s : SS} {q : SS × Nat} (h : sEnt t i s = .ok q) : q.1.op = s.op := by
  obtain ⟨a, j, e1, e2⟩ := pB_inv h
  split at e2
  · cases e2
  · obtain ⟨u, k, e3, e4⟩ := pB_inv e2
    split at e4
    · cases e4
    · obtain ⟨v, m', e5, e6⟩ := pB_inv e4
      cases e6
      rfl
theorem txc_c : ∀ c, c < 257 → ((cI c = 10 ∨ (32 ≤ cI c ∧ cI c ≤ 126 ∧ ¬ cI c = 60 ∧ ¬ cI c = 38)) ↔ txc c = true) := by decide +kernel
def srcE (S' : MS) (t : List Nat) (res : Except Nat (SS × Nat)) : Prop := match res with
  | .error w => tx S' 0 t ∧ S'.1 6 = nI w ∧ w ≤ t.length + 9
  | .ok q => SoR S' t q.1 q.2
section
variable {l : Launch} {D : xD} {h0 : xH} {M : MA} {S : MS}
set_option maxRecDepth 20000 in
theorem c_readSource2 {t : List Nat} (hM : mok M) (T : tx S 0 t) (hf : S.1 6 = -1) : xMet l D 4 y_Mo_readSource [.ref M.1] (mH h0 M S) 0 0 (fun o h' => ∃ S', h' = mH h0 M S' ∧ o = .inl none ∧ gF soL soP S S' ∧ srcE S' t (sSrc t)) := by
  have hB := T.2.2.2.2.2
  have hl := T.2.2.2.2.1
  refine m_Mo_readSource (Nat.le_of_ble_eq_true rfl) fun X hl hD hP hA => ?_
  subst hl hD
  have bad : ∀ (S2 : MS) (w : Nat) (v : Int32), gF soL soP S S2 → tx S2 0 t → S2.1 6 = nI w → w ≤ t.length + 9 → sSrc t = .error w → ∀ ls, (∀ q ∈ [(1, Value.int v), (0, .ref M.1)], q ∈ ls) → xG X 32 ls [] (mH h0 M S2) 0 0 := by
    intro S2 w v g T2 hf2 hw eR ls hls
    refine xG.locs ?_ hls
    have fin : xG X 282 [(1, .int v), (0, .ref M.1)] [] (mH h0 M S2) 0 0 := by
      refine xgo [] 30 hA ?_
      refine xb (fun c => ?_) (fun c => ?_)
      · refine xP hP ⟨_, rfl, rfl, g, ?_⟩
        rw [eR]
        exact ⟨T2, hf2, hw⟩
      · refine yg (by rfl) ?_
        refine xcV (mH_m _ _ _) (c_Mo_wrongF hf2 (by omega)) (by rfl) (by rfl) (by rfl) (Nat.zero_le _) (Nat.zero_le _) ?_
        rintro o h' ⟨rfl, rfl⟩
        refine xP hP ⟨_, rfl, rfl, g, ?_⟩
        rw [eR]
        exact ⟨T2, hf2, hw⟩
    refine xgo [282] 30 hA ?_
    refine yg (by rfl) ?_
    refine yg (by rfl) ?_
    refine xb (fun c => ?_) (fun c => ?_)
    · exact fin
    · refine yg (by rfl) ?_
      refine xt (by rw [hf2]; exact nI_pos' (by omega)) ?_
      exact fin
  have loop : ∀ (n i : Nat) (s : SS) (S1 : MS), t.length ≤ i + n → sAll t t.length 0 SS0 = sAll t n i s → gF soL soP S S1 → SoR S1 t s i → SI t s → s.ps.length ≤ i → ∀ ls, (∀ q ∈ [(1, Value.int (mI s.op)), (0, .ref M.1)], q ∈ ls) → xG X 32 ls [] (mH h0 M S1) 0 0 := by
    intro n
    -- the end
    have over : ∀ (i : Nat) (s : SS) (S1 : MS), t.length ≤ i → sAll t t.length 0 SS0 = .ok (s, i) → gF soL soP S S1 → SoR S1 t s i → SI t s → xG X 32 [(1, .int (mI s.op)), (0, .ref M.1)] [] (mH h0 M S1) 0 0 := by
      intro i s S1 hi eA g R I
      obtain ⟨T1, ⟨hf1, h381, hil⟩, -⟩ := id R
      have hopn : s.op ≤ s.n := I.2.2.1
      have hn5 : s.n ≤ 500 := I.1.1
      refine xgo [] 60 hA ?_
      refine yg (by rfl) ?_
      refine yg (by rfl) ?_
      rw [h381, T1.2.1]
      refine xt (nI_le hi (by omega)) ?_
      by_cases z : s.op = 0
      · refine xt (by rw [z]; decide) ?_
        refine xP hP ⟨_, rfl, rfl, g, ?_⟩
        rw [sSrc, pB_ok eA, if_pos z]
        exact R
      · refine xf (Int32.not_lt.mpr (mI_pos z (by omega))) ?_
        refine yg (by rfl) ?_
        rw [T1.2.1]
        refine xcV (mH_m _ _ _) (c_Mo_wrong hf1) (by rfl) (by rfl) (by rfl) (Nat.zero_le _) (Nat.zero_le _) ?_
        rintro o h' ⟨rfl, rfl⟩
        refine xP hP ⟨_, rfl, rfl, g.p (by decide), ?_⟩
        rw [sSrc, pB_ok eA, if_neg z]
        exact ⟨T1.p (by decide) (by decide), s1_eq _ _ _, by omega⟩
    induction n with
    | zero =>
      intro i s S1 hi eA g R I hps ls hls
      refine xG.locs ?_ hls
      exact over i s S1 (by omega) (by rw [eA]; rfl) g R I
    | succ n ih =>
      intro i s S1 hi eA g R I hps ls hls
      refine xG.locs ?_ hls
      by_cases hit : t.length ≤ i
      · exact over i s S1 hit (by rw [eA, sAll, if_pos (ch_out hit)]) g R I
      have hlt : i < t.length := by omega
      have hci := hB.lt hlt
      rw [sAll, if_neg (by omega)] at eA
      obtain ⟨T1, ⟨hf1, h381, hil⟩, ⟨h111, h321, h371, h391, h401⟩, -⟩ := id R
      have hopn : s.op ≤ s.n := I.2.2.1
      have hn5 : s.n ≤ 500 := I.1.1
      have c0 : ch t i ≤ 256 := hB.le _
      have c1 : ch t (i + 1) ≤ 256 := hB.le _
      have c2 : ch t (i + 2) ≤ 256 := hB.le _
      -- behind a piece
      have after : ∀ (S2 : MS) (v : Int32), gF soL soP S1 S2 → soRes S2 t s (sPiece t i s) → (∀ q, sPiece t i s = .ok q → v = mI q.1.op) → ∀ ls, (∀ q ∈ [(1, Value.int v), (0, .ref M.1)], q ∈ ls) → xG X 32 ls [] (mH h0 M S2) 0 0 := by
        intro S2 v g2 r hv ls hls
        have gg := g.tr g2 (by simp) (fun _ _ z => z)
        cases hq : sPiece t i s with
        | error w =>
          rw [hq] at r
          obtain ⟨r1, r2, r3⟩ := r
          exact bad S2 w v gg r1 r2 r3 (by rw [sSrc, pB_er (w := w)]; rw [eA, pB_er hq]) ls hls
        | ok q =>
          obtain ⟨s', j⟩ := q
          rw [hq] at r
          obtain ⟨r1, r2⟩ := r
          have adv := sPiece_adv t s (by omega) s' j hq
          rw [hv _ hq] at hls
          have r2' : s'.ps.length ≤ s.ps.length + 1 := r2
          exact ih j s' S2 (by omega) (by rw [eA, pB_ok hq]) gg r1 (I.piece hq) (by omega) ls hls
      refine xgo [32, 132, 138, 173, 271] 90 hA ?_
      refine yg (by rfl) ?_
      refine yg (by rfl) ?_
      rw [h381, T1.2.1]
      refine xf (fun z => by have := (nI_leI (a := t.length) (b := i) (by omega) (by omega)).mp z; omega) ?_
      refine yg (by rfl) ?_
      rw [hf1]
      refine xf (by decide) ?_
      refine yg (by rfl) ?_
      rw [h381]
      refine xcV (mH_m _ _ _) (c_Mo_byteAt (k := i) hM T1 (by omega)) (by rfl) (by rfl) (by rfl) (Nat.zero_le _) (Nat.zero_le _) ?_
      rintro o h' ⟨rfl, rfl⟩
      refine xb (fun c => ?_) (fun c => ?_)
      rotate_left
      · -- markup
        have y0 := (cI_lit (k := 60) c0 (by decide)).mp c
        have eP : sPiece t i s = sMark t i (i + 1) s := by rw [sPiece, if_pos y0]
        refine yg (by rfl) ?_
        rw [h381]
        refine xcV (mH_m _ _ _) (c_byte (k := i + 1) (nI_1 i) hM T1 (by omega)) (by rfl) (by rfl) (by rfl) (Nat.zero_le _) (Nat.zero_le _) ?_
        rintro o h' ⟨rfl, rfl⟩
        refine xb (fun c => ?_) (fun c => ?_)
        rotate_left
        · have y1 := (cI_lit (k := 47) c1 (by decide)).mp c
          have eM : sPiece t i s = sEnd t (i + 1) s := by rw [eP, sMark, if_pos y1]
          refine xcV (mH_m _ _ _) (c_closed2 hM R I hlt) (by rfl) (by rfl) (by rfl) (Nat.zero_le _) (Nat.zero_le _) ?_
          rintro o h' ⟨S2, v, rfl, rfl, g2, r, hv⟩
          show xG X 138 _ [] _ _ _
          refine xgo [32] 10 hA ?_
          exact after S2 v g2 (by rw [eM]; exact r) (by rw [eM]; exact hv) _ (by simp)
        have n1 : ¬ ch t (i + 1) = 47 := fun z => c ((cI_lit (k := 47) c1 (by decide)).mpr z)
        have beg : ¬ ch t (i + 1) = 33 → ∀ v2 v3 : Int32, xG X 132 [(3, .int v3), (2, .int v2), (1, .int (mI s.op)), (0, .ref M.1)] [] (mH h0 M S1) 0 0 := by
          intro n3 v2 v3
          have eM : sPiece t i s = sBeg t i (i + 1) s := by rw [eP, sMark, if_neg n1, if_neg n3]
          refine xgo [32] 30 hA ?_
          refine xcV (mH_m _ _ _) (c_opened2 hM R I hlt) (by rfl) (by rfl) (by rfl) (Nat.zero_le _) (Nat.zero_le _) ?_
          rintro o h' ⟨S2, v, rfl, rfl, g2, r, hv⟩
          exact after S2 v g2 (by rw [eM]; exact r) (by rw [eM]; exact hv) _ (by simp)
        refine xb (fun c => ?_) (fun c => ?_)
        · have n3 : ¬ ch t (i + 1) = 33 := fun z => c ((cI_lit (k := 33) c1 (by decide)).mpr z)
          refine xtn c ?_
          show xG X 132 _ [] _ _ _
          exact beg n3 _ _
        have y3 := (cI_lit (k := 33) c1 (by decide)).mp c
        refine yg (by rfl) ?_
        rw [h381]
        refine xcV (mH_m _ _ _) (c_byte (k := i + 2) (nI_add i 2) hM T1 (by omega)) (by rfl) (by rfl) (by rfl) (Nat.zero_le _) (Nat.zero_le _) ?_
        rintro o h' ⟨rfl, rfl⟩
        refine xb (fun c4 => ?_) (fun c4 => ?_)
        · have n4 : ¬ ch t (i + 2) = 45 := fun z => c4 ((cI_lit (k := 45) c2 (by decide)).mpr z)
          have eM : sPiece t i s = sEnt t (i + 2) s := by rw [eP, sMark, if_neg n1, if_pos y3, if_neg n4]
          refine xfn c ?_
          refine xcV (mH_m _ _ _) (c_defined2 hM R hlt) (by rfl) (by rfl) (by rfl) (Nat.zero_le _) (Nat.zero_le _) ?_
          rintro o h' ⟨S2, rfl, rfl, g2, r⟩
          show xG X 138 _ [] _ _ _
          refine xgo [32] 10 hA ?_
          exact after S2 (mI s.op) g2 (by rw [eM]; exact r) (fun q hq => by rw [eM] at hq; rw [sEnt_op hq]) _ (by simp)
        · have y4 := (cI_lit (k := 45) c2 (by decide)).mp c4
          have eM : sPiece t i s = sCom t (i + 3) s := by rw [eP, sMark, if_neg n1, if_pos y3, if_pos y4]
          refine xcV (mH_m _ _ _) (c_comment2 (s := s) hM T1 hf1 h381 hil) (by rfl) (by rfl) (by rfl) (Nat.zero_le _) (Nat.zero_le _) ?_
          rintro o h' ⟨rfl, ⟨w, v, hw, eC, rfl⟩ | ⟨j, eC, rfl⟩⟩
          · show xG X 138 _ [] _ _ _
            refine xgo [32] 10 hA ?_
            refine after _ (mI s.op) (((gF.refl _ _ _).p (by decide)).p (by decide)) ?_ (fun q hq => by rw [eM, eC] at hq; cases hq) _ (by simp)
            rw [eM, eC]
            exact ⟨(T1.p (by decide) (by decide)).p (by decide) (by decide), rfl, hw⟩
          · show xG X 138 _ [] _ _ _
            refine xgo [32] 10 hA ?_
            refine after _ (mI s.op) ((gF.refl _ _ _).p (by decide)) ?_ (fun q hq => by rw [eM, eC] at hq; cases hq; rfl) _ (by simp)
            rw [eM, eC]
            exact ⟨R.mv (sCom_adv t (i + 3) s s j eC).2, Nat.le_succ _⟩
      have n0 : ¬ ch t i = 60 := fun z => c ((cI_lit (k := 60) c0 (by decide)).mpr z)
      refine xb (fun c5 => ?_) (fun c5 => ?_)
      rotate_left
      · have y5 := (cI_lit (k := 38) c0 (by decide)).mp c5
        have eM : sPiece t i s = sRef t (i + 1) s := by rw [sPiece, if_neg n0, if_pos y5]
        refine xcV (mH_m _ _ _) (c_reference2 hM R (by omega) (by omega) hlt) (by rfl) (by rfl) (by rfl) (Nat.zero_le _) (Nat.zero_le _) ?_
        rintro o h' ⟨S2, rfl, rfl, g2, r⟩
        exact after S2 (mI s.op) g2 (by rw [eM]; exact r) (fun q hq => by rw [eM] at hq; rw [sRef_op hq]) _ (by simp)
      have n5 : ¬ ch t i = 38 := fun z => c5 ((cI_lit (k := 38) c0 (by decide)).mpr z)
      have eM : sPiece t i s = sText t i s := by rw [sPiece, if_neg n0, if_neg n5]
      -- no text
      have k271 : ¬ txc (ch t i) = true → ∀ v2 : Int32, xG X 271 [(2, .int v2), (1, .int (mI s.op)), (0, .ref M.1)] [] (mH h0 M S1) 0 0 := by
        intro hn v2
        refine xgo [32] 20 hA ?_
        refine yg (by rfl) ?_
        rw [h381]
        refine xcV (mH_m _ _ _) (c_Mo_wrong hf1) (by rfl) (by rfl) (by rfl) (Nat.zero_le _) (Nat.zero_le _) ?_
        rintro o h' ⟨rfl, rfl⟩
        have e : sPiece t i s = .error i := by rw [eM, sText, if_pos (scan_no (by simpa using hn))]
        exact after _ (mI s.op) ((gF.refl _ _ _).p (by decide)) (soRes.er T1 e (by omega) rfl) (fun q hq => by rw [e] at hq; cases hq) _ (by simp)
      have T1' : ∀ v : Int32, tx (s1 S1 38 v) 0 t := fun v => T1.p (by decide) (by decide)
      have k178 : txc (ch t i) = true → ∀ v2 : Int32, ∀ x : Nat, (i ≤ x ∧ x ≤ t.length ∧ scan txc t i = scan txc t x) → xG X 178 [(3, .int (nI i)), (2, .int v2), (1, .int (mI s.op)), (0, .ref M.1)] [] (mH h0 M (s1 S1 38 (nI x))) 0 0 := by
        intro htx v2
        refine xind _ _ (fun x => t.length - x) (fun x hx ihx => ?_)
        obtain ⟨x1, x2, x3⟩ := hx
        have cx : ch t x ≤ 256 := hB.le _
        have more : txc (ch t x) = true → xG X 243 [(3, .int (nI i)), (2, .int v2), (1, .int (mI s.op)), (0, .ref M.1)] [] (mH h0 M (s1 S1 38 (nI x))) 0 0 := by
          intro hn
          have hxl : x < t.length := Nat.lt_of_not_le fun z => by rw [ch_out z] at hn; cases hn
          refine xgo [178] 20 hA ?_
          refine yg (by rfl) ?_
          refine yp (by rfl) ?_
          rw [s1_eq, s1_s1, nI_1]
          exact ihx (x + 1) ⟨by omega, hxl, by rw [x3, scan_step hxl hn]⟩ (by omega)
        have done : ¬ txc (ch t x) = true → xG X 256 [(3, .int (nI i)), (2, .int v2), (1, .int (mI s.op)), (0, .ref M.1)] [] (mH h0 M (s1 S1 38 (nI x))) 0 0 := by
          intro hn
          have hsc : scan txc t i = x := by rw [x3, scan_no (by simpa using hn)]
          have hix : scan txc t i ≠ i := by
            rw [scan_step hlt htx]
            have := scan_ge txc t (i + 1)
            omega
          have e : sPiece t i s = .ok (addP s (i, x - i), x) := by rw [eM, sText, if_neg hix, hsc]
          have R2 := R.mv x2
          refine xgo [32] 30 hA ?_
          refine yg (by rfl) ?_
          rw [s1_eq]
          refine xcV (mH_m _ _ _) (c_piece2 (a := i) (n := x - i) (m := s.ps.length) (op := s.op) rfl (nI_sub x1) hM h321 (by omega) (by omega) (by omega)) (by rfl) (by rfl) (by rfl) (Nat.zero_le _) (Nat.zero_le _) ?_
          rintro o h' ⟨rfl, rfl⟩
          obtain ⟨r1, r2⟩ := R2.pc (a := i) (n := x - i) (Or.inl (by omega))
          refine after _ (mI s.op) (((gF.refl _ _ _).p (k := 38) (by decide)).tr pcS_gF (by decide) (fun k i z => by unfold soP; omega)) ?_ (fun q hq => by rw [e] at hq; cases hq; rw [addP_op]) _ (by simp)
          rw [e]
          exact ⟨r1, r2⟩
        have ht := txc_c (ch t x) (Nat.lt_succ_of_le cx)
        refine xgo [243, 256] 90 hA ?_
        refine yg (by rfl) ?_
        rw [s1_eq]
        refine xcV (mH_m _ _ _) (c_Mo_byteAt (k := x) hM (T1' _) (by omega)) (by rfl) (by rfl) (by rfl) (Nat.zero_le _) (Nat.zero_le _) ?_
        rintro o h' ⟨rfl, rfl⟩
        refine xb (fun d1 => ?_) (fun d1 => ?_)
        · exact more (ht.mp (Or.inl d1))
        refine yg (by rfl) ?_
        rw [s1_eq]
        refine xcV (mH_m _ _ _) (c_Mo_byteAt (k := x) hM (T1' _) (by omega)) (by rfl) (by rfl) (by rfl) (Nat.zero_le _) (Nat.zero_le _) ?_
        rintro o h' ⟨rfl, rfl⟩
        refine xb (fun d2 => ?_) (fun d2 => ?_)
        · exact done (fun z => (ht.mpr z).elim d1 (fun y => Int32.lt_irrefl (Int32.lt_of_lt_of_le d2 y.1)))
        refine yg (by rfl) ?_
        rw [s1_eq]
        refine xcV (mH_m _ _ _) (c_Mo_byteAt (k := x) hM (T1' _) (by omega)) (by rfl) (by rfl) (by rfl) (Nat.zero_le _) (Nat.zero_le _) ?_
        rintro o h' ⟨rfl, rfl⟩
        refine xb (fun d3 => ?_) (fun d3 => ?_)
        · exact done (fun z => (ht.mpr z).elim d1 (fun y => Int32.lt_irrefl (Int32.lt_of_lt_of_le d3 y.2.1)))
        refine yg (by rfl) ?_
        rw [s1_eq]
        refine xcV (mH_m _ _ _) (c_Mo_byteAt (k := x) hM (T1' _) (by omega)) (by rfl) (by rfl) (by rfl) (Nat.zero_le _) (Nat.zero_le _) ?_
        rintro o h' ⟨rfl, rfl⟩
        refine xb (fun d4 => ?_) (fun d4 => ?_)
        · exact done (fun z => (ht.mpr z).elim d1 (fun y => y.2.2.1 d4))
        refine yg (by rfl) ?_
        rw [s1_eq]
        refine xcV (mH_m _ _ _) (c_Mo_byteAt (k := x) hM (T1' _) (by omega)) (by rfl) (by rfl) (by rfl) (Nat.zero_le _) (Nat.zero_le _) ?_
        rintro o h' ⟨rfl, rfl⟩
        refine xb (fun d5 => ?_) (fun d5 => ?_)
        · exact done (fun z => (ht.mpr z).elim d1 (fun y => y.2.2.2 d5))
        · exact more (ht.mp (Or.inr ⟨Int32.not_lt.mp d2, Int32.not_lt.mp d3, d4, d5⟩))
      have k173 : txc (ch t i) = true → ∀ v2 : Int32, xG X 173 [(2, .int v2), (1, .int (mI s.op)), (0, .ref M.1)] [] (mH h0 M S1) 0 0 := by
        intro htx v2
        refine xgo [178] 10 hA ?_
        refine yg (by rfl) ?_
        rw [h381]
        have q := k178 htx v2 i ⟨Nat.le_refl _, by omega, rfl⟩
        rw [s1_self h381] at q
        exact q
      have ht := txc_c (ch t i) (Nat.lt_succ_of_le c0)
      refine xb (fun d1 => ?_) (fun d1 => ?_)
      · exact k173 (ht.mp (Or.inl d1)) _
      refine xb (fun d2 => ?_) (fun d2 => ?_)
      · exact k271 (fun z => (ht.mpr z).elim d1 (fun y => Int32.lt_irrefl (Int32.lt_of_lt_of_le d2 y.1))) _
      refine xb (fun d3 => ?_) (fun d3 => ?_)
      · exact k271 (fun z => (ht.mpr z).elim d1 (fun y => Int32.lt_irrefl (Int32.lt_of_lt_of_le d3 y.2.1))) _
      · exact k173 (ht.mp (Or.inr ⟨Int32.not_lt.mp d2, Int32.not_lt.mp d3, c, c5⟩)) _
  refine xgo [30] 60 hA ?_
  refine yp (by rfl) ?_
  refine yp (by rfl) ?_
  refine yp (by rfl) ?_
  refine yp (by rfl) ?_
  refine yp (by rfl) ?_
  refine yp (by rfl) ?_
  obtain ⟨S1, hS1⟩ : ∃ S1, S1 = s1 (s1 (s1 (s1 (s1 (s1 S 11 0) 32 0) 37 0) 39 0) 40 (-1)) 38 0 := ⟨_, rfl⟩
  have g1 : gF [11, 32, 37, 38, 39, 40] (fun _ _ => False) S S1 := by
    rw [hS1]
    exact ((((((gF.refl _ _ _).p (by decide)).p (by decide)).p (by decide)).p (by decide)).p (by decide)).p (by decide)
  suffices this : xG X 30 [(0, .ref M.1)] [] (mH h0 M S1) 0 0 by
    rw [hS1] at this
    exact this
  have T1 : tx S1 0 t := T.gf g1 (by decide) (fun _ _ _ z => z)
  refine xgo [32] 20 hA ?_
  refine loop t.length 0 SS0 S1 (by omega) rfl (g1.wk (by decide) (fun _ _ z => z.elim)) ?_ (SI.zero t) (Nat.le_of_ble_eq_true rfl) _ (by simp [SS0, mI])
  exact ⟨T1, ⟨by rw [g1.1 6 (by decide)]; exact hf, by rw [hS1]; rfl, Nat.zero_le _⟩, ⟨by rw [hS1]; rfl, by rw [hS1]; rfl, by rw [hS1]; rfl, by rw [hS1]; rfl, by rw [hS1]; rfl⟩, fun k hk => absurd hk (Nat.not_lt_zero _), fun i q hq => (by cases hq), fun i q hq => (by cases hq), (Nat.le_of_ble_eq_true rfl)⟩
end
