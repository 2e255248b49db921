/-! THE REFERENCE, 22: what fits -/
theorem among_iff {t : List Nat} {s : SS} (I : SI t s) {k : Nat} (hk : k < s.n) : s.F 10 k = 0 ↔ s.F 4 k = (if s.F 2 k = 0 then s.tm else s.F 8 (s.F 2 k - 1)) := (I.1.2.2.2.2 k hk).2.2.2.2.2.2.2.1
section
variable {l : Launch} {D : xD} {h0 : xH} {M : MA} {S : MS}
set_option maxRecDepth 20000 in
theorem c_among2 {e : Nat} {ts : List Nat} {s : SS} (hM : mok M) (R : mrS S ts s) (he : e < s.n) : xMet l D 0 y_Mo_among [.ref M.1, .int (nI e)] (mH h0 M S) 0 0 (fun o h' => h' = mH h0 M S ∧ o = .inl (some (.int (nI (if s.F 2 e = 0 then s.tm else s.F 8 (s.F 2 e - 1)))))) := by
  have I := R.2.2.2.2.2
  have hn5 : s.n ≤ 500 := I.1.1
  obtain ⟨⟨⟨a1, a2, a3, a4, a5, a6⟩, -⟩, -, -⟩ := R.2.2.1.1 e he
  have h2 : s.F 2 e ≤ e := I.f2 e he
  refine m_Mo_among (Nat.le_of_ble_eq_true rfl) fun X hl hD hP hA => ?_
  subst hl hD
  refine xgo [] 40 hA ?_
  refine ya (by rfl) ?_
  refine yl (i := e) hM (by rfl) rfl (by show e < 1000; omega) ?_
  rw [a3]
  by_cases z : s.F 2 e = 0
  · rw [if_pos z] at hP
    refine xf (by rw [z]; decide) ?_
    refine yg (by rfl) ?_
    rw [R.1.2.2]
    exact xP hP ⟨rfl, rfl⟩
  · rw [if_neg z] at hP
    refine xt (mI_pos z (by omega)) ?_
    refine ya (by rfl) ?_
    refine ya (by rfl) ?_
    refine yl (i := e) hM (by rfl) rfl (by show e < 1000; omega) ?_
    rw [a3]
    obtain ⟨⟨⟨-, -, -, -, b5, -⟩, -⟩, -, -⟩ := R.2.2.1.1 (s.F 2 e - 1) (by omega)
    refine yl (i := s.F 2 e - 1) hM (by rfl) (mI_nI z) (by show s.F 2 e - 1 < 1000; omega) ?_
    rw [b5]
    exact xP hP ⟨rfl, rfl⟩
set_option maxRecDepth 20000 in
theorem c_fieldOf2 {e a : Nat} {av nv : Int32} {ts w : List Nat} {s : SS} (ea : av = nI a) (en : nv = nI w.length) (hM : mok M) (R : mrS S ts s) (he : e < s.n) (A : sg S a w) : xMet l D 1 y_Mo_fieldOf [.ref M.1, .int (nI e), .int av, .int nv] (mH h0 M S) 0 0 (fun o h' => h' = mH h0 M S ∧ ((∃ i q, (s.fd e)[i]? = some q ∧ (s.fd e).find? (fun q => decide (sub ts q.1 = w)) = some q ∧ o = .inl (some (.int (nI (6 * e + i))))) ∨ ((s.fd e).find? (fun q => decide (sub ts q.1 = w)) = none ∧ o = .inl (some (.int (-1)))))) := by
  subst ea en
  have I := R.2.2.2.2.2
  have hn5 : s.n ≤ 500 := I.1.1
  obtain ⟨⟨-, -, b2, -⟩, -, dd⟩ := R.2.2.1.1 e he
  have hfl : (s.fd e).length ≤ 6 := (I.2.1 e he).1
  obtain ⟨fs, hfs⟩ : ∃ fs, fs = s.fd e := ⟨_, rfl⟩
  rw [← hfs] at b2 dd hfl ⊢
  refine m_Mo_fieldOf (Nat.le_of_ble_eq_true rfl) fun X hl hD hP hA => ?_
  subst hl hD
  have key : ∀ x : Nat, (x ≤ fs.length ∧ fs.find? (fun q => decide (sub ts q.1 = w)) = (fs.drop x).find? (fun q => decide (sub ts q.1 = w))) → xG X 3 [(4, .int (nI x)), (0, .ref M.1), (1, .int (nI e)), (2, .int (nI a)), (3, .int (nI w.length))] [] (mH h0 M S) 0 0 := by
    refine xind _ _ (fun x => fs.length - x) (fun x hx ih => ?_)
    obtain ⟨h1, h2⟩ := hx
    have ix : (6 : Int32) * nI e + nI x = nI (6 * e + x) := by
      show nI 6 * nI e + nI x = _
      rw [nI_mul, nI_add]
    refine xgo [3] 60 hA ?_
    refine ya (by rfl) ?_
    refine yl (i := e) hM (by rfl) rfl (by show e < 1000; omega) ?_
    rw [b2]
    refine xb (fun c => ?_) (fun c => ?_)
    · have c1 := (nI_leI (a := fs.length) (b := x) (by omega) (by omega)).mp c
      refine xP hP ⟨rfl, Or.inr ⟨?_, rfl⟩⟩
      rw [h2, List.drop_eq_nil_of_le c1]; rfl
    · have c1 : x < fs.length := Nat.lt_of_not_le fun z => c (nI_le z (by omega))
      have hx := List.getElem?_eq_getElem c1
      obtain ⟨m1, m2, m3, m4, m5, m6⟩ := dd x _ hx
      have hd : fs.drop x = fs[x] :: fs.drop (x + 1) := List.drop_eq_getElem_cons c1
      have sge : sg S fs[x].1.1 (sub ts fs[x].1) := by
        have := R.2.1.1.sub m5
        rw [Nat.zero_add] at this
        exact this
      have m2' : S.2 27 (6 * e + x) = nI (sub ts fs[x].1).length := by rw [m2, sub_len m5]
      refine ya (by rfl) ?_
      refine yl (i := 6 * e + x) hM (by rfl) ix (by show 6 * e + x < 6000; omega) ?_
      refine ya (by rfl) ?_
      refine yl (i := 6 * e + x) hM (by rfl) ix (by show 6 * e + x < 6000; omega) ?_
      refine xcV (mH_m _ _ _) (c_sameW m1 m2' rfl rfl hM sge A) (by rfl) (by rfl) (by rfl) (Nat.zero_le _) (Nat.zero_le _) ?_
      rintro o h' ⟨rfl, rfl⟩
      refine xb (fun c => ?_) (fun c => ?_)
      · have n := of_decide_eq_false ((bI_0 _).mp c)
        have q := ih (x + 1) ⟨c1, by rw [h2, hd, List.find?_cons_of_neg (by simpa using n)]⟩ (by omega)
        rw [← nI_1] at q
        exact q
      · have n := of_decide_eq_true ((bI_n0 _).mp c)
        refine xP hP ⟨rfl, Or.inl ⟨x, fs[x], hx, ?_, by rw [← ix]⟩⟩
        rw [h2, hd, List.find?_cons_of_pos (by simpa using n)]
  refine xgo [3] 10 hA ?_
  exact key 0 ⟨Nat.zero_le _, rfl⟩
set_option maxRecDepth 20000 in
theorem c_isSo2 {e b t : Nat} {tv : Int32} {ts tb : List Nat} {s : SS} {c : CN} (et : tv = nI t) (hM : mok M) (R : mrS S ts s) (he : e < s.n) (G : sg S b tb) (W : teM S b tb t c) (ht : t < 4000) : xMet l D 2 y_Mo_isSo [.ref M.1, .int tv, .int (nI e)] (mH h0 M S) 0 0 (fun o h' => h' = mH h0 M S ∧ o = .inl (some (.int (bI (cH ts tb s c e))))) := by
  subst et
  have I := R.2.2.2.2.2
  have hn5 : s.n ≤ 500 := I.1.1
  obtain ⟨⟨⟨a1, a2, a3, a4, a5, a6⟩, b1, b2, b3, b4, b5, b6⟩, cc, dd⟩ := R.2.2.1.1 e he
  have h4 : s.F 4 e ≤ s.n := (I.1.2.2.2.2 e he).2.2.2.2.1.1
  obtain ⟨w0, w1, w2, w3, w4, w5, w6⟩ := W
  have he1 : e < 1000 := by omega
  refine m_Mo_isSo (Nat.le_of_ble_eq_true rfl) fun X hl hD hP hA => ?_
  subst hl hD
  have fin : ∀ (v : Int32) (q : Bool), cH ts tb s c e = q → v = bI q → narrow .boolean (.int v) = .int v ∧ X.P (.inl (some (.int v))) (mH h0 M S) := by
    intro v q e1 e2
    subst e2
    exact ⟨bI_nar q, xP hP ⟨rfl, by rw [e1]⟩⟩
  refine xgo [] 90 hA ?_
  refine ya (by rfl) ?_
  refine yl (i := t) hM (by rfl) rfl ht ?_
  have cs : c.1 = 0 ∨ c.1 = 1 ∨ c.1 = 2 ∨ c.1 = 3 ∨ c.1 = 4 ∨ c.1 = 5 := by omega
  rcases cs with z | z | z | z | z | z
  · -- a field
    obtain ⟨u1, u2, u3, u4, u5⟩ := w0 z
    have eC : cH ts tb s c e = fH ts tb s c e := by
      unfold cH
      rw [z]; rfl
    rw [u1]
    have sga : sg S (b + c.2.1.1) (sub tb c.2.1) := G.sub u4
    have u3' : S.2 64 t = nI (sub tb c.2.1).length := by rw [u3, sub_len u4]
    refine xf (by split <;> decide) ?_
    refine ya (by rfl) ?_
    refine yl (i := t) hM (by rfl) rfl ht ?_
    refine ya (by rfl) ?_
    refine yl (i := t) hM (by rfl) rfl ht ?_
    refine xcV (mH_m _ _ _) (c_fieldOf2 u2 u3' hM R he sga) (by rfl) (by rfl) (by rfl) (Nat.zero_le _) (Nat.zero_le _) ?_
    rintro o h' ⟨rfl, ⟨i, q, hq, hfd, rfl⟩ | ⟨hfd, rfl⟩⟩
    rotate_left
    · refine xt (by decide) ?_
      exact fin 0 false (by rw [eC, fH, hfd]; rfl) rfl
    have hi := (List.getElem?_eq_some_iff.mp hq).1
    have hfl : (s.fd e).length ≤ 6 := (I.2.1 e he).1
    obtain ⟨m1, m2, m3, m4, m5, m6⟩ := dd i q hq
    refine xf (nI_neg (by omega)) ?_
    cases hu : c.2.2.1 with
    | none =>
      refine xt rfl ?_
      refine fin 1 true ?_ rfl
      rw [eC, fH, hfd]
      show fvH tb c (some (nmB ts q)) = true
      unfold fvH
      rw [hu]
    | some u =>
      refine xf (by show ¬ (2 : Int32) = 1; decide) ?_
      obtain ⟨v1, v2, v3⟩ := u5 u hu
      have sgu : sg S (b + u.1) (sub tb u) := G.sub v3
      have v2' : S.2 66 t = nI (sub tb u).length := by rw [v2, sub_len v3]
      have sgv : sg S q.2.1 (sub ts q.2) := by
        have := R.2.1.1.sub m6
        rw [Nat.zero_add] at this
        exact this
      have m4' : S.2 29 (6 * e + i) = nI (sub ts q.2).length := by rw [m4, sub_len m6]
      refine ya (by rfl) ?_
      refine yl (i := 6 * e + i) hM (by rfl) rfl (by show 6 * e + i < 6000; omega) ?_
      refine ya (by rfl) ?_
      refine yl (i := 6 * e + i) hM (by rfl) rfl (by show 6 * e + i < 6000; omega) ?_
      refine ya (by rfl) ?_
      refine yl (i := t) hM (by rfl) rfl ht ?_
      refine ya (by rfl) ?_
      refine yl (i := t) hM (by rfl) rfl ht ?_
      refine xcV (mH_m _ _ _) (c_sameW m3 m4' v1 v2' hM sgv sgu) (by rfl) (by rfl) (by rfl) (Nat.zero_le _) (Nat.zero_le _) ?_
      rintro o h' ⟨rfl, rfl⟩
      have eF : cH ts tb s c e = decide (sub ts q.2 = sub tb u) := by
        rw [eC, fH, hfd]
        show fvH tb c (some (nmB ts q)) = _
        unfold fvH
        rw [hu]
        rfl
      refine xb (fun c1 => ?_) (fun c1 => ?_)
      · exact fin 0 false (by rw [eF]; exact (bI_0 _).mp c1) rfl
      · exact fin 1 true (by rw [eF]; exact (bI_n0 _).mp c1) rfl
  · rw [w1 z]
    have eC : cH ts tb s c e = decide (s.F 4 e = 1) := by unfold cH; rw [if_pos z]
    refine xt (by decide) ?_
    refine xfn rfl ?_
    refine ya (by rfl) ?_
    refine yl (i := e) hM (by rfl) rfl he1 ?_
    rw [a6]
    refine xb (fun c1 => ?_) (fun c1 => ?_)
    · exact fin 0 false (by rw [eC]; exact decide_eq_false (fun y => c1 (by rw [y]; rfl))) rfl
    · exact fin 1 true (by rw [eC]; exact decide_eq_true ((nI_eq (b := 1) (by omega) (by decide)).mp c1)) rfl
  · rw [w2 z]
    have eC : cH ts tb s c e = decide (s.F 10 e = 0) := by unfold cH; rw [z]; rfl
    refine xt (by decide) ?_
    refine xtn (by decide) ?_
    refine xfn rfl ?_
    refine ya (by rfl) ?_
    refine yl (i := e) hM (by rfl) rfl he1 ?_
    refine xcV (mH_m _ _ _) (c_among2 hM R he) (by rfl) (by rfl) (by rfl) (Nat.zero_le _) (Nat.zero_le _) ?_
    rintro o h' ⟨rfl, rfl⟩
    have hA := among_iff I he
    have hC : (if s.F 2 e = 0 then s.tm else s.F 8 (s.F 2 e - 1)) ≤ s.n := by
      have h2 : s.F 2 e ≤ e := I.f2 e he
      split
      · exact I.1.2.2.1
      · exact (I.1.2.2.2.2 (s.F 2 e - 1) (by show s.F 2 e - 1 < s.n; omega)).2.2.2.2.1.2.1
    rw [a6]
    refine xb (fun c1 => ?_) (fun c1 => ?_)
    · exact fin 0 false (by rw [eC]; exact decide_eq_false (fun y => c1 (by rw [hA.mp y]))) rfl
    · exact fin 1 true (by rw [eC]; exact decide_eq_true (hA.mpr ((nI_eq (by omega) (by omega)).mp c1))) rfl
  · rw [w3 z]
    have eC : cH ts tb s c e = (s.F 8 e == 0 && s.F 11 e == 0) := by unfold cH; rw [z]; rfl
    refine xt (by decide) ?_
    refine xtn (by decide) ?_
    refine xtn (by decide) ?_
    refine xfn rfl ?_
    refine ya (by rfl) ?_
    refine ylz (i := e) hM (by rfl) rfl he1 ?_
    rw [b6]
    exact fin _ _ eC rfl
  · obtain ⟨u1, u2, u3⟩ := w4 z
    rw [u1]
    have eC : cH ts tb s c e = decide (s.F 4 e = c.2.2.2) := by unfold cH; rw [z]; rfl
    refine xt (by decide) ?_
    refine xtn (by decide) ?_
    refine xtn (by decide) ?_
    refine xtn (by decide) ?_
    refine xfn rfl ?_
    refine ya (by rfl) ?_
    refine yl (i := e) hM (by rfl) rfl he1 ?_
    refine ya (by rfl) ?_
    refine yl (i := t) hM (by rfl) rfl ht ?_
    rw [a6, u2]
    refine xb (fun c1 => ?_) (fun c1 => ?_)
    · exact fin 0 false (by rw [eC]; exact decide_eq_false (fun y => c1 (by rw [y]))) rfl
    · exact fin 1 true (by rw [eC]; exact decide_eq_true ((nI_eq (by omega) (by omega)).mp c1)) rfl
  · obtain ⟨u1, u2, u3, u4⟩ := w5 z
    rw [u1]
    have eC : cH ts tb s c e = !decide (elN ts s e = sub tb c.2.1) := by unfold cH; rw [z]; rfl
    have hsi : s.F 0 e + s.F 1 e ≤ ts.length := (I.2.1 e he).2.2.2.1
    have sge : sg S (s.F 0 e) (elN ts s e) := by
      have := R.2.1.1.sub (a := (s.F 0 e, s.F 1 e)) hsi
      rw [Nat.zero_add] at this
      exact this
    have a2' : S.2 13 e = nI (elN ts s e).length := by rw [a2, elN, sub_len (a := (s.F 0 e, s.F 1 e)) hsi]
    have sga : sg S (b + c.2.1.1) (sub tb c.2.1) := G.sub u4
    have u3' : S.2 64 t = nI (sub tb c.2.1).length := by rw [u3, sub_len u4]
    refine xt (by decide) ?_
    refine xtn (by decide) ?_
    refine xtn (by decide) ?_
    refine xtn (by decide) ?_
    refine xtn (by decide) ?_
    refine ya (by rfl) ?_
    refine yl (i := e) hM (by rfl) rfl he1 ?_
    refine ya (by rfl) ?_
    refine yl (i := e) hM (by rfl) rfl he1 ?_
    refine ya (by rfl) ?_
    refine yl (i := t) hM (by rfl) rfl ht ?_
    refine ya (by rfl) ?_
    refine yl (i := t) hM (by rfl) rfl ht ?_
    refine xcV (mH_m _ _ _) (c_sameW a1 a2' u2 u3' hM sge sga) (by rfl) (by rfl) (by rfl) (Nat.zero_le _) (Nat.zero_le _) ?_
    rintro o h' ⟨rfl, rfl⟩
    refine xb (fun c1 => ?_) (fun c1 => ?_)
    · exact fin 0 false (by rw [eC, (bI_n0 _).mp c1]; rfl) rfl
    · exact fin 1 true (by rw [eC, (bI_0 _).mp c1]; rfl) rfl
set_option maxRecDepth 20000 in
theorem c_stepFits2 {e b k f : Nat} {kv : Int32} {ts tb : List Nat} {s : SS} {st : ST} (ek : kv = nI k) (hM : mok M) (R : mrS S ts s) (he : e < s.n) (G : sg S b tb) (W : stM S b tb k f st) (hk : k < 1000) (hf : f + st.2.2.length ≤ 4000) : xMet l D 3 y_Mo_stepFits [.ref M.1, .int kv, .int (nI e)] (mH h0 M S) 0 0 (fun o h' => h' = mH h0 M S ∧ o = .inl (some (.int (bI (stH ts tb s st e))))) := by
  subst ek
  have I := R.2.2.2.2.2
  have hn5 : s.n ≤ 500 := I.1.1
  obtain ⟨⟨⟨a1, a2, a3, a4, a5, a6⟩, -⟩, -, -⟩ := R.2.2.1.1 e he
  obtain ⟨w1, w2, w3, w4, w5, w6⟩ := W
  have he1 : e < 1000 := by omega
  refine m_Mo_stepFits (Nat.le_of_ble_eq_true rfl) fun X hl hD hP hA => ?_
  subst hl hD
  have fin : ∀ (v : Int32) (q : Bool), stH ts tb s st e = q → v = bI q → narrow .boolean (.int v) = .int v ∧ X.P (.inl (some (.int v))) (mH h0 M S) := by
    intro v q e1 e2
    subst e2
    exact ⟨bI_nar q, xP hP ⟨rfl, by rw [e1]⟩⟩
  have key : nmH ts tb s st.1 e = true → ∀ x : Nat, (x ≤ st.2.2.length ∧ st.2.2.all (fun c => cH ts tb s c e) = (st.2.2.drop x).all (fun c => cH ts tb s c e)) → xG X 44 [(3, .int (nI x)), (0, .ref M.1), (1, .int (nI k)), (2, .int (nI e))] [] (mH h0 M S) 0 0 := by
    intro hnm
    refine xind _ _ (fun x => st.2.2.length - x) (fun x hx ih => ?_)
    obtain ⟨h1, h2⟩ := hx
    refine xgo [44] 60 hA ?_
    refine ya (by rfl) ?_
    refine yl (i := k) hM (by rfl) rfl hk ?_
    rw [w4]
    refine xb (fun c => ?_) (fun c => ?_)
    · have c1 := (nI_leI (a := st.2.2.length) (b := x) (by omega) (by omega)).mp c
      refine fin 1 true ?_ rfl
      rw [stH, hnm, h2, List.drop_eq_nil_of_le c1]; rfl
    · have c1 : x < st.2.2.length := Nat.lt_of_not_le fun z => c (nI_le z (by omega))
      have hd : st.2.2.drop x = st.2.2[x] :: st.2.2.drop (x + 1) := List.drop_eq_getElem_cons c1
      have W := w6 x _ (List.getElem?_eq_getElem c1)
      refine ya (by rfl) ?_
      refine yl (i := k) hM (by rfl) rfl hk ?_
      rw [w3]
      refine xcV (mH_m _ _ _) (c_isSo2 (nI_add f x) hM R he G W (by omega)) (by rfl) (by rfl) (by rfl) (Nat.zero_le _) (Nat.zero_le _) ?_
      rintro o h' ⟨rfl, rfl⟩
      refine xb (fun c => ?_) (fun c => ?_)
      · have n := (bI_n0 _).mp c
        have q := ih (x + 1) ⟨c1, by rw [h2, hd, List.all_cons, n, Bool.true_and]⟩ (by omega)
        rw [← nI_1] at q
        exact q
      · have n := (bI_0 _).mp c
        refine fin 0 false ?_ rfl
        rw [stH, h2, hd, List.all_cons, n, Bool.false_and, Bool.and_false]
  refine xgo [44] 60 hA ?_
  refine ya (by rfl) ?_
  refine yl (i := k) hM (by rfl) rfl hk ?_
  cases hn : st.1 with
  | none =>
    rw [hn] at w1
    rw [show S.2 58 k = 0 from w1]
    refine xt (by decide) ?_
    exact key (by rw [hn]; rfl) 0 ⟨Nat.zero_le _, rfl⟩
  | some a =>
    rw [hn] at w1
    obtain ⟨u1, u2, u3, u4⟩ := w1
    rw [u2]
    have hsi : s.F 0 e + s.F 1 e ≤ ts.length := (I.2.1 e he).2.2.2.1
    have sge : sg S (s.F 0 e) (elN ts s e) := by
      have := R.2.1.1.sub (a := (s.F 0 e, s.F 1 e)) hsi
      rw [Nat.zero_add] at this
      exact this
    have a2' : S.2 13 e = nI (elN ts s e).length := by rw [a2, elN, sub_len (a := (s.F 0 e, s.F 1 e)) hsi]
    have sga : sg S (b + a.1) (sub tb a) := G.sub u4
    have u2' : S.2 58 k = nI (sub tb a).length := by rw [u2, sub_len u4]
    have l50 : a.2 ≤ 50000 := by have := G.2.1; omega
    refine xf (fun y => by
      have := (nI_leI (a := a.2) (b := 0) (by omega) (by decide)).mp y
      omega) ?_
    refine ya (by rfl) ?_
    refine yl (i := e) hM (by rfl) rfl he1 ?_
    refine ya (by rfl) ?_
    refine yl (i := e) hM (by rfl) rfl he1 ?_
    refine ya (by rfl) ?_
    refine yl (i := k) hM (by rfl) rfl hk ?_
    refine ya (by rfl) ?_
    refine yl (i := k) hM (by rfl) rfl hk ?_
    refine xcV (mH_m _ _ _) (c_sameW a1 a2' u1 u2' hM sge sga) (by rfl) (by rfl) (by rfl) (Nat.zero_le _) (Nat.zero_le _) ?_
    rintro o h' ⟨rfl, rfl⟩
    refine xb (fun c => ?_) (fun c => ?_)
    · have n := of_decide_eq_true ((bI_n0 _).mp c)
      refine key ?_ 0 ⟨Nat.zero_le _, rfl⟩
      rw [hn]
      exact decide_eq_true n.symm
    · have n := of_decide_eq_false ((bI_0 _).mp c)
      refine fin 0 false ?_ rfl
      rw [stH, hn]
      have : nmH ts tb s (some a) e = false := decide_eq_false (fun z => n z.symm)
      rw [this]; rfl
end
