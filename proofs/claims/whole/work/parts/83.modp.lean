/-! THE REFERENCE, 16: ends of elements, fields -/
theorem opn_fin {F : SF} {e a b c x y : Nat} : opn (up (up (up F 12 e a) 14 e b) 16 e c) x y ↔ opn F x y := by rw [opn_up (by decide), opn_up (by decide), opn_up (by decide)]
theorem up_ne {F : SF} {f k v g x : Nat} (h : g ≠ f) : up F f k v g x = F g x := by unfold up; rw [if_neg (fun z => h z.1)]
theorem up_nk {F : SF} {f k v x : Nat} (h : x ≠ k) : up F f k v f x = F f x := by unfold up; rw [if_neg (fun z => h z.2)]
theorem up_eq {F : SF} {f k v : Nat} : up F f k v f k = v := by unfold up; rw [if_pos ⟨rfl, rfl⟩]
/-- an element ends -/
theorem SoR.fin {S S' : MS} {t : List Nat} {s : SS} {p e j op' : Nat} (H : SoR S t s p) (hj : j ≤ t.length) (hS : S' = s2 (s2 (s1 S 38 (nI j)) 23 e (nI s.ps.length)) 21 e (nI j)) (hc : ∀ k, k < s.n → k ≠ e → ¬ opn s.F op' (k + 1) → ¬ opn s.F s.op (k + 1)) : SoR S' t (opnE (finE s e j) op') j := by
  obtain ⟨g1, g2, g3, g4, g5, g6, g7⟩ := H
  have g : gF [38] (fun k i => (k = 23 ∨ k = 21) ∧ i = e) S S' := by
    rw [hS]
    exact (((gF.refl _ _ _).p (by decide)).s ⟨Or.inl rfl, rfl⟩).s ⟨Or.inr rfl, rfl⟩
  have e21 : S'.2 21 e = nI j := by rw [hS]; simp [s2]
  have e23 : S'.2 23 e = nI s.ps.length := by rw [hS]; simp [s2]
  refine ⟨g1.gf g (by decide) (fun i _ _ => by omega), ⟨by rw [g.1 6 (by decide)]; exact g2.1, by rw [hS]; rfl, hj⟩, ⟨by rw [g.1 11 (by decide)]; exact g3.1, by rw [g.1 32 (by decide)]; exact g3.2.1, by rw [g.1 37 (by decide)]; exact g3.2.2.1, by rw [g.1 39 (by decide)]; exact g3.2.2.2.1, by rw [g.1 40 (by decide)]; exact g3.2.2.2.2⟩, fun k hk => ?_, g5.eq (fun j i _ _ _ => g.2 j i (by omega)), g6.eq (fun j i _ _ _ => g.2 j i (by omega)), g7⟩
  have hk' : k < s.n := hk
  obtain ⟨⟨⟨a1, a2, a3, a4, a5, a6⟩, b1, b2, b3, b4, b5, b6⟩, c, d⟩ := g4 k hk'
  have hG : ∀ f x, f ≠ 12 → f ≠ 14 → f ≠ 16 → (opnE (finE s e j) op').F f x = s.F f x := fun f x h1 h2 h3 => by
    show up (up (up s.F 12 e j) 14 e s.ps.length) 16 e s.pc.length f x = _
    rw [up_ne h3, up_ne h2, up_ne h1]
  have hO : opn (opnE (finE s e j) op').F (opnE (finE s e j) op').op (k + 1) ↔ opn s.F op' (k + 1) := opn_fin
  refine ⟨⟨⟨?_, ?_, ?_, ?_, ?_, ?_⟩, ?_, ?_, ?_, ?_, ?_, ?_⟩, ?_, ?_⟩
  · rw [g.2 12 k (by omega), hG _ _ (by decide) (by decide) (by decide)]; exact a1
  · rw [g.2 13 k (by omega), hG _ _ (by decide) (by decide) (by decide)]; exact a2
  · rw [g.2 14 k (by omega), hG _ _ (by decide) (by decide) (by decide)]; exact a3
  · rw [g.2 15 k (by omega), hG _ _ (by decide) (by decide) (by decide)]; exact a4
  · rw [g.2 16 k (by omega), hG _ _ (by decide) (by decide) (by decide)]; exact a5
  · rw [g.2 17 k (by omega), hG _ _ (by decide) (by decide) (by decide)]; exact a6
  · rw [g.2 18 k (by omega), hG _ _ (by decide) (by decide) (by decide)]; exact b1
  · rw [g.2 19 k (by omega)]; exact b2
  · rw [g.2 20 k (by omega), hG _ _ (by decide) (by decide) (by decide)]; exact b3
  · rw [g.2 22 k (by omega), hG _ _ (by decide) (by decide) (by decide)]; exact b4
  · rw [g.2 24 k (by omega), hG _ _ (by decide) (by decide) (by decide)]; exact b5
  · rw [g.2 25 k (by omega), hG _ _ (by decide) (by decide) (by decide), hG _ _ (by decide) (by decide) (by decide)]; exact b6
  · rw [hO]
    intro no
    by_cases z : k = e
    · subst z
      refine ⟨?_, ?_⟩
      · rw [e21]
        show nI j = nI (up (up (up s.F 12 k j) 14 k s.ps.length) 16 k s.pc.length 12 k)
        rw [up_ne (by decide), up_ne (by decide), up_eq]
      · rw [e23]
        show nI _ = nI (up (up (up s.F 12 k j) 14 k s.ps.length) 16 k s.pc.length 14 k)
        rw [up_ne (by decide), up_eq]
    · obtain ⟨c1, c2⟩ := c (hc k hk' z no)
      refine ⟨?_, ?_⟩
      · rw [g.2 21 k (by omega), c1]
        show nI _ = nI (up (up (up s.F 12 e j) 14 e s.ps.length) 16 e s.pc.length 12 k)
        rw [up_ne (by decide), up_ne (by decide), up_nk z]
      · rw [g.2 23 k (by omega), c2]
        show nI _ = nI (up (up (up s.F 12 e j) 14 e s.ps.length) 16 e s.pc.length 14 k)
        rw [up_ne (by decide), up_nk z, up_ne (by decide)]
  · intro i q hq
    rw [g.2 26 _ (by omega), g.2 27 _ (by omega), g.2 28 _ (by omega), g.2 29 _ (by omega)]
    exact d i q hq
theorem mI_nI {x : Nat} (h : x ≠ 0) : mI x = nI (x - 1) := by unfold mI; rw [if_neg h]
section
variable {l : Launch} {D : xD} {h0 : xH} {M : MA} {S : MS}
set_option maxRecDepth 20000 in
theorem c_sameW {a b : Nat} {av bv nv mv : Int32} {w v : List Nat} (ea : av = nI a) (en : nv = nI w.length) (eb : bv = nI b) (em : mv = nI v.length) (hM : mok M) (A : sg S a w) (B : sg S b v) : xMet l D 0 y_Mo_same [.ref M.1, .int av, .int nv, .int bv, .int mv] (mH h0 M S) 0 0 (fun o h' => h' = mH h0 M S ∧ o = .inl (some (.int (bI (decide (w = v)))))) := by
  subst ea eb en em
  exact c_Mo_same hM A B
set_option maxRecDepth 20000 in
theorem c_closed2 {p : Nat} {t : List Nat} {s : SS} (hM : mok M) (R : SoR S t s p) (I : SI t s) (hlt : p < t.length) : xMet l D 2 y_Mo_closed [.ref M.1, .int (mI s.op)] (mH h0 M S) 0 0 (fun o h' => ∃ S' v, h' = mH h0 M S' ∧ o = .inl (some (.int v)) ∧ gF soL soP S S' ∧ soRes S' t s (sEnd t (p + 1) s) ∧ ∀ q, sEnd t (p + 1) s = .ok q → v = mI q.1.op) := by
  obtain ⟨T, ⟨hf, h38, hp⟩, ⟨h11, h32, h37, h39, h40⟩, hel, hpsM, hen, hel40⟩ := id R
  have hB := T.2.2.2.2.2
  have hl := T.2.2.2.2.1
  have hopn : s.op ≤ s.n := I.2.2.1
  have hn5 : s.n ≤ 500 := I.1.1
  refine m_Mo_closed (Nat.le_of_ble_eq_true rfl) fun X hl hD hP hA => ?_
  subst hl hD
  refine xgo [] 90 hA ?_
  by_cases z : s.op = 0
  · rw [z]
    refine xf (by decide) ?_
    refine yg (by rfl) ?_
    rw [h38]
    refine xcV (mH_m _ _ _) (c_Mo_wrong hf) (by rfl) (by rfl) (by rfl) (Nat.zero_le _) (Nat.zero_le _) ?_
    rintro o h' ⟨rfl, rfl⟩
    have e : sEnd t (p + 1) s = .error (p + 1) := by rw [sEnd, if_pos z]
    exact xP hP ⟨_, _, rfl, rfl, (gF.refl _ _ _).p (by decide), soRes.er T e (by omega) (by rw [nI_1]), fun q hq => by rw [e] at hq; cases hq⟩
  refine xt (mI_pos z (by omega)) ?_
  obtain ⟨e, he⟩ : ∃ e, e = s.op - 1 := ⟨_, rfl⟩
  have hel' : e < s.n := by omega
  rw [mI_nI z, ← he]
  have eR0 : sEnd t (p + 1) s = (pB (pName t (p + 2)) fun a j => if sub t a = sub t (s.F 0 e, s.F 1 e) then pB (pSig 62 t j) fun _ m => .ok (opnE (finE s e m) (s.F 2 e), m) else .error (p + 2)) := by rw [sEnd, if_neg z, ← he]
  refine yg (by rfl) ?_
  rw [h38]
  refine xcV (mH_m _ _ _) (c_nameF (k := p + 2) (nI_add p 2) hM T hf (by omega)) (by rfl) (by rfl) (by rfl) (Nat.zero_le _) (Nat.zero_le _) ?_
  rintro o h' (⟨v, rfl, eN, rfl⟩ | ⟨a, j, eN, rfl, rfl⟩)
  · refine yg (by rfl) ?_
    rw [s1_eq]
    refine xf (nI_neg (by omega)) ?_
    have e : sEnd t (p + 1) s = .error (p + 2) := by rw [eR0, pB_er eN]
    exact xP hP ⟨_, _, rfl, rfl, (gF.refl _ _ _).p (by decide), soRes.er T e (by omega) rfl, fun q hq => by rw [e] at hq; cases hq⟩
  obtain ⟨n1, n2, n3, n4, n5, n6, n7⟩ := pName_sub eN
  have hal : a.1 + a.2 ≤ t.length := by omega
  have hwl := sub_len hal
  have hew : nI j - (nI p + 2) = nI (sub t a).length := by
    show nI j - (nI p + nI 2) = _
    rw [nI_add, nI_sub (by omega), hwl, show j - (p + 2) = a.2 by omega]
  have ek : nI p + 2 = nI (p + 2) := nI_add p 2
  have sgw : sg S (p + 2) (sub t a) := by
    have := T.sg hal
    rw [n1, Nat.zero_add] at this
    exact this
  obtain ⟨⟨⟨a1, a2, a3, -, -, -⟩, -⟩, -, -⟩ := hel e hel'
  have hsi : s.F 0 e + s.F 1 e ≤ t.length := (I.2.1 e hel').2.2.2.1
  have sge : sg S (s.F 0 e) (sub t (s.F 0 e, s.F 1 e)) := by
    have := T.sg (a := (s.F 0 e, s.F 1 e)) hsi
    rw [Nat.zero_add] at this
    exact this
  rw [pB_ok eN] at eR0
  refine yg (by rfl) ?_
  rw [hf]
  refine xt (by decide) ?_
  refine ya (by rfl) ?_
  refine yl (i := e) hM (by rfl) rfl (by show e < 1000; omega) ?_
  refine ya (by rfl) ?_
  refine yl (i := e) hM (by rfl) rfl (by show e < 1000; omega) ?_
  have a2' : S.2 13 e = nI (sub t (s.F 0 e, s.F 1 e)).length := by rw [a2, sub_len (a := (s.F 0 e, s.F 1 e)) hsi]
  refine xcV (mH_m _ _ _) (c_sameW (w := sub t (s.F 0 e, s.F 1 e)) (v := sub t a) a1 a2' ek hew hM sge sgw) (by rfl) (by rfl) (by rfl) (Nat.zero_le _) (Nat.zero_le _) ?_
  rintro o h' ⟨rfl, rfl⟩
  refine xb (fun c => ?_) (fun c => ?_)
  rotate_left
  · have c1 := of_decide_eq_false ((bI_0 _).mp c)
    refine xcV (mH_m _ _ _) (c_Mo_wrong hf) (by rfl) (by rfl) (by rfl) (Nat.zero_le _) (Nat.zero_le _) ?_
    rintro o h' ⟨rfl, rfl⟩
    have e : sEnd t (p + 1) s = .error (p + 2) := by rw [eR0, if_neg (fun z => c1 z.symm)]
    exact xP hP ⟨_, _, rfl, rfl, (gF.refl _ _ _).p (by decide), soRes.er T e (by omega) (by rw [ek]), fun q hq => by rw [e] at hq; cases hq⟩
  have c1 := of_decide_eq_true ((bI_n0 _).mp c)
  rw [if_pos c1.symm] at eR0
  have T' : ∀ v : Int32, tx (s1 S 38 v) 0 t := fun v => T.p (by decide) (by decide)
  obtain ⟨q, hq⟩ : ∃ q, q = scan bl t j := ⟨_, rfl⟩
  have hql : q ≤ t.length := by rw [hq]; exact scan_le n6
  have hcq : ch t q ≤ 256 := hB.le q
  refine yp (by rfl) ?_
  refine xcV (mH_m _ _ _) (c_blanks2 (p := j) hM (T' _) (s1_eq _ _ _) (by omega)) (by rfl) (by rfl) (by rfl) (Nat.zero_le _) (Nat.zero_le _) ?_
  rintro o h' ⟨rfl, rfl⟩
  rw [s1_s1, ← hq]
  refine yg (by rfl) ?_
  rw [s1_eq]
  refine xcV (mH_m _ _ _) (c_Mo_byteAt (k := q) hM (T' _) (by omega)) (by rfl) (by rfl) (by rfl) (Nat.zero_le _) (Nat.zero_le _) ?_
  rintro o h' ⟨rfl, rfl⟩
  refine xb (fun c => ?_) (fun c => ?_)
  rotate_left
  · have c2 : ¬ ch t q = 62 := fun z => c ((cI_lit (k := 62) hcq (by decide)).mpr z)
    refine yg (by rfl) ?_
    rw [s1_eq]
    refine xcV (mH_m _ _ _) (c_Mo_wrong hf) (by rfl) (by rfl) (by rfl) (Nat.zero_le _) (Nat.zero_le _) ?_
    rintro o h' ⟨rfl, rfl⟩
    have e : sEnd t (p + 1) s = .error q := by rw [eR0, pB_er]; rw [pSig, ← hq, pExp, if_neg c2]
    exact xP hP ⟨_, _, rfl, rfl, ((gF.refl _ _ _).p (by decide)).p (by decide), soRes.er (T' _) e (by omega) rfl, fun q hq => by rw [e] at hq; cases hq⟩
  have c2 := (cI_lit (k := 62) hcq (by decide)).mp c
  have hqlt := ch_lt c2 (by decide)
  have eR' : sEnd t (p + 1) s = .ok (opnE (finE s e (q + 1)) (s.F 2 e), q + 1) := by rw [eR0, pB_ok (a := ()) (i := q + 1)]; rw [pSig, ← hq, pExp, if_pos c2]
  refine yg (by rfl) ?_
  rw [s1_eq]
  refine yp (by rfl) ?_
  rw [s1_s1, nI_1]
  refine ya (by rfl) ?_
  refine yg (by rfl) ?_
  refine ys (i := e) hM (by rfl) rfl (by show e < 1000; omega) ?_
  refine ya (by rfl) ?_
  refine yg (by rfl) ?_
  refine ys (i := e) hM (by rfl) rfl (by show e < 1000; omega) ?_
  refine ya (by rfl) ?_
  refine yl (i := e) hM (by rfl) rfl (by show e < 1000; omega) ?_
  refine xP hP ⟨_, _, rfl, rfl, ?_, ?_, ?_⟩
  · refine (((gF.refl _ _ _).p (by decide)).s ?_).s ?_
    all_goals unfold soP; omega
  · rw [eR']
    refine ⟨R.fin (e := e) (j := q + 1) hqlt ?_ ?_, Nat.le_succ _⟩
    · rw [← h32]; rfl
    · intro k hk hke no op
      rcases opn.cs z op with y | y
      · exact hke (by omega)
      · rw [← he] at y; exact no y
  · intro q' hq'
    rw [eR'] at hq'
    cases hq'
    show (s2 (s2 (s1 S 38 _) 23 e _) 21 e _).2 14 e = mI (s.F 2 e)
    rw [s2_na _ _ (by decide), s2_na _ _ (by decide)]
    exact a3
def fld1 (t : List Nat) (x : Nat) (fs : List PR) : Except Nat (PR × Nat) := pB (pName t x) fun a j1 => if fs.length < 6 ∧ fs.all (fun q => !decide (sub t q.1 = sub t a)) = true then pB (pSig 61 t j1) fun _ j2 => pB (pStr t (scan bl t j2)) fun b j3 => .ok ((a, b), j3) else .error x
/-- the last element has one field more -/
def adF (s : SS) (q : PR) : SS := (s.n, s.F, (fun i => if i = s.n - 1 then s.fd i ++ [q] else s.fd i), (s.tm, s.tl), (s.ps, s.pc), s.en, s.op)
set_option maxRecDepth 20000 in
theorem c_field2 {p e : Nat} {t : List Nat} {s : SS} (hM : mok M) (R : SoR S t s p) (hn : s.n = e + 1) (hn5 : s.n ≤ 500) (hfa : ∀ k, k < s.n → (s.fd k).length ≤ 6) : xMet l D 2 y_Mo_field [.ref M.1, .int (nI e)] (mH h0 M S) 0 0 (fun o h' => ∃ S', h' = mH h0 M S' ∧ o = .inl none ∧ gF soL soP S S' ∧ match fld1 t p (s.fd e) with
    | .error w => tx S' 0 t ∧ S'.1 6 = nI w ∧ w ≤ t.length + 9
    | .ok q => SoR S' t (adF s q.1) q.2) := by
  obtain ⟨T, ⟨hf, h38, hp⟩, ⟨h11, h32, h37, h39, h40⟩, hel, hpsM, hen, hel40⟩ := id R
  have hB := T.2.2.2.2.2
  have hl := T.2.2.2.2.1
  obtain ⟨⟨⟨a1, a2, a3, a4, a5, a6⟩, b1, b2, b3, b4, b5, b6⟩, cc, dd⟩ := hel e (by omega)
  have T' : ∀ v : Int32, tx (s1 S 38 v) 0 t := fun v => T.p (by decide) (by decide)
  refine m_Mo_field (Nat.le_of_ble_eq_true rfl) fun X hl hD hP hA => ?_
  subst hl hD
  have hfl := hfa e (by omega)
  obtain ⟨fs, hfs⟩ : ∃ fs, fs = s.fd e := ⟨_, rfl⟩
  rw [← hfs] at hfl b2 dd hP
  refine xgo [22] 60 hA ?_
  refine yg (by rfl) ?_
  rw [h38]
  refine xcV (mH_m _ _ _) (c_nameFrom2 (k := p) hM T hf (by omega)) (by rfl) (by rfl) (by rfl) (Nat.zero_le _) (Nat.zero_le _) ?_
  rintro o h' (⟨v, rfl, eN, rfl⟩ | ⟨a, j, eN, rfl, rfl⟩)
  · refine yp (by rfl) ?_
    refine yg (by rfl) ?_
    refine xf (by show ¬ nI p < 0; exact nI_neg (by omega)) ?_
    refine xP hP ⟨_, rfl, rfl, ((gF.refl _ _ _).p (by decide)).p (by decide), ?_⟩
    rw [fld1, pB_er eN]
    exact ⟨(T.p (by decide) (by decide)).p (by decide) (by decide), rfl, by omega⟩
  obtain ⟨n1, n2, n3, n4, n5, n6, n7⟩ := pName_sub eN
  have hal : a.1 + a.2 ≤ t.length := by omega
  have hwl := sub_len hal
  have hew : nI j - nI p = nI (sub t a).length := by rw [nI_sub (by omega), hwl, show j - p = a.2 by omega]
  refine yp (by rfl) ?_
  refine yg (by rfl) ?_
  refine xt (by show S.1 6 < 0; rw [hf]; decide) ?_
  have sgw : ∀ v : Int32, sg (s1 S 38 v) p (sub t a) := fun v => by
    have := (T' v).sg hal
    rw [n1, Nat.zero_add] at this
    exact this
  show xG X 22 [(2, .int (nI p)), (0, .ref M.1), (1, .int (nI e))] [] (mH h0 M (s1 S 38 (nI j))) _ _
  -- is it there already
  have k107 : ∀ (th : Bool) (xv : Int32), th = (fs.length == 6 || fs.any (fun q => decide (sub t q.1 = sub t a))) → xG X 107 [(4, .int xv), (3, .int (bI th)), (2, .int (nI p)), (0, .ref M.1), (1, .int (nI e))] [] (mH h0 M (s1 S 38 (nI j))) 0 0 := by
    intro th xv hth
    cases th with
    | true =>
      refine xgo [] 20 hA ?_
      refine xf (by decide) ?_
      refine xcV (mH_m _ _ _) (c_Mo_wrong hf) (by rfl) (by rfl) (by rfl) (Nat.zero_le _) (Nat.zero_le _) ?_
      rintro o h' ⟨rfl, rfl⟩
      refine xP hP ⟨_, rfl, rfl, ((gF.refl _ _ _).p (by decide)).p (by decide), ?_⟩
      rw [fld1, pB_ok eN, if_neg]
      · exact ⟨(T' _).p (by decide) (by decide), s1_eq _ _ _, by omega⟩
      · rintro ⟨z1, z2⟩
        have y := hth.symm
        rw [Bool.or_eq_true, beq_iff_eq, List.any_eq_true] at y
        rcases y with y | ⟨q, y1, y2⟩
        · omega
        · have := List.all_eq_true.mp z2 q y1
          rw [y2] at this
          cases this
    | false =>
      have y := hth.symm
      rw [Bool.or_eq_false_iff, beq_eq_false_iff_ne, List.any_eq_false] at y
      have l6 : fs.length < 6 := by omega
      have eF : fld1 t p fs = (pB (pSig 61 t j) fun _ j2 => pB (pStr t (scan bl t j2)) fun b j3 => .ok ((a, b), j3)) := by
        rw [fld1, pB_ok eN, if_pos ⟨l6, List.all_eq_true.mpr (fun q hq => by simpa using y.2 q hq)⟩]
      obtain ⟨f, hff⟩ : ∃ f, f = 6 * e + fs.length := ⟨_, rfl⟩
      have ef : (6 : Int32) * nI e + nI fs.length = nI f := by
        show nI 6 * nI e + nI fs.length = _
        rw [nI_mul, nI_add, hff]
      have hf6 : f < 6000 := by omega
      refine xgo [151] 60 hA ?_
      refine xt rfl ?_
      refine ya (by rfl) ?_
      refine yl (i := e) hM (by rfl) rfl (by show e < 1000; omega) ?_
      rw [show (s1 S 38 (nI j)).2 19 e = nI fs.length from b2]
      refine ya (by rfl) ?_
      refine ys (i := f) hM (by rfl) ef hf6 ?_
      refine ya (by rfl) ?_
      refine yg (by rfl) ?_
      refine ys (i := f) hM (by rfl) ef hf6 ?_
      obtain ⟨S1, hS1⟩ : ∃ S1, S1 = s2 (s2 S 26 f (nI p)) 27 f (nI j - nI p) := ⟨_, rfl⟩
      have g1 : gF [] (fun k i => (k = 26 ∨ k = 27) ∧ i = f) S S1 := by rw [hS1]; exact ((gF.refl _ _ _).s ⟨Or.inl rfl, rfl⟩).s ⟨Or.inr rfl, rfl⟩
      have T1 : tx S1 0 t := T.gf g1 (by decide) (fun i _ _ => by omega)
      have T1' : ∀ v : Int32, tx (s1 S1 38 v) 0 t := fun v => T1.p (by decide) (by decide)
      have hf1 : S1.1 6 = -1 := by rw [g1.1 6 (by simp)]; exact hf
      suffices this : xG X 151 [(4, .int (nI f)), (2, .int (nI p)), (0, .ref M.1), (1, .int (nI e))] [] (mH h0 M (s1 S1 38 (nI j))) 0 0 by
        rw [hS1, ← ef] at this
        exact this.locs (by simp)
      obtain ⟨q, hq⟩ : ∃ q, q = scan bl t j := ⟨_, rfl⟩
      have hql : q ≤ t.length := by rw [hq]; exact scan_le n6
      have hcq : ch t q ≤ 256 := hB.le q
      refine xgo [] 120 hA ?_
      refine xcV (mH_m _ _ _) (c_blanks2 (p := j) hM (T1' _) (s1_eq _ _ _) (by omega)) (by rfl) (by rfl) (by rfl) (Nat.zero_le _) (Nat.zero_le _) ?_
      rintro o h' ⟨rfl, rfl⟩
      rw [s1_s1, ← hq]
      refine yg (by rfl) ?_
      rw [s1_eq]
      refine xcV (mH_m _ _ _) (c_Mo_byteAt (k := q) hM (T1' _) (by omega)) (by rfl) (by rfl) (by rfl) (Nat.zero_le _) (Nat.zero_le _) ?_
      rintro o h' ⟨rfl, rfl⟩
      have gg : ∀ v : Int32, gF soL soP S (s1 S1 38 v) := fun v => ((g1.wk (by simp) (fun k i z => by unfold soP; omega))).p (by decide)
      refine xb (fun c => ?_) (fun c => ?_)
      rotate_left
      · have c2 : ¬ ch t q = 61 := fun z => c ((cI_lit (k := 61) hcq (by decide)).mpr z)
        refine yg (by rfl) ?_
        rw [s1_eq]
        refine xcV (mH_m _ _ _) (c_Mo_wrong hf1) (by rfl) (by rfl) (by rfl) (Nat.zero_le _) (Nat.zero_le _) ?_
        rintro o h' ⟨rfl, rfl⟩
        refine xP hP ⟨_, rfl, rfl, (gg _).p (by decide), ?_⟩
        rw [eF, pB_er (w := q)]
        · exact ⟨(T1' _).p (by decide) (by decide), s1_eq _ _ _, by omega⟩
        · rw [pSig, ← hq, pExp, if_neg c2]
      have c2 := (cI_lit (k := 61) hcq (by decide)).mp c
      have hqlt := ch_lt c2 (by decide)
      rw [pB_ok (a := ()) (i := q + 1) (by rw [pSig, ← hq, pExp, if_pos c2])] at eF
      refine yg (by rfl) ?_
      rw [s1_eq]
      refine yp (by rfl) ?_
      rw [s1_s1, nI_1]
      refine xcV (mH_m _ _ _) (c_blanks2 (p := q + 1) hM (T1' _) (s1_eq _ _ _) (by omega)) (by rfl) (by rfl) (by rfl) (Nat.zero_le _) (Nat.zero_le _) ?_
      rintro o h' ⟨rfl, rfl⟩
      obtain ⟨s0, hs0⟩ : ∃ s0, s0 = scan bl t (q + 1) := ⟨_, rfl⟩
      have hs0l : s0 ≤ t.length := by rw [hs0]; exact scan_le hqlt
      rw [s1_s1, ← hs0]
      rw [← hs0] at eF
      refine yg (by rfl) ?_
      rw [s1_eq]
      refine xcV (mH_m _ _ _) (c_stringFrom2 (k := s0) hM (T1' _) hf1 (by omega)) (by rfl) (by rfl) (by rfl) (Nat.zero_le _) (Nat.zero_le _) ?_
      rintro o h' (⟨v, rfl, eS, rfl⟩ | ⟨b, k, eS, rfl, rfl⟩)
      · refine yp (by rfl) ?_
        refine yg (by rfl) ?_
        refine xf (by
          show ¬ nI s0 < 0
          exact nI_neg (by omega)) ?_
        refine xP hP ⟨_, rfl, rfl, ((gg _).p (by decide)).p (by decide), ?_⟩
        rw [eF, pB_er eS]
        exact ⟨((T1' _).p (by decide) (by decide)).p (by decide) (by decide), rfl, by omega⟩
      obtain ⟨m1, m2, m3, m4, m5⟩ := pStr_sub eS
      rw [pB_ok eS] at eF
      refine yp (by rfl) ?_
      rw [s1_s1]
      refine yg (by rfl) ?_
      refine xt (by show S1.1 6 < 0; rw [hf1]; decide) ?_
      refine ya (by rfl) ?_
      refine ys (i := f) hM (by rfl) rfl hf6 ?_
      refine ya (by rfl) ?_
      refine yg (by rfl) ?_
      refine ys (i := f) hM (by rfl) rfl hf6 ?_
      refine ya (by rfl) ?_
      refine yl (i := e) hM (by rfl) rfl (by show e < 1000; omega) ?_
      refine ys (i := e) hM (by rfl) rfl (by show e < 1000; omega) ?_
      obtain ⟨S2, hS2⟩ : ∃ S2, S2 = s2 (s2 (s2 (s1 S1 38 (nI k)) 28 f (nI s0 + 1)) 29 f (nI k - nI s0 - 2)) 19 e (S.2 19 e + 1) := ⟨_, rfl⟩
      have g2 : gF [] (fun k i => ((26 ≤ k ∧ k ≤ 29) ∧ i = f) ∨ (k = 19 ∧ i = e)) (s1 S 38 (nI k)) S2 := by
        rw [hS2, hS1]
        refine (((((gF.refl _ _ _).s ?_).s ?_)).s ?_).s ?_ |>.s ?_
        all_goals omega
      have e26 : S2.2 26 f = nI a.1 := by rw [hS2, hS1, n1]; simp [s1, s2]
      have e27 : S2.2 27 f = nI a.2 := by rw [hS2, hS1, ← hwl, ← hew]; simp [s1, s2]
      have eb1 : nI b.1 = nI s0 + 1 := by rw [m1, nI_1]
      have e28 : S2.2 28 f = nI b.1 := by rw [hS2, hS1, eb1]; simp [s1, s2]
      have e29 : S2.2 29 f = nI b.2 := by
        have : b.2 = k - s0 - 2 := by omega
        have h2 : nI k - nI s0 - 2 = nI (k - s0 - 2) := by rw [nI_sub (by omega)]; exact nI_sub (b := 2) (by omega)
        rw [hS2, hS1, this, ← h2]
        simp [s1, s2]
      have e19 : S2.2 19 e = nI (fs.length + 1) := by rw [hS2, s2_eq, b2, nI_1]
      have q19 : (s2 (s2 (s1 S1 38 (nI k)) 28 f (nI s0 + 1)) 29 f (nI k - nI s0 - 2)).2 19 e = S.2 19 e := by rw [hS1]; simp [s1, s2]
      refine xP hP ⟨S2, by rw [hS2]; rw [← q19]; rfl, rfl, ((gF.refl soL soP S).p (k := 38) (by decide)).tr g2 (by simp) (fun k i z => by unfold soP; omega), ?_⟩
      rw [eF]
      obtain ⟨r1, r2, r3, r4, r5, r6, r7⟩ := R.mv (q := k) m3
      refine ⟨r1.gf g2 (by decide) (fun i _ _ => by omega), ⟨by rw [g2.1 6 (by simp)]; exact r2.1, by rw [g2.1 38 (by simp)]; exact r2.2.1, r2.2.2⟩, ⟨by rw [g2.1 11 (by simp)]; exact r3.1, by rw [g2.1 32 (by simp)]; exact r3.2.1, by rw [g2.1 37 (by simp)]; exact r3.2.2.1, by rw [g2.1 39 (by simp)]; exact r3.2.2.2.1, by rw [g2.1 40 (by simp)]; exact r3.2.2.2.2⟩, fun x hx => ?_, r5.eq (fun j i _ _ _ => g2.2 j i (by omega)), r6.eq (fun j i _ _ _ => g2.2 j i (by omega)), r7⟩
      have hx' : x < s.n := hx
      have hsn : s.n - 1 = e := by omega
      by_cases z : x = e
      · subst z
        have efd : (adF s (a, b)).fd x = fs ++ [(a, b)] := by
          show (if x = s.n - 1 then s.fd x ++ [(a, b)] else s.fd x) = _
          rw [if_pos hsn.symm, hfs]
        refine ⟨⟨⟨by rw [g2.2 12 x (by omega)]; exact a1, by rw [g2.2 13 x (by omega)]; exact a2, by rw [g2.2 14 x (by omega)]; exact a3, by rw [g2.2 15 x (by omega)]; exact a4, by rw [g2.2 16 x (by omega)]; exact a5, by rw [g2.2 17 x (by omega)]; exact a6⟩, by rw [g2.2 18 x (by omega)]; exact b1, by rw [efd, e19, List.length_append]; rfl, by rw [g2.2 20 x (by omega)]; exact b3, by rw [g2.2 22 x (by omega)]; exact b4, by rw [g2.2 24 x (by omega)]; exact b5, by rw [g2.2 25 x (by omega)]; exact b6⟩, fun z => by rw [g2.2 21 x (by omega), g2.2 23 x (by omega)]; exact cc z, ?_⟩
        rw [efd]
        intro i q hq
        rcases snoc_at hq with ⟨y1, y2⟩ | ⟨y1, y2⟩
        · rw [g2.2 26 _ (by omega), g2.2 27 _ (by omega), g2.2 28 _ (by omega), g2.2 29 _ (by omega)]
          exact dd i q y2
        · subst y1 y2
          rw [← hff]
          exact ⟨e26, e27, e28, e29, hal, by show b.1 + b.2 ≤ t.length; omega⟩
      · have efd : (adF s (a, b)).fd x = s.fd x := by
          show (if x = s.n - 1 then s.fd x ++ [(a, b)] else s.fd x) = _
          rw [if_neg (by omega)]
        obtain ⟨w1, w2, w3⟩ := (r4 x hx').eq (S' := S2) (fun j i hj => g2.2 j i (by
          have hl6 := hfa x hx'
          omega))
        exact ⟨by rw [efd]; exact w1, w2, by rw [efd]; exact w3⟩
  have key : ∀ x : Nat, (x ≤ fs.length) → ∀ th : Bool, th = (fs.length == 6 || (fs.take x).any (fun q => decide (sub t q.1 = sub t a))) → xG X 42 [(4, .int (nI x)), (3, .int (bI th)), (2, .int (nI p)), (0, .ref M.1), (1, .int (nI e))] [] (mH h0 M (s1 S 38 (nI j))) 0 0 := by
    refine xind _ _ (fun x => fs.length - x) (fun x hx ih => ?_)
    intro th hth
    have b2' : (s1 S 38 (nI j)).2 19 e = nI fs.length := b2
    refine xgo [95, 100, 107] 60 hA ?_
    refine ya (by rfl) ?_
    refine yl (i := e) hM (by rfl) rfl (by show e < 1000; omega) ?_
    rw [b2']
    refine xb (fun c => ?_) (fun c => ?_)
    · have : x = fs.length := Nat.le_antisymm hx ((nI_leI (a := fs.length) (b := x) (by omega) (by omega)).mp c)
      subst this
      exact k107 th _ (by rw [hth, List.take_length])
    have c1 : x < fs.length := Nat.lt_of_not_le fun z => c (nI_le z (by omega))
    have htk : fs.take (x + 1) = fs.take x ++ [fs[x]] := by rw [List.take_succ, List.getElem?_eq_getElem c1]; rfl
    have k100 : ∀ th' : Bool, th' = (fs.length == 6 || (fs.take (x + 1)).any (fun q => decide (sub t q.1 = sub t a))) → xG X 100 [(4, .int (nI x)), (3, .int (bI th)), (2, .int (nI p)), (0, .ref M.1), (1, .int (nI e))] [.int (bI th')] (mH h0 M (s1 S 38 (nI j))) 0 0 := by
      intro th' h'
      refine xgo [42] 20 hA ?_
      have q := ih (x + 1) c1 (by omega) th' h'
      rw [← nI_1] at q
      exact q.locs (by simp)
    cases th with
    | true =>
      refine xtn (by decide) ?_
      show xG X 95 _ [] _ _ _
      refine xgo [100] 20 hA ?_
      refine k100 true ?_
      rw [htk, List.any_append, ← Bool.or_assoc, ← hth]; rfl
    | false =>
      refine xfn rfl ?_
      obtain ⟨m1, m2, m3, m4, m5, m6⟩ := dd x _ (List.getElem?_eq_getElem c1)
      have ix : (6 : Int32) * nI e + nI x = nI (6 * e + x) := by
        show nI 6 * nI e + nI x = _
        rw [nI_mul, nI_add]
      have sge : sg (s1 S 38 (nI j)) fs[x].1.1 (sub t fs[x].1) := by
        have := (T' (nI j)).sg m5
        rw [Nat.zero_add] at this
        exact this
      have m2' : (s1 S 38 (nI j)).2 27 (6 * e + x) = nI (sub t fs[x].1).length := by
        show S.2 27 _ = _
        rw [m2, sub_len m5]
      refine ya (by rfl) ?_
      refine yl (i := 6 * e + x) hM (by rfl) ix (by show 6 * e + x < 6000; omega) ?_
      refine ya (by rfl) ?_
      refine yl (i := 6 * e + x) hM (by rfl) ix (by show 6 * e + x < 6000; omega) ?_
      refine yg (by rfl) ?_
      refine xcV (mH_m _ _ _) (c_sameW (w := sub t fs[x].1) (v := sub t a) (b := p) m1 m2' rfl hew hM sge (sgw _)) (by rfl) (by rfl) (by rfl) (Nat.zero_le _) (Nat.zero_le _) ?_
      rintro o h' ⟨rfl, rfl⟩
      refine xb (fun c => ?_) (fun c => ?_)
      · have c2 := (bI_0 _).mp c
        refine k100 false ?_
        rw [htk, List.any_append, ← Bool.or_assoc, ← hth]
        simp only [List.any_cons, List.any_nil, Bool.or_false, Bool.false_or]
        exact c2.symm
      · have c2 := (bI_n0 _).mp c
        show xG X 95 _ [] _ _ _
        refine xgo [100] 20 hA ?_
        refine k100 true ?_
        rw [htk, List.any_append, ← Bool.or_assoc, ← hth]
        simp only [List.any_cons, List.any_nil, Bool.or_false, Bool.false_or]
        exact c2.symm
  have b2' : (s1 S 38 (nI j)).2 19 e = nI fs.length := b2
  refine xgo [42] 60 hA ?_
  refine ya (by rfl) ?_
  refine yl (i := e) hM (by rfl) rfl (by show e < 1000; omega) ?_
  rw [b2']
  refine xb (fun c => ?_) (fun c => ?_)
  · have : ¬ fs.length = 6 := fun z => c (by rw [z]; rfl)
    exact (key 0 (Nat.zero_le _) false (by simp [this])).locs (by simp; exact ⟨rfl, rfl⟩)
  · have : fs.length = 6 := (nI_eq (b := 6) (by omega) (by decide)).mp c
    exact (key 0 (Nat.zero_le _) true (by simp [this])).locs (by simp; exact ⟨rfl, rfl⟩)
end
