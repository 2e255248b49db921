/-! THE REFERENCE, 15: references, definitions -/
section
variable {l : Launch} {D : xD} {h0 : xH} {M : MA} {S : MS}
set_option maxRecDepth 20000 in
theorem c_isWordV {a : Nat} {av nv : Int32} {w u : List Nat} {wd : Int64} (ea : av = nI a) (en : nv = nI w.length) (hM : mok M) (A : sg S a w) (hu : wd = lN (pkN u)) (hul : u.length ≤ 7) (hub : ∀ b ∈ u, 0 < b ∧ b < 256) (hwb : ∀ b ∈ w, 0 < b ∧ b < 256) (hwl : w.length ≤ 20000) : xMet l D 0 y_Mo_isWord [.ref M.1, .int av, .int nv, .long wd] (mH h0 M S) 0 0 (fun o h' => h' = mH h0 M S ∧ o = .inl (some (.int (bI (decide (w = u)))))) := by
  subst ea en
  exact c_Mo_isWord hM A hu hul hub hwb hwl
set_option maxRecDepth 20000 in
theorem c_isFixed2 {k : Nat} {kv nv : Int32} {t w : List Nat} (ek : kv = nI k) (hM : mok M) (T : tx S 0 t) (hw : nv = nI w.length) (A : sg S k w) (hwb : ∀ b ∈ w, 0 < b ∧ b < 256) (hwl : w.length ≤ 20000) : xMet l D 1 y_Mo_isFixed [.ref M.1, .int kv, .int nv] (mH h0 M S) 0 0 (fun o h' => h' = mH h0 M S ∧ o = .inl (some (.int (bI (decide (w = wLt) || decide (w = wAmp)))))) := by
  subst ek
  have e0 : S.1 8 + nI k = nI k := by rw [T.1, nI_add, Nat.zero_add]
  refine m_Mo_isFixed (Nat.le_of_ble_eq_true rfl) fun X hl hD hP hA => ?_
  subst hl hD
  refine xgo [] 60 hA ?_
  refine yg (by rfl) ?_
  refine xcV (mH_m _ _ _) (c_isWordV (u := wLt) e0 hw hM A (by rfl) (by decide) (by decide) hwb hwl) (by rfl) (by rfl) (by rfl) (Nat.zero_le _) (Nat.zero_le _) ?_
  rintro o h' ⟨rfl, rfl⟩
  refine xb (fun c => ?_) (fun c => ?_)
  · exact ⟨rfl, xP hP ⟨rfl, by rw [(bI_n0 _).mp c]; rfl⟩⟩
  refine yg (by rfl) ?_
  refine xcV (mH_m _ _ _) (c_isWordV (u := wAmp) e0 hw hM A (by rfl) (by decide) (by decide) hwb hwl) (by rfl) (by rfl) (by rfl) (Nat.zero_le _) (Nat.zero_le _) ?_
  rintro o h' ⟨rfl, rfl⟩
  refine xb (fun c2 => ?_) (fun c2 => ?_)
  · exact ⟨rfl, xP hP ⟨rfl, by rw [(bI_0 _).mp c, (bI_0 _).mp c2]; rfl⟩⟩
  · exact ⟨rfl, xP hP ⟨rfl, by rw [(bI_0 _).mp c, (bI_n0 _).mp c2]; rfl⟩⟩
theorem soRes.er {S' : MS} {t : List Nat} {s : SS} {S : MS} {w : Nat} {res : Except Nat (SS × Nat)} (T : tx S 0 t) (e : res = .error w) (hw : w ≤ t.length + 9) (hS : S' = s1 S 6 (nI w)) : soRes S' t s res := by
  subst e hS
  exact ⟨T.p (by decide) (by decide), s1_eq _ _ _, hw⟩
set_option maxRecDepth 20000 in
theorem c_reference2 {p : Nat} {t : List Nat} {s : SS} (hM : mok M) (R : SoR S t s p) (hps : s.ps.length ≤ 8192) (hop : s.op ≤ 500) (hlt : p < t.length) : xMet l D 2 y_Mo_reference [.ref M.1, .int (mI s.op)] (mH h0 M S) 0 0 (fun o h' => ∃ S', h' = mH h0 M S' ∧ o = .inl none ∧ gF soL soP S S' ∧ soRes S' t s (sRef t (p + 1) s)) := by
  obtain ⟨T, ⟨hf, h38, hp⟩, ⟨h11, h32, h37, h39, h40⟩, hel, hpsM, hen, hel40⟩ := id R
  have hB := T.2.2.2.2.2
  have hl := T.2.2.2.2.1
  refine m_Mo_reference (Nat.le_of_ble_eq_true rfl) fun X hl hD hP hA => ?_
  subst hl hD
  refine xgo [60, 26] 60 hA ?_
  refine yg (by rfl) ?_
  rw [h38]
  refine xcV (mH_m _ _ _) (c_nameF (k := p + 1) (nI_1 p) hM T hf (by omega)) (by rfl) (by rfl) (by rfl) (Nat.zero_le _) (Nat.zero_le _) ?_
  rintro o h' (⟨v, rfl, eN, rfl⟩ | ⟨a, j, eN, rfl, rfl⟩)
  · refine yg (by rfl) ?_
    rw [s1_eq]
    refine xf (nI_neg (by omega)) ?_
    exact xP hP ⟨_, rfl, rfl, (gF.refl _ _ _).p (by decide), soRes.er T (by rw [sRef, pB_er eN]) (by omega) rfl⟩
  obtain ⟨n1, n2, n3, n4, n5, n6, n7⟩ := pName_sub eN
  have hnb := pName_b hB eN
  obtain ⟨w, hw⟩ : ∃ w, w = sub t a := ⟨_, rfl⟩
  have hal : a.1 + a.2 ≤ t.length := by omega
  have hwl : w.length = a.2 := by rw [hw]; exact sub_len hal
  rw [← hw] at hnb
  have hjk : j - (p + 1) = w.length := by omega
  have sgw : sg S (p + 1) w := by
    have := T.sg hal
    rw [n1, Nat.zero_add, ← hw] at this
    exact this
  have eR : sRef t (p + 1) s = (match look t s w with
    | none => .error (p + 1)
    | some q => pB (pExp 59 t j) fun _ k => .ok (addP s q, k)) := by rw [sRef, pB_ok eN, ← hw]; rfl
  refine yg (by rfl) ?_
  rw [hf]
  refine xt (by decide) ?_
  show xG X 26 [(4, .int (nI j - (nI p + 1))), (3, .int (nI j)), (2, .int (nI p + 1)), (0, .ref M.1), (1, .int (mI s.op))] [] (mH h0 M S) _ _
  rw [nI_1, nI_sub (by omega), hjk]
  -- the sign
  have k60 : ∀ (iv fx : Int32) (q : Nat × Nat), look t s w = some q → ((∃ i e, s.en[i]? = some e ∧ iv = nI i ∧ e.2 = q) ∨ (iv = -1 ∧ ((w.length = 2 ∧ q = (8192, 1)) ∨ (w.length = 3 ∧ q = (8193, 1))))) → xG X 60 [(6, .int fx), (5, .int iv), (4, .int (nI w.length)), (3, .int (nI j)), (2, .int (nI (p + 1))), (0, .ref M.1), (1, .int (mI s.op))] [] (mH h0 M S) 0 0 := by
    intro iv fx q hq hor
    rw [hq] at eR
    have hcj : ch t j ≤ 256 := hB.le j
    refine xgo [124] 60 hA ?_
    refine xcV (mH_m _ _ _) (c_Mo_byteAt (k := j) hM T (by omega)) (by rfl) (by rfl) (by rfl) (Nat.zero_le _) (Nat.zero_le _) ?_
    rintro o h' ⟨rfl, rfl⟩
    refine xb (fun c => ?_) (fun c => ?_)
    rotate_left
    · have c1 : ¬ ch t j = 59 := fun z => c ((cI_lit (k := 59) hcj (by decide)).mpr z)
      refine xcV (mH_m _ _ _) (c_Mo_wrong hf) (by rfl) (by rfl) (by rfl) (Nat.zero_le _) (Nat.zero_le _) ?_
      rintro o h' ⟨rfl, rfl⟩
      exact xP hP ⟨_, rfl, rfl, (gF.refl _ _ _).p (by decide), soRes.er T (by rw [eR]; show pB (pExp 59 t j) _ = _; rw [pB_er]; rw [pExp, if_neg c1]) (by omega) rfl⟩
    have c1 := (cI_lit (k := 59) hcj (by decide)).mp c
    have hjl := ch_lt c1 (by decide)
    have eR' : sRef t (p + 1) s = .ok (addP s q, j + 1) := by rw [eR]; show pB (pExp 59 t j) _ = _; rw [pB_ok (a := ()) (i := j + 1)]; rw [pExp, if_pos c1]
    have fin : (q.1 + q.2 ≤ t.length ∨ q = (8192, 1) ∨ q = (8193, 1)) → xG X 124 [(6, .int fx), (5, .int iv), (4, .int (nI w.length)), (3, .int (nI j)), (2, .int (nI (p + 1))), (0, .ref M.1), (1, .int (mI s.op))] [] (mH h0 M (pcS S s.ps.length q.1 q.2 s.op)) 0 0 := by
      intro hq'
      refine xgo [] 20 hA ?_
      refine yp (by rfl) ?_
      rw [nI_1]
      obtain ⟨R2, l2⟩ := R.pc (a := q.1) (n := q.2) hq'
      refine xP hP ⟨_, rfl, rfl, (pcS_gF.wk (by decide) (fun k i z => by unfold soP; omega)).p (by decide), ?_⟩
      rw [eR']
      exact ⟨R2.mv hjl, l2⟩
    rcases hor with ⟨i, e, he, rfl, rfl⟩ | ⟨rfl, hx⟩
    · obtain ⟨m1, m2, m3, m4, m5, m6, m7⟩ := hen i e he
      have hi := (List.getElem?_eq_some_iff.mp he).1
      refine xf (nI_neg (by omega)) ?_
      refine ya (by rfl) ?_
      refine yl (i := i) hM (by rfl) rfl (by show i < 40; omega) ?_
      refine ya (by rfl) ?_
      refine yl (i := i) hM (by rfl) rfl (by show i < 40; omega) ?_
      refine xcV (mH_m _ _ _) (c_piece2 m3 m4 hM h32 (by omega) (by omega) hop) (by rfl) (by rfl) (by rfl) (Nat.zero_le _) (Nat.zero_le _) ?_
      rintro o h' ⟨rfl, rfl⟩
      exact fin (Or.inl m6)
    · refine xt (by decide) ?_
      rcases hx with ⟨y1, rfl⟩ | ⟨y1, rfl⟩
      · rw [y1]
        refine xfn rfl ?_
        refine xcV (mH_m _ _ _) (c_piece2 (a := 8192) (n := 1) rfl rfl hM h32 (by omega) (by omega) hop) (by rfl) (by rfl) (by rfl) (Nat.zero_le _) (Nat.zero_le _) ?_
        rintro o h' ⟨rfl, rfl⟩
        have q := fin (Or.inr (Or.inl rfl))
        rw [y1] at q
        exact q
      · rw [y1]
        refine xtn (by decide) ?_
        refine xcV (mH_m _ _ _) (c_piece2 (a := 8193) (n := 1) rfl rfl hM h32 (by omega) (by omega) hop) (by rfl) (by rfl) (by rfl) (Nat.zero_le _) (Nat.zero_le _) ?_
        rintro o h' ⟨rfl, rfl⟩
        have q := fin (Or.inr (Or.inr rfl))
        rw [y1] at q
        exact q
  refine xgo [60] 60 hA ?_
  refine xcV (mH_m _ _ _) (c_entity2 rfl hM T hen h37 hel40 rfl sgw) (by rfl) (by rfl) (by rfl) (Nat.zero_le _) (Nat.zero_le _) ?_
  rintro o h' ⟨rfl, ⟨i, e, he, hfd, rfl⟩ | ⟨hfd, rfl⟩⟩
  · have hi := (List.getElem?_eq_some_iff.mp he).1
    refine xcV (mH_m _ _ _) (c_isFixed2 rfl hM T rfl sgw hnb (by omega)) (by rfl) (by rfl) (by rfl) (Nat.zero_le _) (Nat.zero_le _) ?_
    rintro o h' ⟨rfl, rfl⟩
    refine xt (nI_pos' (by omega)) ?_
    obtain ⟨m1, m2, m3, m4, m5, m6, m7, m8⟩ := hen i e he
    have hwe : sub t e.1 = w := by
      have := List.find?_some hfd
      exact of_decide_eq_true this
    refine k60 _ _ e.2 ?_ (Or.inl ⟨i, e, he, rfl, rfl⟩)
    rw [look, if_neg (by rw [← hwe]; exact m7), if_neg (by rw [← hwe]; exact m8), hfd]; rfl
  · refine xcV (mH_m _ _ _) (c_isFixed2 rfl hM T rfl sgw hnb (by omega)) (by rfl) (by rfl) (by rfl) (Nat.zero_le _) (Nat.zero_le _) ?_
    rintro o h' ⟨rfl, rfl⟩
    refine xf (by decide) ?_
    by_cases z1 : w = wLt
    · refine xb (fun c => ?_) (fun c => ?_)
      · exact k60 _ _ (8192, 1) (by rw [look, if_pos z1]) (Or.inr ⟨rfl, Or.inl ⟨by rw [z1]; rfl, rfl⟩⟩)
      · rw [decide_eq_true z1, Bool.true_or] at c
        exact absurd c (by decide)
    · by_cases z2 : w = wAmp
      · refine xb (fun c => ?_) (fun c => ?_)
        · exact k60 _ _ (8193, 1) (by rw [look, if_neg z1, if_pos z2]) (Or.inr ⟨rfl, Or.inr ⟨by rw [z2]; rfl, rfl⟩⟩)
        · rw [decide_eq_true z2, Bool.or_true] at c
          exact absurd c (by decide)
      · refine xb (fun c => ?_) (fun c => ?_)
        · rw [decide_eq_false z1, decide_eq_false z2] at c
          exact absurd rfl c
        · refine xcV (mH_m _ _ _) (c_Mo_wrong hf) (by rfl) (by rfl) (by rfl) (Nat.zero_le _) (Nat.zero_le _) ?_
          rintro o h' ⟨rfl, rfl⟩
          exact xP hP ⟨_, rfl, rfl, (gF.refl _ _ _).p (by decide), soRes.er T (by rw [eR, look, if_neg z1, if_neg z2, hfd]; rfl) (by omega) rfl⟩
theorem contains_at {w : List Nat} {c : Nat} : w.contains c = true ↔ ∃ x, x < w.length ∧ ch w x = c := by
  rw [List.contains_iff_mem]
  constructor
  · intro h
    obtain ⟨x, hx, e⟩ := List.mem_iff_getElem.mp h
    exact ⟨x, hx, by rw [← e, ch_in hx]⟩
  · rintro ⟨x, hx, e⟩
    rw [← e, ch_in hx]
    exact List.getElem_mem hx
set_option maxRecDepth 20000 in
theorem c_defined2 {p : Nat} {t : List Nat} {s : SS} (hM : mok M) (R : SoR S t s p) (hlt : p < t.length) : xMet l D 2 y_Mo_defined [.ref M.1] (mH h0 M S) 0 0 (fun o h' => ∃ S', h' = mH h0 M S' ∧ o = .inl none ∧ gF soL soP S S' ∧ soRes S' t s (sEnt t (p + 2) s)) := by
  obtain ⟨T, ⟨hf, h38, hp⟩, ⟨h11, h32, h37, h39, h40⟩, hel, hpsM, hen, hel40⟩ := id R
  have hB := T.2.2.2.2.2
  have hl := T.2.2.2.2.1
  refine m_Mo_defined (Nat.le_of_ble_eq_true rfl) fun X hl hD hP hA => ?_
  subst hl hD
  refine xgo [52, 58] 60 hA ?_
  refine yg (by rfl) ?_
  rw [h38]
  refine xcV (mH_m _ _ _) (c_nameF (k := p + 2) (nI_add p 2) hM T hf (by omega)) (by rfl) (by rfl) (by rfl) (Nat.zero_le _) (Nat.zero_le _) ?_
  rintro o h' (⟨v, rfl, eN, rfl⟩ | ⟨a, j, eN, rfl, rfl⟩)
  · refine yg (by rfl) ?_
    rw [s1_eq]
    refine xf (nI_neg (by omega)) ?_
    exact xP hP ⟨_, rfl, rfl, (gF.refl _ _ _).p (by decide), soRes.er T (by rw [sEnt, pB_er eN]) (by omega) rfl⟩
  obtain ⟨n1, n2, n3, n4, n5, n6, n7⟩ := pName_sub eN
  have hnb := pName_b hB eN
  obtain ⟨w, hw⟩ : ∃ w, w = sub t a := ⟨_, rfl⟩
  have hal : a.1 + a.2 ≤ t.length := by omega
  have hwl : w.length = a.2 := by rw [hw]; exact sub_len hal
  rw [← hw] at hnb
  have hjk : j - (p + 2) = w.length := by omega
  have sgw : sg S (p + 2) w := by
    have := T.sg hal
    rw [n1, Nat.zero_add, ← hw] at this
    exact this
  have hew : nI j - (nI p + 2) = nI w.length := by
    show nI j - (nI p + nI 2) = _
    rw [nI_add, nI_sub (by omega), hjk]
  have ek : nI p + 2 = nI (p + 2) := nI_add p 2
  have eR : sEnt t (p + 2) s = (if 40 ≤ s.en.length ∨ (look t s w).isSome = true then .error (p + 2) else pB (pStr t (scan bl t j)) fun b k => if (sub t b).contains 60 = true ∨ (sub t b).contains 38 = true then .error (scan bl t j) else pB (pSig 62 t k) fun _ m => .ok (addN s (a, b), m)) := by rw [sEnt, pB_ok eN, ← hw]
  refine yg (by rfl) ?_
  rw [hf]
  refine xt (by decide) ?_
  -- wrong
  have k52 : (40 ≤ s.en.length ∨ (look t s w).isSome = true) → xG X 52 [(2, .int (nI j)), (1, .int (nI p + 2)), (0, .ref M.1)] [] (mH h0 M S) 0 0 := by
    intro hor
    refine xgo [] 20 hA ?_
    refine xcV (mH_m _ _ _) (c_Mo_wrong hf) (by rfl) (by rfl) (by rfl) (Nat.zero_le _) (Nat.zero_le _) ?_
    rintro o h' ⟨rfl, rfl⟩
    exact xP hP ⟨_, rfl, rfl, (gF.refl _ _ _).p (by decide), soRes.er T (by rw [eR, if_pos hor]) (by omega) (by rw [ek])⟩
  obtain ⟨s0, hs0⟩ : ∃ s0, s0 = scan bl t j := ⟨_, rfl⟩
  have hs0l : s0 ≤ t.length := by rw [hs0]; exact scan_le n6
  have k58 : s.en.length < 40 → (look t s w) = none → xG X 58 [(2, .int (nI j)), (1, .int (nI p + 2)), (0, .ref M.1)] [] (mH h0 M S) 0 0 := by
    intro l40 lk
    rw [if_neg (by rw [lk]; rintro (z | z); omega; cases z), ← hs0] at eR
    have T' : ∀ v : Int32, tx (s1 S 38 v) 0 t := fun v => T.p (by decide) (by decide)
    refine xgo [89] 60 hA ?_
    refine yp (by rfl) ?_
    refine xcV (mH_m _ _ _) (c_blanks2 (p := j) hM (T' _) (s1_eq _ _ _) (by omega)) (by rfl) (by rfl) (by rfl) (Nat.zero_le _) (Nat.zero_le _) ?_
    rintro o h' ⟨rfl, rfl⟩
    rw [s1_s1, ← hs0]
    refine yg (by rfl) ?_
    rw [s1_eq]
    refine xcV (mH_m _ _ _) (c_stringFrom2 (k := s0) hM (T' _) hf (by omega)) (by rfl) (by rfl) (by rfl) (Nat.zero_le _) (Nat.zero_le _) ?_
    rintro o h' (⟨v, rfl, eS, rfl⟩ | ⟨b, k, eS, rfl, rfl⟩)
    · refine yp (by rfl) ?_
      refine yg (by rfl) ?_
      refine xf (by
        show ¬ nI s0 < 0
        exact nI_neg (by omega)) ?_
      refine xP hP ⟨_, rfl, rfl, (((gF.refl _ _ _).p (by decide)).p (by decide)).p (by decide), ?_⟩
      rw [eR, pB_er eS]
      exact ⟨((T' _).p (by decide) (by decide)).p (by decide) (by decide), rfl, by omega⟩
    obtain ⟨m1, m2, m3, m4, m5⟩ := pStr_sub eS
    rw [pB_ok eS] at eR
    refine yp (by rfl) ?_
    rw [s1_s1]
    refine yg (by rfl) ?_
    refine xt (by show S.1 6 < 0; rw [hf]; decide) ?_
    have hbl : b.1 + b.2 ≤ t.length := by omega
    -- what must not be inside
    have key : ∀ x : Nat, (s0 + 1 ≤ x ∧ x + 1 ≤ k ∧ ∀ y, s0 + 1 ≤ y → y < x → ch t y ≠ 60 ∧ ch t y ≠ 38) → xG X 94 [(4, .int (nI x)), (3, .int (nI s0)), (2, .int (nI j)), (1, .int (nI p + 2)), (0, .ref M.1)] [] (mH h0 M (s1 S 38 (nI k))) 0 0 := by
      refine xind _ _ (fun x => t.length - x) (fun x hx ih => ?_)
      obtain ⟨g1, g2, g3⟩ := hx
      have hcx : ch t x ≤ 256 := hB.le x
      have bad : x + 1 < k → (ch t x = 60 ∨ ch t x = 38) → xG X 130 [(4, .int (nI x)), (3, .int (nI s0)), (2, .int (nI j)), (1, .int (nI p + 2)), (0, .ref M.1)] [] (mH h0 M (s1 S 38 (nI k))) 0 0 := by
        intro hxk hor
        refine xgo [] 20 hA ?_
        refine xcV (mH_m _ _ _) (c_Mo_wrong hf) (by rfl) (by rfl) (by rfl) (Nat.zero_le _) (Nat.zero_le _) ?_
        rintro o h' ⟨rfl, rfl⟩
        refine xP hP ⟨_, rfl, rfl, ((gF.refl _ _ _).p (by decide)).p (by decide), soRes.er (T' _) ?_ (by omega) rfl⟩
        have hch : ∀ c, ch t x = c → (sub t b).contains c = true := fun c hc => contains_at.mpr ⟨x - b.1, by rw [sub_len hbl]; omega, by rw [sub_ch hbl (by omega), show b.1 + (x - b.1) = x by omega]; exact hc⟩
        rw [eR, if_pos (hor.elim (fun z => Or.inl (hch 60 z)) (fun z => Or.inr (hch 38 z)))]
      refine xgo [94, 130, 142] 60 hA ?_
      refine yg (by rfl) ?_
      rw [s1_eq]
      refine xb (fun c => ?_) (fun c => ?_)
      · have c1 : k ≤ x + 1 := by
          have : nI k - 1 = nI (k - 1) := nI_sub (b := 1) (by omega)
          rw [this] at c
          have := (nI_leI (a := k - 1) (b := x) (by omega) (by omega)).mp c
          omega
        have nc : ∀ c, (c = 60 ∨ c = 38) → ¬ (sub t b).contains c = true := by
          intro c hc z
          obtain ⟨y, y1, y2⟩ := contains_at.mp z
          rw [sub_len hbl] at y1
          rw [sub_ch hbl y1] at y2
          have := g3 (b.1 + y) (by omega) (by omega)
          omega
        rw [if_neg (by rintro (z | z); exact nc 60 (Or.inl rfl) z; exact nc 38 (Or.inr rfl) z)] at eR
        obtain ⟨q, hq⟩ : ∃ q, q = scan bl t k := ⟨_, rfl⟩
        have hql : q ≤ t.length := by rw [hq]; exact scan_le m3
        have hcq : ch t q ≤ 256 := hB.le q
        show xG X 142 _ [] _ _ _
        refine xgo [] 120 hA ?_
        refine xcV (mH_m _ _ _) (c_blanks2 (p := k) hM (T' _) (s1_eq _ _ _) (by omega)) (by rfl) (by rfl) (by rfl) (Nat.zero_le _) (Nat.zero_le _) ?_
        rintro o h' ⟨rfl, rfl⟩
        rw [s1_s1, ← hq]
        refine yg (by rfl) ?_
        rw [s1_eq]
        refine xcV (mH_m _ _ _) (c_Mo_byteAt (k := q) hM (T' _) (by omega)) (by rfl) (by rfl) (by rfl) (Nat.zero_le _) (Nat.zero_le _) ?_
        rintro o h' ⟨rfl, rfl⟩
        refine xb (fun c => ?_) (fun c => ?_)
        rotate_left
        · have c2 : ¬ ch t q = 62 := fun z => c ((cI_lit (k := 62) hcq (by decide)).mpr z)
          refine yg (by rfl) ?_
          rw [s1_eq]
          refine xcV (mH_m _ _ _) (c_Mo_wrong hf) (by rfl) (by rfl) (by rfl) (Nat.zero_le _) (Nat.zero_le _) ?_
          rintro o h' ⟨rfl, rfl⟩
          exact xP hP ⟨_, rfl, rfl, ((gF.refl _ _ _).p (by decide)).p (by decide), soRes.er (T' _) (by rw [eR, pB_er]; rw [pSig, ← hq, pExp, if_neg c2]) (by omega) rfl⟩
        have c2 := (cI_lit (k := 62) hcq (by decide)).mp c
        have hqlt := ch_lt c2 (by decide)
        have eR' : sEnt t (p + 2) s = .ok (addN s (a, b), q + 1) := by rw [eR, pB_ok (a := ()) (i := q + 1)]; rw [pSig, ← hq, pExp, if_pos c2]
        refine yg (by rfl) ?_
        rw [s1_eq]
        refine yp (by rfl) ?_
        rw [s1_s1, nI_1]
        obtain ⟨m, hm⟩ : ∃ m, m = s.en.length := ⟨_, rfl⟩
        rw [← hm] at h37 l40
        refine ya (by rfl) ?_
        refine yg (by rfl) ?_
        refine ys (i := m) hM (by rfl) h37 l40 ?_
        refine ya (by rfl) ?_
        refine yg (by rfl) ?_
        refine ys (i := m) hM (by rfl) h37 l40 ?_
        refine ya (by rfl) ?_
        refine yg (by rfl) ?_
        refine ys (i := m) hM (by rfl) h37 l40 ?_
        refine ya (by rfl) ?_
        refine yg (by rfl) ?_
        refine xcV (mH_m _ _ _) (c_behindString2 (k := s0) (b := 0) hM (((T' (nI (q + 1))).fr ((((mF.refl [] [33, 34, 35] _).s (by decide)).s (by decide)).s (by decide)) (by decide))) eS) (by rfl) (by rfl) (by rfl) (Nat.zero_le _) (Nat.zero_le _) ?_
        rintro o h' ⟨rfl, rfl⟩
        refine ys (i := m) hM (by rfl) h37 l40 ?_
        refine yg (by rfl) ?_
        refine yp (by rfl) ?_
        obtain ⟨S', hS'⟩ : ∃ S', S' = s1 (s2 (s2 (s2 (s2 (s1 S 38 (nI (q + 1))) 33 m (nI p + 2)) 34 m (nI j - (nI p + 2))) 35 m (nI s0 + 1)) 36 m (nI k - nI s0 - 2)) 37 (S.1 37 + 1) := ⟨_, rfl⟩
        have g : gF [37] (fun k i => 33 ≤ k ∧ k ≤ 36 ∧ i = m) (s1 S 38 (nI (q + 1))) S' := by
          rw [hS']
          refine ((((gF.refl _ _ _).s ?_).s ?_).s ?_).s ?_ |>.p (by decide)
          all_goals omega
        refine xP hP ⟨S', by rw [hS']; rfl, rfl, ((gF.refl soL soP S).p (k := 38) (by decide)).tr g (by decide) (fun k i z => by unfold soP; omega), ?_⟩
        rw [eR']
        obtain ⟨r1, r2, r3, r4, r5, r6, r7⟩ := R.mv (q := q + 1) hqlt
        have e33 : S'.2 33 m = nI a.1 := by rw [hS', n1, ← ek]; simp [s1, s2]
        have e34 : S'.2 34 m = nI a.2 := by rw [hS', ← hwl, ← hew]; simp [s1, s2]
        have eb1 : nI b.1 = nI s0 + 1 := by rw [m1, nI_1]
        have e35 : S'.2 35 m = nI b.1 := by rw [hS', eb1]; simp [s1, s2]
        have e36 : S'.2 36 m = nI b.2 := by
          rw [hS']
          have : b.2 = k - s0 - 2 := by omega
          rw [this]
          have h2 : nI k - nI s0 - 2 = nI (k - s0 - 2) := by rw [nI_sub (by omega)]; exact nI_sub (b := 2) (by omega)
          rw [← h2]
          simp [s1, s2]
        have lk' : w ≠ wLt ∧ w ≠ wAmp := by
          unfold look at lk
          by_cases z1 : w = wLt
          · rw [if_pos z1] at lk; cases lk
          · rw [if_neg z1] at lk
            by_cases z2 : w = wAmp
            · rw [if_pos z2] at lk; cases lk
            · exact ⟨z1, z2⟩
        refine ⟨⟨r1.gf g (by decide) (fun i _ _ => by omega), ⟨by rw [g.1 6 (by decide)]; exact r2.1, by rw [g.1 38 (by decide)]; exact r2.2.1, r2.2.2⟩, ⟨by rw [g.1 11 (by decide)]; exact r3.1, by rw [g.1 32 (by decide)]; exact r3.2.1, ?_, by rw [g.1 39 (by decide)]; exact r3.2.2.2.1, by rw [g.1 40 (by decide)]; exact r3.2.2.2.2⟩, fun k hk => ?_, r5.eq (fun j i _ _ _ => g.2 j i (by omega)), ?_, ?_⟩, Nat.le_succ _⟩
        · show S'.1 37 = nI (s.en ++ [(a, b)]).length
          rw [hS', s1_eq, h37, nI_1, List.length_append, ← hm]; rfl
        · have := (r4 k hk).eq (S' := S') (fun j i hj => g.2 j i (by omega))
          exact this
        · show enM S' t (s.en ++ [(a, b)])
          intro i e he
          rcases snoc_at he with ⟨y1, y2⟩ | ⟨y1, y2⟩
          · rw [g.2 33 i (by omega), g.2 34 i (by omega), g.2 35 i (by omega), g.2 36 i (by omega)]
            exact r6 i e y2
          · rw [← hm] at y1
            subst y1 y2
            exact ⟨e33, e34, e35, e36, hal, hbl, by rw [← hw]; exact lk'.1, by rw [← hw]; exact lk'.2⟩
        · show (s.en ++ [(a, b)]).length ≤ 40
          rw [List.length_append, ← hm]
          exact l40
      · have c1 : x + 1 < k := by
          have : nI k - 1 = nI (k - 1) := nI_sub (b := 1) (by omega)
          rw [this] at c
          have : ¬ k - 1 ≤ x := fun z => c (nI_le z (by omega))
          omega
        refine xcV (mH_m _ _ _) (c_Mo_byteAt (k := x) hM (T' _) (by omega)) (by rfl) (by rfl) (by rfl) (Nat.zero_le _) (Nat.zero_le _) ?_
        rintro o h' ⟨rfl, rfl⟩
        refine xb (fun c2 => ?_) (fun c2 => ?_)
        · exact bad c1 (Or.inl ((cI_lit (k := 60) hcx (by decide)).mp c2))
        refine xcV (mH_m _ _ _) (c_Mo_byteAt (k := x) hM (T' _) (by omega)) (by rfl) (by rfl) (by rfl) (Nat.zero_le _) (Nat.zero_le _) ?_
        rintro o h' ⟨rfl, rfl⟩
        refine xb (fun c3 => ?_) (fun c3 => ?_)
        · exact bad c1 (Or.inr ((cI_lit (k := 38) hcx (by decide)).mp c3))
        have q := ih (x + 1) ⟨by omega, by omega, fun y h1 h2 => by
          rcases Nat.lt_succ_iff_lt_or_eq.mp h2 with z | z
          · exact g3 y h1 z
          · subst z
            exact ⟨fun z => c2 ((cI_lit (k := 60) hcx (by decide)).mpr z), fun z => c3 ((cI_lit (k := 38) hcx (by decide)).mpr z)⟩⟩ (by omega)
        rw [← nI_1] at q
        exact q
    show xG X 89 _ [] _ _ _
    refine xgo [94] 20 hA ?_
    have q := key (s0 + 1) ⟨Nat.le_refl _, by omega, fun y h1 h2 => absurd h2 (by omega)⟩
    rw [← nI_1] at q
    exact q.locs (by simp)
  refine xcV (mH_m _ _ _) (c_isFixed2 (k := p + 2) ek hM T hew sgw hnb (by omega)) (by rfl) (by rfl) (by rfl) (Nat.zero_le _) (Nat.zero_le _) ?_
  rintro o h' ⟨rfl, rfl⟩
  refine xb (fun c => ?_) (fun c => ?_)
  · refine (k52 (Or.inr ?_)).locs (by simp)
    have c1 := (bI_n0 _).mp c
    rw [Bool.or_eq_true, decide_eq_true_iff, decide_eq_true_iff] at c1
    unfold look
    by_cases z1 : w = wLt
    · rw [if_pos z1]; rfl
    · rw [if_neg z1, if_pos (c1.resolve_left z1)]; rfl
  have c1 := (bI_0 _).mp c
  rw [Bool.or_eq_false_iff, decide_eq_false_iff_not, decide_eq_false_iff_not] at c1
  refine xcV (mH_m _ _ _) (c_entity2 ek hM T hen h37 hel40 hew sgw) (by rfl) (by rfl) (by rfl) (Nat.zero_le _) (Nat.zero_le _) ?_
  rintro o h' ⟨rfl, ⟨i, e, he, hfd, rfl⟩ | ⟨hfd, rfl⟩⟩
  · have hi := (List.getElem?_eq_some_iff.mp he).1
    refine xt (nI_pos' (by omega)) ?_
    refine (k52 (Or.inr ?_)).locs (by simp)
    rw [look, if_neg c1.1, if_neg c1.2, hfd]; rfl
  · refine xf (by decide) ?_
    refine yg (by rfl) ?_
    rw [h37]
    refine xb (fun c => ?_) (fun c => ?_)
    · refine (k58 ?_ ?_).locs (by simp)
      · have : ¬ s.en.length = 40 := fun z => c (by rw [z]; rfl)
        omega
      · rw [look, if_neg c1.1, if_neg c1.2, hfd]; rfl
    · have := (nI_eq (b := 40) (by omega) (by decide)).mp c
      exact (k52 (Or.inl (by omega))).locs (by simp)
end
