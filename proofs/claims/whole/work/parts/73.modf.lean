/-! THE REFERENCE, 6: conditions -/
def teM (S : MS) (b : Nat) (t : List Nat) (i : Nat) (c : CN) : Prop :=
  (c.1 = 0 → S.2 62 i = (if c.2.2.1.isSome = true then 2 else 1) ∧ S.2 63 i = nI (b + c.2.1.1) ∧ S.2 64 i = nI c.2.1.2 ∧ c.2.1.1 + c.2.1.2 ≤ t.length ∧ ∀ u, c.2.2.1 = some u → S.2 65 i = nI (b + u.1) ∧ S.2 66 i = nI u.2 ∧ u.1 + u.2 ≤ t.length) ∧
  (c.1 = 1 → S.2 62 i = 3) ∧ (c.1 = 2 → S.2 62 i = 4) ∧ (c.1 = 3 → S.2 62 i = 5) ∧ (c.1 = 4 → S.2 62 i = 6 ∧ S.2 67 i = nI c.2.2.2 ∧ c.2.2.2 < 10000000) ∧ (c.1 = 5 → S.2 62 i = 7 ∧ S.2 63 i = nI (b + c.2.1.1) ∧ S.2 64 i = nI c.2.1.2 ∧ c.2.1.1 + c.2.1.2 ≤ t.length) ∧ c.1 ≤ 5
/-- the first n of these arrays stand -/
def pF (L : List Nat) (n : Nat) (S S' : MS) : Prop := ∀ k ∈ L, ∀ i, i < n → S'.2 k i = S.2 k i
theorem pF.refl (L : List Nat) (n : Nat) (S : MS) : pF L n S S := fun _ _ _ _ => rfl
theorem pF.s {L : List Nat} {n : Nat} {S S' : MS} (H : pF L n S S') {k i : Nat} {v : Int32} (hi : n ≤ i) : pF L n S (s2 S' k i v) := fun j hj x hx => by
  show (if j = k ∧ x = i then v else S'.2 j x) = _
  rw [if_neg (fun z => by omega)]; exact H j hj x hx
theorem pF.f {L L1 : List Nat} {n : Nat} {S S' S2 : MS} (H : pF L n S S') (f : mF L1 [] S' S2) : pF L n S S2 := fun j hj x hx => by
  rw [f.2 j (by simp)]; exact H j hj x hx
theorem pF.tr {L : List Nat} {n m : Nat} {S S' S2 : MS} (H : pF L n S S') (H2 : pF L m S' S2) (h : n ≤ m) : pF L n S S2 := fun j hj x hx => (H2 j hj x (by omega)).trans (H j hj x hx)
abbrev teL : List Nat := [62, 63, 64, 65, 66, 67]
theorem teM.cg {S S' : MS} {b : Nat} {t : List Nat} {i n : Nat} {c : CN} (H : teM S b t i c) (p : pF teL n S S') (hi : i < n) : teM S' b t i c := by
  have e62 := p 62 (by decide) i hi
  have e63 := p 63 (by decide) i hi
  have e64 := p 64 (by decide) i hi
  have e65 := p 65 (by decide) i hi
  have e66 := p 66 (by decide) i hi
  have e67 := p 67 (by decide) i hi
  unfold teM
  rw [e62, e63, e64, e65, e66, e67]
  exact H
theorem teM.fr {S S' : MS} {b : Nat} {t L1 : List Nat} {i : Nat} {c : CN} (H : teM S b t i c) (f : mF L1 [] S S') : teM S' b t i c := H.cg (n := i + 1) (fun k _ x _ => by rw [f.2 k (by simp)]) (Nat.lt_succ_self i)
section
variable {l : Launch} {D : xD} {h0 : xH} {M : MA} {S : MS}
theorem atA.f {b p : Nat} {t L2 : List Nat} {S S' : MS} (A : atA S b t p) (f : mF [] L2 S S') (h : L2.contains 7 = false) : atA S' b t p := by
  obtain ⟨T, ⟨k1, k2, k3, k4, k5⟩, hf, hp⟩ := A
  have e := fun k => f.1 k (by simp)
  refine ⟨T.fr f (by rw [h]; rfl), ⟨by rw [e]; exact k1, by rw [e]; exact k2, by rw [e]; exact k3, by rw [e]; exact k4, fun z => by rw [e]; exact k5 z⟩, by rw [e]; exact hf, hp⟩
set_option maxRecDepth 20000 in
theorem c_bracket2 {b e n : Nat} {t : List Nat} (hM : mok M) (T : tx S b t) (h47 : S.1 47 = nI e) (hf : S.1 6 = -1) (he : e ≤ t.length + 1) (h52 : S.1 52 = nI n) (hn : n < 4000) : xMet l D 3 y_Mo_bracket [.ref M.1] (mH h0 M S) 0 0 (fun o h' => ∃ S', h' = mH h0 M S' ∧ o = .inl none ∧ mF tL teL S S' ∧ pF teL n S S' ∧ mRes S' b t (pBr t e) (fun c => teM S' b t n c)) := by
  refine m_Mo_bracket (Nat.le_of_ble_eq_true rfl) fun X hl hD hP hA => ?_
  subst hl hD
  refine xgo [63, 147] 90 hA ?_
  refine xcV (mH_m _ _ _) (c_Mo_nextA (p := 0) hM T h47 hf he) (by rfl) (by rfl) (by rfl) (Nat.zero_le _) (Nat.zero_le _) ?_
  rintro o h' ⟨S1, rfl, rfl, f1, A1⟩
  have g1 : mF tL teL S S1 := (mF.refl _ _ _).tr f1 (by simp) (by simp)
  have p1 : pF teL n S S1 := (pF.refl _ _ _).f f1
  obtain ⟨T1, ⟨k1, k2, k3, k4, k5⟩, hf1, -⟩ := id A1
  have e52 : S1.1 52 = nI n := by rw [f1.1 52 (by decide)]; exact h52
  refine xcV (mH_m _ _ _) (c_Mo_needKind A1 (k := 1) (by decide)) (by rfl) (by rfl) (by rfl) (Nat.zero_le _) (Nat.zero_le _) ?_
  rintro o h' ⟨rfl, ⟨hk, rfl⟩ | ⟨hk, rfl⟩⟩
  rotate_left
  · refine yg (by rfl) ?_
    rw [s1_eq]
    have hs := scan_le1 (p := bl) he
    refine xf (nI_neg (by have := T1.2.2.2.2.1; omega)) ?_
    refine xP hP ⟨_, rfl, rfl, g1.p (by decide), p1, ?_⟩
    rw [pBr, pB_er (pName_0 hk)]
    exact ⟨T1.p (by decide) (by decide), s1_eq _ _ _, hs, _, k2, tkE_le hs⟩
  have eN := pName_1 hk
  obtain ⟨n1, n2, n3, n4, n5, n6, -⟩ := pName_sub eN
  refine yg (by rfl) ?_
  rw [hf1]
  refine xt (by decide) ?_
  refine ya (by rfl) ?_
  refine yg (by rfl) ?_
  refine ys (i := n) hM (by rfl) e52 hn ?_
  refine ya (by rfl) ?_
  refine yg (by rfl) ?_
  refine yg (by rfl) ?_
  refine yg (by rfl) ?_
  refine ys (i := n) hM (by rfl) e52 hn ?_
  refine ya (by rfl) ?_
  refine yg (by rfl) ?_
  refine yg (by rfl) ?_
  refine yg (by rfl) ?_
  refine ys (i := n) hM (by rfl) e52 hn ?_
  obtain ⟨S4, hS4⟩ : ∃ S4, S4 = s2 (s2 (s2 S1 62 n 1) 63 n (S1.1 8 + S1.1 46)) 64 n (S1.1 47 - S1.1 46) := ⟨_, rfl⟩
  have f4 : mF [] teL S1 S4 := by rw [hS4]; exact (((mF.refl _ _ _).s (by decide)).s (by decide)).s (by decide)
  have p4 : pF teL n S S4 := by rw [hS4]; exact ((p1.s (Nat.le_refl _)).s (Nat.le_refl _)).s (Nat.le_refl _)
  have c62 : S4.2 62 n = 1 := by rw [hS4, s2_na _ _ (by decide), s2_na _ _ (by decide), s2_eq]
  have c63 : S4.2 63 n = nI (b + scan bl t e) := by rw [hS4, s2_na _ _ (by decide), s2_eq, T1.1, k1, nI_add]
  have c64 : S4.2 64 n = nI (tkE t (scan bl t e) - scan bl t e) := by rw [hS4, s2_eq, k1, k2, nI_sub (by show scan bl t e ≤ tkE t (scan bl t e); simp only [] at n2; omega)]
  have A4 := A1.f f4 (by decide)
  have g4 : mF tL teL S S4 := g1.tr f4 (by simp) (by simp)
  have d62 : mH h0 M (s2 (s2 (s2 S1 62 n 1) 63 n (S1.1 8 + S1.1 46)) 64 n (S1.1 47 - S1.1 46)) = mH h0 M S4 := by rw [hS4]
  have hE := tkE_le (t := t) (scan_le1 (p := bl) he)
  have e52' : S4.1 52 = nI n := by rw [f4.1 52 (by simp)]; exact e52
  -- the rest
  have tail : ∀ (S5 : MS) (j : Nat) (c : CN), mF tL teL S S5 → pF teL n S S5 → atA S5 b t j → teM S5 b t n c → pBr t e = (pB (pSig 93 t j) fun _ m => .ok (c, m)) → ∀ ls : xL, (∀ q ∈ [(0, Value.ref M.1)], q ∈ ls) → xG X 147 ls [] (mH h0 M S5) 0 0 := by
    intro S5 j c g5 p5 A5 c5 eR ls hls
    refine xG.locs ?_ hls
    refine xgo [] 20 hA ?_
    refine xcV (mH_m _ _ _) (c_Mo_need hM A5 (c := 93) (by rfl)) (by rfl) (by rfl) (by rfl) (Nat.zero_le _) (Nat.zero_le _) ?_
    rintro o h' ⟨S6, rfl, rfl, f6, r6⟩
    refine xP hP ⟨S6, rfl, rfl, g5.tr f6 (by simp) (by simp), p5.f f6, ?_⟩
    rw [eR]
    cases hq : pSig 93 t j with
    | error w => rw [hq] at r6; exact r6
    | ok q => rw [hq] at r6; exact ⟨r6.1, c5.fr f6⟩
  suffices this : xG X 63 [(0, .ref M.1)] [] (mH h0 M S4) 0 0 by
    rw [hS4] at this
    exact this
  refine xgo [143, 147] 90 hA ?_
  obtain ⟨T4, ⟨m1, m2, m3, m4, m5⟩, hf4, -⟩ := id A4
  refine xcV (mH_m _ _ _) (c_Mo_nextA (p := 0) hM T4 m2 hf4 hE) (by rfl) (by rfl) (by rfl) (Nat.zero_le _) (Nat.zero_le _) ?_
  rintro o h' ⟨S5, rfl, rfl, f5, A5⟩
  have g5 : mF tL teL S S5 := g4.tr f5 (by simp) (by simp)
  have p5 : pF teL n S S5 := p4.f f5
  have d := fun k => f5.2 k (by simp)
  obtain ⟨T5, K5, hf5, hp5⟩ := id A5
  obtain ⟨u1, u2, u3, u4, u5⟩ := id K5
  have e52'' : S5.1 52 = nI n := by rw [f5.1 52 (by decide)]; exact e52'
  refine xcV (mH_m _ _ _) (c_Mo_isSign T5 K5 (c := 61) (by rfl)) (by rfl) (by rfl) (by rfl) (Nat.zero_le _) (Nat.zero_le _) ?_
  rintro o h' ⟨rfl, rfl⟩
  refine xb (fun c => ?_) (fun c => ?_)
  · have nq := of_decide_eq_false ((bI_0 _).mp c)
    refine tail S5 (tkE t (scan bl t e)) (0, (scan bl t e, tkE t (scan bl t e) - scan bl t e), none, 0) g5 p5 A5 ?_ ?_ _ (by simp)
    · refine ⟨fun _ => ⟨by rw [d]; exact c62, by rw [d]; exact c63, by rw [d]; exact c64, ?_, fun u hu => by cases hu⟩, fun z => (by cases z), fun z => (by cases z), fun z => (by cases z), fun z => (by cases z), fun z => (by cases z), Nat.zero_le _⟩
      show scan bl t e + (tkE t (scan bl t e) - scan bl t e) ≤ t.length
      simp only [] at n2
      omega
    · rw [pBr, pB_ok eN, if_neg nq, pSig, scan_scan]; rfl
  · have yq := of_decide_eq_true ((bI_n0 _).mp c)
    obtain ⟨v1, v2, v3⟩ := tk_sg (c := 61) (by rfl) yq
    have hlt := ch_lt yq (by decide)
    refine xcV (mH_m _ _ _) (c_Mo_nextA (p := 0) hM T5 (by rw [u2, v3]) hf5 (by omega)) (by rfl) (by rfl) (by rfl) (Nat.zero_le _) (Nat.zero_le _) ?_
    rintro o h' ⟨S6, rfl, rfl, f6, A6⟩
    have g6 : mF tL teL S S6 := g5.tr f6 (by simp) (by simp)
    have p6 : pF teL n S S6 := p5.f f6
    have d6 := fun k => f6.2 k (by simp)
    obtain ⟨T6, ⟨w1, w2, w3, w4, w5⟩, hf6, hp6⟩ := id A6
    have e52c : S6.1 52 = nI n := by rw [f6.1 52 (by decide)]; exact e52''
    have hs6 := scan_le1 (p := bl) (t := t) (i := scan bl t (tkE t (scan bl t e)) + 1) (by omega)
    refine xcV (mH_m _ _ _) (c_Mo_needKind A6 (k := 3) (by decide)) (by rfl) (by rfl) (by rfl) (Nat.zero_le _) (Nat.zero_le _) ?_
    rintro o h' ⟨rfl, ⟨hk3, rfl⟩ | ⟨hk3, rfl⟩⟩
    rotate_left
    · refine yg (by rfl) ?_
      rw [s1_eq]
      refine xf (nI_neg (by have := T1.2.2.2.2.1; omega)) ?_
      refine xP hP ⟨_, rfl, rfl, g6.p (by decide), p6, ?_⟩
      rw [pBr, pB_ok eN, if_pos yq, pB_er (pStr_0 hk3)]
      exact ⟨T6.p (by decide) (by decide), s1_eq _ _ _, hs6, _, w2, tkE_le hs6⟩
    have eS := pStr_1 hk3
    obtain ⟨r1, r2, r3, r4, r5⟩ := pStr_sub eS
    refine yg (by rfl) ?_
    rw [hf6]
    refine xt (by decide) ?_
    refine ya (by rfl) ?_
    refine yg (by rfl) ?_
    refine ys (i := n) hM (by rfl) e52c hn ?_
    refine ya (by rfl) ?_
    refine yg (by rfl) ?_
    refine yg (by rfl) ?_
    refine yg (by rfl) ?_
    refine ys (i := n) hM (by rfl) e52c hn ?_
    refine ya (by rfl) ?_
    refine yg (by rfl) ?_
    refine yg (by rfl) ?_
    refine yg (by rfl) ?_
    refine ys (i := n) hM (by rfl) e52c hn ?_
    obtain ⟨S7, hS7⟩ : ∃ S7, S7 = s2 (s2 (s2 S6 62 n 2) 65 n (S6.1 8 + S6.1 46 + 1)) 66 n (S6.1 47 - S6.1 46 - 2) := ⟨_, rfl⟩
    have f7 : mF [] teL S6 S7 := by rw [hS7]; exact (((mF.refl _ _ _).s (by decide)).s (by decide)).s (by decide)
    have p7 : pF teL n S S7 := by rw [hS7]; exact ((p6.s (Nat.le_refl _)).s (Nat.le_refl _)).s (Nat.le_refl _)
    have A7 := A6.f f7 (by decide)
    have g7 : mF tL teL S S7 := g6.tr f7 (by simp) (by simp)
    suffices this : xG X 143 [(0, .ref M.1)] [] (mH h0 M S7) 0 0 by
      rw [hS7] at this
      exact this
    refine xgo [147] 20 hA ?_
    obtain ⟨T7, ⟨m1', m2', -⟩, hf7, -⟩ := id A7
    refine xcV (mH_m _ _ _) (c_Mo_nextA (p := 0) hM T7 m2' hf7 (tkE_le hs6)) (by rfl) (by rfl) (by rfl) (Nat.zero_le _) (Nat.zero_le _) ?_
    rintro o h' ⟨S8, rfl, rfl, f8, A8⟩
    have d8 := fun k => f8.2 k (by simp)
    refine tail S8 _ (0, (scan bl t e, tkE t (scan bl t e) - scan bl t e), some (scan bl t (scan bl t (tkE t (scan bl t e)) + 1) + 1, tkE t (scan bl t (scan bl t (tkE t (scan bl t e)) + 1)) - scan bl t (scan bl t (tkE t (scan bl t e)) + 1) - 2), 0) (g7.tr f8 (by simp) (by simp)) (p7.f f8) A8 ?_ ?_ _ (by simp)
    · refine ⟨fun _ => ⟨?_, ?_, ?_, ?_, fun u hu => ?_⟩, fun z => (by cases z), fun z => (by cases z), fun z => (by cases z), fun z => (by cases z), fun z => (by cases z), Nat.zero_le _⟩
      · rw [d8, hS7, s2_na _ _ (by decide), s2_na _ _ (by decide), s2_eq]; rfl
      · rw [d8, hS7, s2_na _ _ (by decide), s2_na _ _ (by decide), s2_na _ _ (by decide), d6, d]; exact c63
      · rw [d8, hS7, s2_na _ _ (by decide), s2_na _ _ (by decide), s2_na _ _ (by decide), d6, d]; exact c64
      · show scan bl t e + (tkE t (scan bl t e) - scan bl t e) ≤ t.length
        simp only [] at n2
        omega
      · cases hu
        simp only [] at r1 r2 r3
        refine ⟨?_, ?_, by omega⟩
        · rw [d8, hS7, s2_na _ _ (by decide), s2_eq, T6.1, w1, nI_add, nI_1]; rfl
        · rw [d8, hS7, s2_eq, w1, w2, nI_sub (by omega)]
          exact nI_sub (b := 2) (by omega)
    · rw [pBr, pB_ok eN, if_pos yq, pB_ok eS]
end
