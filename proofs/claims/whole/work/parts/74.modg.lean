/-! THE REFERENCE, 7: conditions behind a colon -/
theorem nmc_b : ∀ c, c < 256 → nmc c = true → 0 < c := by decide +kernel
theorem pName_b {t : List Nat} {s j : Nat} {a : Nat × Nat} (hB : bytesOk t) (e : pName t s = .ok (a, j)) : ∀ b ∈ sub t a, 0 < b ∧ b < 256 := by
  obtain ⟨n1, n2, n3, n4, n5, n6, -⟩ := pName_sub e
  intro b hb
  obtain ⟨k, hk, rfl⟩ := List.mem_iff_getElem.mp hb
  have hl : a.1 + a.2 ≤ t.length := by omega
  have hk' : k < a.2 := by rw [sub_len hl] at hk; exact hk
  have h1 := sub_ch hl hk'
  rw [ch_in hk] at h1
  have h2 := hB.lt (i := a.1 + k) (by omega)
  obtain ⟨-, h3⟩ := scan_mid (p := nmc) (t := t) (n := t.length) (i := s) (k := a.1 + k) (by omega) (by omega) (by omega)
  rw [h1]
  exact ⟨nmc_b _ h2 h3, h2⟩
section
variable {l : Launch} {D : xD} {h0 : xH} {M : MA} {S : MS}
set_option maxRecDepth 20000 in
theorem c_Mo_needKindF {k : Int32} {w : Nat} (hf : S.1 6 = nI w) (hw : w < 2 ^ 31) : xMet l D 1 y_Mo_needKind [.ref M.1, .int k] (mH h0 M S) 0 0 (fun o h' => o = .inl none ∧ h' = mH h0 M S) := by
  refine m_Mo_needKind (Nat.le_of_ble_eq_true rfl) fun X hl hD hP hA => ?_
  subst hl hD
  refine xgo [] 30 hA ?_
  refine yg (by rfl) ?_
  rw [hf]
  refine xt (nI_pos' hw) ?_
  exact xP hP ⟨rfl, rfl⟩
set_option maxRecDepth 20000 in
theorem c_colon2 {b e n : Nat} {t : List Nat} (hM : mok M) (T : tx S b t) (h47 : S.1 47 = nI e) (hf : S.1 6 = -1) (he : e ≤ t.length + 1) (h52 : S.1 52 = nI n) (hn : n < 4000) : xMet l D 3 y_Mo_colon [.ref M.1] (mH h0 M S) 0 0 (fun o h' => ∃ S', h' = mH h0 M S' ∧ o = .inl none ∧ mF tL teL S S' ∧ pF teL n S S' ∧ mRes S' b t (pCo t e) (fun c => teM S' b t n c)) := by
  have hB := T.2.2.2.2.2
  have hl := T.2.2.2.2.1
  refine m_Mo_colon (Nat.le_of_ble_eq_true rfl) fun X hl hD hP hA => ?_
  subst hl hD
  refine xgo [37] 90 hA ?_
  refine xcV (mH_m _ _ _) (c_Mo_nextA (p := 0) hM T h47 hf he) (by rfl) (by rfl) (by rfl) (Nat.zero_le _) (Nat.zero_le _) ?_
  rintro o h' ⟨S1, rfl, rfl, f1, A1⟩
  have g1 : mF tL teL S S1 := (mF.refl _ _ _).tr f1 (by simp) (by simp)
  have p1 : pF teL n S S1 := (pF.refl _ _ _).f f1
  obtain ⟨T1, ⟨k1, k2, k3, k4, k5⟩, hf1, -⟩ := id A1
  have e52 : S1.1 52 = nI n := by rw [f1.1 52 (by decide)]; exact h52
  have hs := scan_le1 (p := bl) he
  refine xcV (mH_m _ _ _) (c_Mo_needKind A1 (k := 1) (by decide)) (by rfl) (by rfl) (by rfl) (Nat.zero_le _) (Nat.zero_le _) ?_
  rintro o h' ⟨rfl, ⟨hk, rfl⟩ | ⟨hk, rfl⟩⟩
  rotate_left
  · refine yg (by rfl) ?_
    rw [s1_eq]
    refine xf (nI_neg (by omega)) ?_
    refine xP hP ⟨_, rfl, rfl, g1.p (by decide), p1, ?_⟩
    rw [pCo, pB_er (pName_0 hk)]
    exact ⟨T1.p (by decide) (by decide), s1_eq _ _ _, hs, _, k2, tkE_le hs⟩
  have eN := pName_1 hk
  obtain ⟨n1, n2, n3, n4, n5, n6, -⟩ := pName_sub eN
  have hnb := pName_b hB eN
  obtain ⟨s, hse⟩ : ∃ s, s = scan bl t e := ⟨_, rfl⟩
  rw [← hse] at k1 k2 k3 k4 k5 hs hk eN n1 n2 n3 n4 n5 n6 hnb
  obtain ⟨E, hE⟩ : ∃ E, E = tkE t s := ⟨_, rfl⟩
  rw [← hE] at k2 eN n1 n2 n3 n4 n5 n6 hnb
  simp only [] at n2 n3 n4
  have hEl : E ≤ t.length := by omega
  have sg1 := T1.sg (a := (s, E - s)) (by show s + (E - s) ≤ t.length; omega)
  have hsl : (sub t (s, E - s)).length = E - s := sub_len (by show s + (E - s) ≤ t.length; omega)
  have eP : pCo t e = (if sub t (s, E - s) = wFirst then .ok ((1, (0, 0), none, 0), E) else if sub t (s, E - s) = wLast then .ok ((2, (0, 0), none, 0), E) else if sub t (s, E - s) = wEmpty then .ok ((3, (0, 0), none, 0), E) else if sub t (s, E - s) = wNth then pB (pSig 40 t E) fun _ k => pB (pNum t (scan bl t k)) fun n m => pB (pSig 41 t m) fun _ q => .ok ((4, (0, 0), none, n), q) else if sub t (s, E - s) = wNot then pB (pSig 40 t E) fun _ k => pB (pName t (scan bl t k)) fun b m => pB (pSig 41 t m) fun _ q => .ok ((5, b, none, 0), q) else .error s) := by
    rw [pCo, ← hse, pB_ok eN]
  refine yg (by rfl) ?_
  rw [hf1]
  refine xt (by decide) ?_
  refine yg (by rfl) ?_
  refine yg (by rfl) ?_
  refine yg (by rfl) ?_
  refine yg (by rfl) ?_
  have ea : S1.1 8 + S1.1 46 = nI (b + s) := by rw [T1.1, k1, nI_add]
  have en : S1.1 47 - S1.1 46 = nI (sub t (s, E - s)).length := by rw [k2, k1, nI_sub (by omega), hsl]
  -- what follows the word
  have how : ∀ (w : Nat), w ≤ 7 → ((w = 3 ∧ pCo t e = .ok ((1, (0, 0), none, 0), E)) ∨ (w = 4 ∧ pCo t e = .ok ((2, (0, 0), none, 0), E)) ∨ (w = 5 ∧ pCo t e = .ok ((3, (0, 0), none, 0), E)) ∨ (w = 6 ∧ pCo t e = (pB (pSig 40 t E) fun _ k => pB (pNum t (scan bl t k)) fun n m => pB (pSig 41 t m) fun _ q => .ok ((4, (0, 0), none, n), q))) ∨ (w = 7 ∧ pCo t e = (pB (pSig 40 t E) fun _ k => pB (pName t (scan bl t k)) fun b m => pB (pSig 41 t m) fun _ q => .ok ((5, b, none, 0), q))) ∨ (w = 0 ∧ pCo t e = .error s)) → xG X 120 [(2, .int (nI (sub t (s, E - s)).length)), (1, .int (nI (b + s))), (0, .ref M.1)] [.int (nI w)] (mH h0 M S1) 0 0 := by
    intro w hw7 hw
    by_cases hw0 : w = 0
    · subst hw0
      have hR : pCo t e = .error s := by
        rcases hw with ⟨z, -⟩ | ⟨z, -⟩ | ⟨z, -⟩ | ⟨z, -⟩ | ⟨z, -⟩ | ⟨-, z⟩
        all_goals first | exact z | omega
      refine xgo [] 40 hA ?_
      refine xfn (by rfl) ?_
      refine yg (by rfl) ?_
      refine xcV (mH_m _ _ _) (c_Mo_wrong hf1) (by rfl) (by rfl) (by rfl) (Nat.zero_le _) (Nat.zero_le _) ?_
      rintro o h' ⟨rfl, rfl⟩
      refine xP hP ⟨_, rfl, rfl, g1.p (by decide), p1, ?_⟩
      rw [hR]
      exact ⟨T1.p (by decide) (by decide), k1, hs, _, k2, by omega⟩
    · refine xgo [144] 60 hA ?_
      refine xtn (fun z => hw0 ((nI_eq (b := 0) (by omega) (by decide)).mp z)) ?_
      refine ya (by rfl) ?_
      refine yg (by rfl) ?_
      refine ys (i := n) hM (by rfl) e52 hn ?_
      obtain ⟨S2, hS2⟩ : ∃ S2, S2 = s2 S1 62 n (nI w) := ⟨_, rfl⟩
      rw [← hS2]
      have f2 : mF [] teL S1 S2 := by rw [hS2]; exact (mF.refl _ _ _).s (by decide)
      have p2 : pF teL n S S2 := by rw [hS2]; exact p1.s (Nat.le_refl _)
      have c62 : S2.2 62 n = nI w := by rw [hS2, s2_eq]
      have A2 := A1.f f2 (by decide)
      have g2 : mF tL teL S S2 := g1.tr f2 (by simp) (by simp)
      have e52b : S2.1 52 = nI n := by rw [f2.1 52 (by simp)]; exact e52
      obtain ⟨T2, ⟨m1, m2, m3, m4, m5⟩, hf2, -⟩ := id A2
      rw [← hse, ← hE] at m2
      refine xgo [161] 60 hA ?_
      refine xcV (mH_m _ _ _) (c_Mo_nextA (p := 0) hM T2 m2 hf2 (by omega)) (by rfl) (by rfl) (by rfl) (Nat.zero_le _) (Nat.zero_le _) ?_
      rintro o h' ⟨S3, rfl, rfl, f3, A3⟩
      have g3 : mF tL teL S S3 := g2.tr f3 (by simp) (by simp)
      have p3 : pF teL n S S3 := p2.f f3
      have d3 := fun k => f3.2 k (by simp)
      have c62b : S3.2 62 n = nI w := by rw [d3]; exact c62
      by_cases h6 : w < 6
      · refine xf (fun z => by have := (nI_leI (a := 6) (by decide) (by omega)).mp z; omega) ?_
        refine xP hP ⟨S3, rfl, rfl, g3, p3, ?_⟩
        rcases hw with ⟨z, y⟩ | ⟨z, y⟩ | ⟨z, y⟩ | ⟨z, -⟩ | ⟨z, -⟩ | ⟨z, -⟩
        · subst z
          rw [y]
          exact ⟨A3, fun z => (by cases z), fun _ => c62b, fun z => (by cases z), fun z => (by cases z), fun z => (by cases z), fun z => (by cases z), by show 1 ≤ 5; decide⟩
        · subst z
          rw [y]
          exact ⟨A3, fun z => (by cases z), fun z => (by cases z), fun _ => c62b, fun z => (by cases z), fun z => (by cases z), fun z => (by cases z), by show 2 ≤ 5; decide⟩
        · subst z
          rw [y]
          exact ⟨A3, fun z => (by cases z), fun z => (by cases z), fun z => (by cases z), fun _ => c62b, fun z => (by cases z), fun z => (by cases z), by show 3 ≤ 5; decide⟩
        all_goals omega
      refine xt (nI_le (a := 6) (by omega) (by omega)) ?_
      have e52c : S3.1 52 = nI n := by rw [f3.1 52 (by decide)]; exact e52b
      refine xcV (mH_m _ _ _) (c_Mo_need hM A3 (c := 40) (by rfl)) (by rfl) (by rfl) (by rfl) (Nat.zero_le _) (Nat.zero_le _) ?_
      rintro o h' ⟨S4, rfl, rfl, f4, r4⟩
      have g4 : mF tL teL S S4 := g3.tr f4 (by simp) (by simp)
      have p4 : pF teL n S S4 := p3.f f4
      have d4 := fun k => f4.2 k (by simp)
      have c62c : S4.2 62 n = nI w := by rw [d4]; exact c62b
      have e52d : S4.1 52 = nI n := by rw [f4.1 52 (by decide)]; exact e52c
      -- the kind that is wanted
      have wk : ∀ kk : Nat, ((w = 6 ∧ kk = 2) ∨ (w = 7 ∧ kk = 1)) → xG X 173 [(3, .int (nI w)), (2, .int (nI (sub t (s, E - s)).length)), (1, .int (nI (b + s))), (0, .ref M.1)] [.int (nI kk), .ref M.1] (mH h0 M S4) 0 0 := by
        intro kk hkk
        have eR : pCo t e = (pB (pSig 40 t E) fun _ k => if kk = 2 then (pB (pNum t (scan bl t k)) fun n m => pB (pSig 41 t m) fun _ q => .ok ((4, (0, 0), none, n), q)) else (pB (pName t (scan bl t k)) fun b m => pB (pSig 41 t m) fun _ q => .ok ((5, b, none, 0), q))) := by
          rcases hkk with ⟨z1, z2⟩ | ⟨z1, z2⟩
          · rcases hw with ⟨z, y⟩ | ⟨z, y⟩ | ⟨z, y⟩ | ⟨z, y⟩ | ⟨z, y⟩ | ⟨z, y⟩
            all_goals first | omega | (rw [y, z2]; simp only [if_true])
          · rcases hw with ⟨z, y⟩ | ⟨z, y⟩ | ⟨z, y⟩ | ⟨z, y⟩ | ⟨z, y⟩ | ⟨z, y⟩
            all_goals first | omega | (rw [y, z2]; rfl)
        cases hsg : pSig 40 t E with
        | error w0 =>
          rw [hsg] at r4 eR
          obtain ⟨q1, q2, q3⟩ := r4
          refine xgo [] 40 hA ?_
          refine xcV (mH_m _ _ _) (c_Mo_needKindF q2 (by omega)) (by rfl) (by rfl) (by rfl) (Nat.zero_le _) (Nat.zero_le _) ?_
          rintro o h' ⟨rfl, rfl⟩
          refine yg (by rfl) ?_
          rw [q2]
          refine xf (nI_neg (by omega)) ?_
          refine xP hP ⟨S4, rfl, rfl, g4, p4, ?_⟩
          rw [eR]
          exact ⟨q1, q2, q3⟩
        | ok q =>
          obtain ⟨u, k⟩ := q
          rw [hsg] at r4 eR
          obtain ⟨A4, -⟩ := r4
          obtain ⟨T4, ⟨v1, v2, v3, v4, v5⟩, hf4, hp4⟩ := id A4
          have hs4 := scan_le1 (p := bl) hp4
          have hk4 : pCo t e = (if kk = 2 then (pB (pNum t (scan bl t k)) fun n m => pB (pSig 41 t m) fun _ q => .ok ((4, (0, 0), none, n), q)) else (pB (pName t (scan bl t k)) fun b m => pB (pSig 41 t m) fun _ q => .ok ((5, b, none, 0), q))) := eR
          refine xgo [233] 60 hA ?_
          refine xcV (mH_m _ _ _) (c_Mo_needKind A4 (k := kk) (by omega)) (by rfl) (by rfl) (by rfl) (Nat.zero_le _) (Nat.zero_le _) ?_
          rintro o h' ⟨rfl, ⟨hkd, rfl⟩ | ⟨hkd, rfl⟩⟩
          rotate_left
          · refine yg (by rfl) ?_
            rw [s1_eq]
            refine xf (nI_neg (by omega)) ?_
            refine xP hP ⟨_, rfl, rfl, g4.p (by decide), p4, ?_⟩
            rw [hk4]
            rcases hkk with ⟨z1, z2⟩ | ⟨z1, z2⟩
            · rw [if_pos z2, pB_er (pNum_0 hB (by rw [← z2]; exact hkd))]
              exact ⟨T4.p (by decide) (by decide), s1_eq _ _ _, hs4, _, v2, tkE_le hs4⟩
            · rw [if_neg (by omega), pB_er (pName_0 (by rw [← z2]; exact hkd))]
              exact ⟨T4.p (by decide) (by decide), s1_eq _ _ _, hs4, _, v2, tkE_le hs4⟩
          refine yg (by rfl) ?_
          rw [hf4]
          refine xt (by decide) ?_
          refine ya (by rfl) ?_
          refine yg (by rfl) ?_
          refine yg (by rfl) ?_
          refine ys (i := n) hM (by rfl) e52d hn ?_
          refine ya (by rfl) ?_
          refine yg (by rfl) ?_
          refine yg (by rfl) ?_
          refine yg (by rfl) ?_
          refine ys (i := n) hM (by rfl) e52d hn ?_
          refine ya (by rfl) ?_
          refine yg (by rfl) ?_
          refine yg (by rfl) ?_
          refine yg (by rfl) ?_
          refine ys (i := n) hM (by rfl) e52d hn ?_
          obtain ⟨S5, hS5⟩ : ∃ S5, S5 = s2 (s2 (s2 S4 67 n (S4.1 48)) 63 n (S4.1 8 + S4.1 46)) 64 n (S4.1 47 - S4.1 46) := ⟨_, rfl⟩
          have f5 : mF [] teL S4 S5 := by rw [hS5]; exact (((mF.refl _ _ _).s (by decide)).s (by decide)).s (by decide)
          have p5 : pF teL n S S5 := by rw [hS5]; exact ((p4.s (Nat.le_refl _)).s (Nat.le_refl _)).s (Nat.le_refl _)
          have A5 := A4.f f5 (by decide)
          have g5 : mF tL teL S S5 := g4.tr f5 (by simp) (by simp)
          have q62 : S5.2 62 n = nI w := by rw [hS5, s2_na _ _ (by decide), s2_na _ _ (by decide), s2_na _ _ (by decide)]; exact c62c
          have q67 : S5.2 67 n = S4.1 48 := by rw [hS5, s2_na _ _ (by decide), s2_na _ _ (by decide), s2_eq]
          have q63 : S5.2 63 n = nI (b + scan bl t k) := by rw [hS5, s2_na _ _ (by decide), s2_eq, T4.1, v1, nI_add]
          suffices this : xG X 233 [(0, .ref M.1)] [] (mH h0 M S5) 0 0 by
            rw [hS5] at this
            exact this.locs (by simp)
          refine xgo [] 40 hA ?_
          obtain ⟨T5, ⟨m1', m2', -⟩, hf5, -⟩ := id A5
          refine xcV (mH_m _ _ _) (c_Mo_nextA (p := 0) hM T5 m2' hf5 (tkE_le hs4)) (by rfl) (by rfl) (by rfl) (Nat.zero_le _) (Nat.zero_le _) ?_
          rintro o h' ⟨S6, rfl, rfl, f6, A6⟩
          have d6 := fun k => f6.2 k (by simp)
          refine xcV (mH_m _ _ _) (c_Mo_need hM A6 (c := 41) (by rfl)) (by rfl) (by rfl) (by rfl) (Nat.zero_le _) (Nat.zero_le _) ?_
          rintro o h' ⟨S7, rfl, rfl, f7, r7⟩
          have d7 := fun k => f7.2 k (by simp)
          refine xP hP ⟨S7, rfl, rfl, (g5.tr f6 (by simp) (by simp)).tr f7 (by simp) (by simp), (p5.f f6).f f7, ?_⟩
          rw [hk4]
          rcases hkk with ⟨z1, z2⟩ | ⟨z1, z2⟩
          · rw [z2] at hkd
            have eM := pNum_1 hkd
            have hlt := pNum_lt eM
            rw [if_pos z2, pB_ok eM]
            cases hq : pSig 41 t (tkE t (scan bl t k)) with
            | error w1 => rw [hq] at r7; exact r7
            | ok q =>
              rw [hq] at r7
              refine ⟨r7.1, fun z => (by cases z), fun z => (by cases z), fun z => (by cases z), fun z => (by cases z), fun _ => ⟨?_, ?_, hlt⟩, fun z => (by cases z), by show 4 ≤ 5; decide⟩
              · rw [d7, d6, q62, z1]; rfl
              · rw [d7, d6, q67]; exact v5 hkd
          · rw [z2] at hkd
            have eM := pName_1 hkd
            obtain ⟨x1, x2, x3, x4, x5, x6, -⟩ := pName_sub eM
            simp only [] at x2
            have x6' : tkE t (scan bl t k) ≤ t.length := x6
            have x2' : scan bl t k + (tkE t (scan bl t k) - scan bl t k) = tkE t (scan bl t k) := x2
            rw [if_neg (by omega), pB_ok eM]
            cases hq : pSig 41 t (tkE t (scan bl t k)) with
            | error w1 => rw [hq] at r7; exact r7
            | ok q =>
              rw [hq] at r7
              refine ⟨r7.1, fun z => (by cases z), fun z => (by cases z), fun z => (by cases z), fun z => (by cases z), fun z => (by cases z), fun _ => ⟨?_, ?_, ?_, ?_⟩, by show 5 ≤ 5; decide⟩
              · rw [d7, d6, q62, z1]; rfl
              · rw [d7, d6, q63]
              · rw [d7, d6, hS5, s2_eq, v1, v2, nI_sub (by omega)]
              · show scan bl t k + (tkE t (scan bl t k) - scan bl t k) ≤ t.length
                omega
      show xG X 161 [(3, .int (nI w)), (2, .int (nI (sub t (s, E - s)).length)), (1, .int (nI (b + s))), (0, .ref M.1)] [] (mH h0 M S4) _ _
      refine xgo [173] 40 hA ?_
      by_cases h66 : w = 6
      · refine xfn (by rw [h66]; rfl) ?_
        exact wk 2 (Or.inl ⟨h66, rfl⟩)
      · refine xtn (fun z => h66 ((nI_eq (b := 6) (by omega) (by decide)).mp z)) ?_
        exact wk 1 (Or.inr ⟨by omega, rfl⟩)
  show xG X 37 [(2, .int (S1.1 47 - S1.1 46)), (1, .int (S1.1 8 + S1.1 46)), (0, .ref M.1)] [] (mH h0 M S1) _ _
  rw [ea, en]
  refine xgo [120] 90 hA ?_
  refine xcV (mH_m _ _ _) (c_Mo_isWord (u := wFirst) hM sg1 (by rfl) (by decide) (by decide) hnb (by omega)) (by rfl) (by rfl) (by rfl) (Nat.zero_le _) (Nat.zero_le _) ?_
  rintro o h' ⟨rfl, rfl⟩
  refine xb (fun c => ?_) (fun c => ?_)
  rotate_left
  · exact how 3 (by decide) (Or.inl ⟨rfl, by rw [eP, if_pos (of_decide_eq_true ((bI_n0 _).mp c))]⟩)
  have c1 := of_decide_eq_false ((bI_0 _).mp c)
  rw [if_neg c1] at eP
  refine xcV (mH_m _ _ _) (c_Mo_isWord (u := wLast) hM sg1 (by rfl) (by decide) (by decide) hnb (by omega)) (by rfl) (by rfl) (by rfl) (Nat.zero_le _) (Nat.zero_le _) ?_
  rintro o h' ⟨rfl, rfl⟩
  refine xb (fun c => ?_) (fun c => ?_)
  rotate_left
  · exact how 4 (by decide) (Or.inr (Or.inl ⟨rfl, by rw [eP, if_pos (of_decide_eq_true ((bI_n0 _).mp c))]⟩))
  have c2 := of_decide_eq_false ((bI_0 _).mp c)
  rw [if_neg c2] at eP
  refine xcV (mH_m _ _ _) (c_Mo_isWord (u := wEmpty) hM sg1 (by rfl) (by decide) (by decide) hnb (by omega)) (by rfl) (by rfl) (by rfl) (Nat.zero_le _) (Nat.zero_le _) ?_
  rintro o h' ⟨rfl, rfl⟩
  refine xb (fun c => ?_) (fun c => ?_)
  rotate_left
  · exact how 5 (by decide) (Or.inr (Or.inr (Or.inl ⟨rfl, by rw [eP, if_pos (of_decide_eq_true ((bI_n0 _).mp c))]⟩)))
  have c3 := of_decide_eq_false ((bI_0 _).mp c)
  rw [if_neg c3] at eP
  refine xcV (mH_m _ _ _) (c_Mo_isWord (u := wNth) hM sg1 (by rfl) (by decide) (by decide) hnb (by omega)) (by rfl) (by rfl) (by rfl) (Nat.zero_le _) (Nat.zero_le _) ?_
  rintro o h' ⟨rfl, rfl⟩
  refine xb (fun c => ?_) (fun c => ?_)
  rotate_left
  · exact how 6 (by decide) (Or.inr (Or.inr (Or.inr (Or.inl ⟨rfl, by rw [eP, if_pos (of_decide_eq_true ((bI_n0 _).mp c))]⟩))))
  have c4 := of_decide_eq_false ((bI_0 _).mp c)
  rw [if_neg c4] at eP
  refine xcV (mH_m _ _ _) (c_Mo_isWord (u := wNot) hM sg1 (by rfl) (by decide) (by decide) hnb (by omega)) (by rfl) (by rfl) (by rfl) (Nat.zero_le _) (Nat.zero_le _) ?_
  rintro o h' ⟨rfl, rfl⟩
  refine xb (fun c => ?_) (fun c => ?_)
  · have c5 := of_decide_eq_false ((bI_0 _).mp c)
    rw [if_neg c5] at eP
    exact how 0 (by decide) (Or.inr (Or.inr (Or.inr (Or.inr (Or.inr ⟨rfl, eP⟩)))))
  · exact how 7 (by decide) (Or.inr (Or.inr (Or.inr (Or.inr (Or.inl ⟨rfl, by rw [eP, if_pos (of_decide_eq_true ((bI_n0 _).mp c))]⟩)))))
end
