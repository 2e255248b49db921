/-! THE REFERENCE, 12: a style -/
def flS (rs : List RU) : List (List ST × Nat) := (rs.zipIdx.map (fun R => R.1.1.map (fun l => (l, R.2)))).flatten
def flT (rs : List RU) : List (TD × Nat) := (rs.zipIdx.map (fun R => R.1.2.map (fun l => (l, R.2)))).flatten
theorem flS_snoc (rs : List RU) (R : RU) : flS (rs ++ [R]) = flS rs ++ R.1.map (fun l => (l, rs.length)) := by
  simp [flS, List.zipIdx_append]
theorem flT_snoc (rs : List RU) (R : RU) : flT (rs ++ [R]) = flT rs ++ R.2.map (fun l => (l, rs.length)) := by
  simp [flT, List.zipIdx_append]
def bsM (S : MS) (b : Nat) (t : List Nat) (k n : Nat) (bs : List (List ST × Nat)) : Prop := ∀ i q, bs[i]? = some q → S.2 55 i = nI q.2 ∧ q.1.length ≤ 8 ∧ ∃ f, slM S b t i f n q.1 ∧ f + q.1.length ≤ k
def stR (S : MS) (b : Nat) (t : List Nat) (bs : List (List ST × Nat)) (ds : List (TD × Nat)) (ns : List (Nat × Nat)) : Prop := S.1 50 = nI bs.length ∧ S.1 68 = nI ds.length ∧ S.1 69 = nI ns.length ∧ (∃ k n, S.1 51 = nI k ∧ S.1 52 = nI n ∧ k ≤ 8 * bs.length ∧ n ≤ 4 * k ∧ bsM S b t k n bs) ∧ dsM S b t ds ∧ nsM S b t ns ∧ bs.length ≤ 120 ∧ ds.length ≤ 600 ∧ ns.length ≤ 30
theorem tkK_5 {t : List Nat} {s : Nat} : tkK t s = 5 ↔ ch t s = 256 := by
  unfold tkK
  constructor
  · intro h
    split at h
    · assumption
    · split at h
      · split at h <;> cases h
      · split at h
        · split at h <;> cases h
        · split at h
          · split at h <;> cases h
          · cases h
  · intro h
    rw [if_pos h]
theorem stR.gf {S S' : MS} {b : Nat} {t : List Nat} {bs : List (List ST × Nat)} {ds : List (TD × Nat)} {ns : List (Nat × Nat)} {L : List Nat} {P : Nat → Nat → Prop} (H : stR S b t bs ds ns) (g : gF L P S S') (h1 : (L.all fun k => decide (k ∉ [50, 51, 52, 68, 69])) = true) (h2 : ∀ k i, 53 ≤ k → k ≤ 78 → ¬ P k i) : stR S' b t bs ds ns := by
  obtain ⟨e1, e2, e3, ⟨k, n, e4, e5, e6, e7, e8⟩, e9, e10, e11⟩ := H
  have e : ∀ k ∈ [50, 51, 52, 68, 69], S'.1 k = S.1 k := fun k hk => g.1 k fun z => by
    have := List.all_eq_true.mp h1 k z
    exact absurd hk (of_decide_eq_true this)
  refine ⟨by rw [e 50 (by decide)]; exact e1, by rw [e 68 (by decide)]; exact e2, by rw [e 69 (by decide)]; exact e3, ⟨k, n, by rw [e 51 (by decide)]; exact e4, by rw [e 52 (by decide)]; exact e5, e6, e7, fun i q hq => ?_⟩, e9.eq (fun k i a1 a2 _ => g.2 k i (h2 k i (by omega) (by omega))), e10.eq (fun k i a1 a2 _ => g.2 k i (h2 k i (by omega) (by omega))), e11⟩
  obtain ⟨w1, w2, f, w3, w4⟩ := e8 i q hq
  exact ⟨by rw [g.2 55 i (h2 55 i (by decide) (by decide))]; exact w1, w2, f, w3.eq (fun k i hk => g.2 k i (h2 k i (by omega) (by omega))), w4⟩
abbrev rsL : List Nat := [6, 45, 46, 47, 48, 49, 50, 51, 52, 68, 69]
def rsP (k _i : Nat) : Prop := 53 ≤ k ∧ k ≤ 78
section
variable {l : Launch} {D : xD} {h0 : xH} {M : MA} {S : MS}
set_option maxRecDepth 20000 in
theorem c_Mo_isSignX {c : Int32} : xMet l D 0 y_Mo_isSign [.ref M.1, .int c] (mH h0 M S) 0 0 (fun o h' => h' = mH h0 M S ∧ ∃ q : Bool, o = .inl (some (.int (bI q)))) := by
  refine m_Mo_isSign (Nat.le_of_ble_eq_true rfl) fun X hl hD hP hA => ?_
  subst hl hD
  refine xgo [] 20 hA ?_
  refine yg (by rfl) ?_
  refine xb (fun c1 => ?_) (fun c1 => ?_)
  · exact ⟨bI_nar false, xP hP ⟨rfl, false, rfl⟩⟩
  · refine yg (by rfl) ?_
    refine xb (fun c2 => ?_) (fun c2 => ?_)
    · exact ⟨bI_nar false, xP hP ⟨rfl, false, rfl⟩⟩
    · exact ⟨bI_nar true, xP hP ⟨rfl, true, rfl⟩⟩
set_option maxRecDepth 20000 in
theorem c_bodyF {α : Type} {ok : α → Prop} {b wr : Nat} {bi : Int32} {t : List Nat} (hM : mok M) (R : mRes S b t (.error wr : Except Nat (α × Nat)) ok) : xMet l D 3 y_Mo_body [.ref M.1, .int bi] (mH h0 M S) 0 0 (fun o h' => ∃ S', h' = mH h0 M S' ∧ o = .inl none ∧ mF [45, 46, 47, 48, 49] [] S S' ∧ mRes S' b t (.error wr : Except Nat (α × Nat)) ok) := by
  obtain ⟨T', hf', hw', e, he1, he2⟩ := R
  have hl := T'.2.2.2.2.1
  refine m_Mo_body (Nat.le_of_ble_eq_true rfl) fun X hl hD hP hA => ?_
  subst hl hD
  refine xgo [] 60 hA ?_
  refine xcV (mH_m _ _ _) (c_Mo_needF hf' (by omega)) (by rfl) (by rfl) (by rfl) (Nat.zero_le _) (Nat.zero_le _) ?_
  rintro o h' ⟨rfl, rfl⟩
  refine yg (by rfl) ?_
  refine xt (by rw [hf']; exact nI_pos' (by omega)) ?_
  refine xcV (mH_m _ _ _) (c_Mo_next hM T' he1 he2) (by rfl) (by rfl) (by rfl) (Nat.zero_le _) (Nat.zero_le _) ?_
  rintro o h' ⟨S2, rfl, rfl, f2, K2⟩
  exact xP hP ⟨_, rfl, rfl, f2, T'.fr f2 (by decide), by rw [f2.1 6 (by decide)]; exact hf', hw', _, K2.2.1, tkE_le (scan_le1 he2)⟩
set_option maxRecDepth 20000 in
theorem c_readStyle2 {b : Nat} {t : List Nat} (hM : mok M) (T : tx S b t) (hf : S.1 6 = -1) : xMet l D 6 y_Mo_readStyle [.ref M.1] (mH h0 M S) 0 0 (fun o h' => ∃ S', h' = mH h0 M S' ∧ o = .inl none ∧ gF rsL rsP S S' ∧ mRes S' b t (pSty t) (fun Y => stR S' b t (flS Y.ru) (flT Y.ru) Y.ns)) := by
  have hl := T.2.2.2.2.1
  refine m_Mo_readStyle (Nat.le_of_ble_eq_true rfl) fun X hl hD hP hA => ?_
  subst hl hD
  have bad36 : ∀ (α : Type) (ok : α → Prop) (S' : MS) (wr : Nat), gF rsL rsP S S' → mRes S' b t (.error wr : Except Nat (α × Nat)) ok → pSty t = .error wr → ∀ ls, (∀ q ∈ [(0, Value.ref M.1)], q ∈ ls) → xG X 36 ls [] (mH h0 M S') 0 0 := by
    intro α ok S' wr g R eR ls hls
    refine xG.locs ?_ hls
    obtain ⟨T', hf', hw', e, he1, he2⟩ := id R
    refine xgo [] 30 hA ?_
    refine yg (by rfl) ?_
    refine xt (by rw [hf']; exact nI_pos' (by omega)) ?_
    refine xP hP ⟨_, rfl, rfl, g, ?_⟩
    rw [eR]
    exact R
  have bad133 : ∀ (α : Type) (ok : α → Prop) (S' : MS) (wr : Nat) (x1 x2 : Int32), gF rsL rsP S S' → mRes S' b t (.error wr : Except Nat (α × Nat)) ok → pSty t = .error wr → ∀ ls, (∀ q ∈ [(2, Value.int x2), (1, .int x1), (0, .ref M.1)], q ∈ ls) → xG X 133 ls [] (mH h0 M S') 0 0 := by
    intro α ok S' wr x1 x2 g R eR ls hls
    refine xG.locs ?_ hls
    refine xgo [36] 30 hA ?_
    refine yg (by rfl) ?_
    refine xb (fun c1 => ?_) (fun c1 => ?_)
    · exact bad36 α ok S' wr g R eR _ (by simp)
    · refine xcV (mH_m _ _ _) (c_bodyF hM R) (by rfl) (by rfl) (by rfl) (Nat.zero_le _) (Nat.zero_le _) ?_
      rintro o h' ⟨S2, rfl, rfl, f2, R2⟩
      exact bad36 α ok S2 wr (g.tr f2.g0 (by simp) (fun _ _ z => z)) R2 eR _ (by simp)
  have bad58 : ∀ (α : Type) (ok : α → Prop) (S' : MS) (wr : Nat) (x1 x2 x3 : Int32), gF rsL rsP S S' → mRes S' b t (.error wr : Except Nat (α × Nat)) ok → pSty t = .error wr → ∀ ls, (∀ q ∈ [(3, .int x3), (2, Value.int x2), (1, .int x1), (0, .ref M.1)], q ∈ ls) → xG X 58 ls [] (mH h0 M S') 0 0 := by
    intro α ok S' wr x1 x2 x3 g R eR ls hls
    refine xG.locs ?_ hls
    obtain ⟨T', hf', hw', e, he1, he2⟩ := id R
    refine xgo [133] 30 hA ?_
    refine xb (fun c1 => ?_) (fun c1 => ?_)
    · exact bad133 α ok S' wr x1 x2 g R eR _ (by simp)
    · refine yg (by rfl) ?_
      refine xt (by rw [hf']; exact nI_pos' (by omega)) ?_
      exact bad133 α ok S' wr x1 x2 g R eR _ (by simp)
  -- rules
  have rules : ∀ (n i : Nat) (Y : YS) (S' : MS), t.length ≤ i + n → pSty t = pRules t n i Y → atA S' b t i → gF rsL rsP S S' → stR S' b t (flS Y.ru) (flT Y.ru) Y.ns → Y.sc = (flS Y.ru).length → Y.tc = (flT Y.ru).length → ∀ ls, (∀ q ∈ [(1, Value.int (nI Y.ru.length)), (0, .ref M.1)], q ∈ ls) → xG X 36 ls [] (mH h0 M S') 0 0 := by
    intro n
    induction n with
    | zero =>
      intro i Y S' hi eR A' g R' hsc htc ls hls
      refine xG.locs ?_ hls
      obtain ⟨T', K', hf', hp'⟩ := id A'
      have e5 : tkK t (scan bl t i) = 5 := tkK_5.mpr (ch_out (by have := scan_ge bl t i; omega))
      refine xgo [] 30 hA ?_
      refine yg (by rfl) ?_
      rw [hf']
      refine xf (by decide) ?_
      refine yg (by rfl) ?_
      rw [K'.2.2.1, e5]
      refine xt rfl ?_
      refine xP hP ⟨_, rfl, rfl, g, ?_⟩
      rw [eR]
      exact ⟨A', R'⟩
    | succ n ih =>
      intro i Y S' hi eR A' g R' hsc htc ls hls
      refine xG.locs ?_ hls
      obtain ⟨T', K', hf', hp'⟩ := id A'
      have hK := tkK_lt t (scan bl t i)
      refine xgo [58] 30 hA ?_
      refine yg (by rfl) ?_
      rw [hf']
      refine xf (by decide) ?_
      refine yg (by rfl) ?_
      rw [K'.2.2.1]
      refine xb (fun c1 => ?_) (fun c1 => ?_)
      · have e5 := tkK_5.mp ((nI_eq (b := 5) (by omega) (by decide)).mp c1)
        refine xP hP ⟨_, rfl, rfl, g, ?_⟩
        rw [eR, pRules, if_pos e5]
        exact ⟨A'.sc, R'⟩
      have e5 : ¬ ch t (scan bl t i) = 256 := fun z => c1 (by rw [tkK_5.mpr z]; rfl)
      have hlt : scan bl t i < t.length := Nat.lt_of_not_le fun z => e5 (ch_out z)
      rw [pRules, if_neg e5, pRule_bR] at eR
      refine yg (by rfl) ?_
      rw [R'.1]
      obtain ⟨bs, hbs⟩ : ∃ bs, bs = flS Y.ru := ⟨_, rfl⟩
      obtain ⟨ds, hds⟩ : ∃ ds, ds = flT Y.ru := ⟨_, rfl⟩
      obtain ⟨bi, hbi⟩ : ∃ bi, bi = Y.ru.length := ⟨_, rfl⟩
      rw [← hbs, ← hds] at R'
      rw [← hbs] at hsc
      rw [← hds] at htc
      rw [← hbs, ← hbi]
      -- selectors
      have sels : ∀ (k0 m : Nat) (ss : List (List ST)) (j : Nat) (S2 : MS), m = k0 → m + ss.length = 121 → pSels t 121 (scan bl t i) Y.sc [] = pSels t m j (Y.sc + ss.length) ss → atA S2 b t j → gF rsL rsP S S2 → stR S2 b t (bs ++ ss.map (fun l => (l, bi))) ds Y.ns → ∀ ls, (∀ q ∈ [(3, Value.int 1), (2, .int (nI bs.length)), (1, .int (nI bi)), (0, .ref M.1)], q ∈ ls) → xG X 58 ls [] (mH h0 M S2) 0 0 := by
        intro k0
        induction k0 with
        | zero =>
          intro m ss j S2 h1 h2 e3 A2 g2 R2
          have := R2.2.2.2.2.2.2.1
          simp only [List.length_append, List.length_map] at this
          omega
        | succ k0 ihS =>
          intro m ss j S2 h1 h2 e3 A2 g2 R2 ls hls
          refine xG.locs ?_ hls
          subst h1
          obtain ⟨T2, K2, hf2, hp2⟩ := id A2
          have hsj := scan_le1 (p := bl) hp2
          obtain ⟨r1, r2, r3, ⟨k, nn, r4, r5, r6, r7, r8⟩, r9, r10, r11, r12, r13⟩ := id R2
          have hlen : (bs ++ ss.map (fun l => (l, bi))).length = bs.length + ss.length := by simp
          rw [hlen] at r1 r6 r11
          refine xgo [95] 60 hA ?_
          refine xf (by decide) ?_
          refine yg (by rfl) ?_
          rw [hf2]
          refine xf (by decide) ?_
          refine yg (by rfl) ?_
          rw [r1]
          refine xb (fun c2 => ?_) (fun c2 => ?_)
          rotate_left
          · have h120 := (nI_eq (b := 120) (by omega) (by decide)).mp c2
            refine yg (by rfl) ?_
            refine xcV (mH_m _ _ _) (c_Mo_wrong hf2) (by rfl) (by rfl) (by rfl) (Nat.zero_le _) (Nat.zero_le _) ?_
            rintro o h' ⟨rfl, rfl⟩
            refine xP hP ⟨_, rfl, rfl, g2.p (by decide), ?_⟩
            rw [eR, pB_er (w := scan bl t j)]
            · exact ⟨T2.p (by decide) (by decide), K2.1, hsj, _, K2.2.1, tkE_le hsj⟩
            · rw [pB_er]
              rw [e3, pSels, if_pos (by omega)]
          have l120 : bs.length + ss.length < 120 := by
            have : ¬ bs.length + ss.length = 120 := fun z => c2 (by rw [z]; rfl)
            omega
          have e3' : pSels t 121 (scan bl t i) Y.sc [] = (pB (pSel t (scan bl t j)) fun l j => if ch t (scan bl t j) = 44 then pSels t k0 (scan bl t j + 1) (Y.sc + ss.length + 1) (ss ++ [l]) else .ok (ss ++ [l], scan bl t j)) := by rw [e3, pSels, if_neg (by omega)]
          refine yg (by rfl) ?_
          rw [r1]
          refine xcV (mH_m _ _ _) (c_selector2 hM A2.sc (s := bs.length + ss.length) (by omega) r4 r5 (by omega) r7) (by rfl) (by rfl) (by rfl) (Nat.zero_le _) (Nat.zero_le _) ?_
          rintro o h' ⟨S3, rfl, rfl, g3, R3⟩
          have gg3 := g2.tr g3 (by decide) (fun k x z => by unfold slP stP at z; unfold rsP; omega)
          have e50 : S3.1 50 = nI (bs.length + ss.length) := by rw [g3.1 50 (by decide)]; exact r1
          obtain ⟨S4, hS4⟩ : ∃ S4, S4 = s1 (s2 S3 55 (bs.length + ss.length) (nI bi)) 50 (nI (bs.length + ss.length + 1)) := ⟨_, rfl⟩
          have g4 : gF [50] (fun k x => k = 55 ∧ x = bs.length + ss.length) S3 S4 := by rw [hS4]; exact ((gF.refl _ _ _).s ⟨rfl, rfl⟩).p (by decide)
          have gg4 := gg3.tr g4 (by decide) (fun k x z => by unfold rsP; omega)
          suffices this : xG X 115 [(3, .int 1), (2, .int (nI bs.length)), (1, .int (nI bi)), (0, .ref M.1)] [] (mH h0 M S4) 0 0 by
            refine xgo [115] 40 hA ?_
            refine ya (by rfl) ?_
            refine yg (by rfl) ?_
            refine ys (i := bs.length + ss.length) hM (by rfl) e50 (by show bs.length + ss.length < 123; omega) ?_
            refine yg (by rfl) ?_
            refine yp (by rfl) ?_
            rw [hS4, ← nI_1] at this
            rw [show (s2 S3 55 (bs.length + ss.length) (nI bi)).1 50 = nI (bs.length + ss.length) from e50]
            exact this
          cases hq : pSel t (scan bl t j) with
          | error wr =>
            rw [hq] at R3
            have R4 := R3.gf (ok' := fun _ : List ST => True) g4 (by decide) (fun i _ _ => by omega)
            have eW : pSty t = .error wr := by rw [eR, pB_er (w := wr)]; rw [pB_er (w := wr)]; rw [e3', pB_er hq]
            obtain ⟨T4, hf4, hw4, e, he1, he2⟩ := id R4
            refine xgo [58] 40 hA ?_
            refine xcV (mH_m _ _ _) (c_Mo_isSignX) (by rfl) (by rfl) (by rfl) (Nat.zero_le _) (Nat.zero_le _) ?_
            rintro o h' ⟨rfl, q, rfl⟩
            refine xb (fun c3 => ?_) (fun c3 => ?_)
            · exact bad58 _ _ S4 wr (nI bi) (nI bs.length) (bI q) gg4 R4 eW _ (by simp)
            · refine xcV (mH_m _ _ _) (c_Mo_next hM T4 he1 he2) (by rfl) (by rfl) (by rfl) (Nat.zero_le _) (Nat.zero_le _) ?_
              rintro o h' ⟨S5, rfl, rfl, f5, K5⟩
              refine bad58 (List ST) (fun _ => True) S5 wr (nI bi) (nI bs.length) (bI q) (gg4.tr f5.g0 (by simp) (fun _ _ z => z)) ?_ eW _ (by simp)
              exact ⟨T4.fr f5 (by decide), by rw [f5.1 6 (by decide)]; exact hf4, hw4, _, K5.2.1, tkE_le (scan_le1 he2)⟩
          | ok q =>
            obtain ⟨sl, j3⟩ := q
            rw [hq] at R3
            rw [pB_ok hq] at e3'
            obtain ⟨A3, l8, p51, n', p52, pn1, pn2, W⟩ := R3
            have A4 := A3.gf g4 (by decide) (fun i _ _ => by omega)
            have hl4 : (bs ++ (ss ++ [sl]).map (fun l => (l, bi))).length = bs.length + ss.length + 1 := by simp [Nat.add_assoc]
            have R4 : stR S4 b t (bs ++ (ss ++ [sl]).map (fun l => (l, bi))) ds Y.ns := by
              refine ⟨by rw [hS4, s1_eq, hl4], by rw [g4.1 68 (by decide), g3.1 68 (by decide)]; exact r2, by rw [g4.1 69 (by decide), g3.1 69 (by decide)]; exact r3, ⟨k + sl.length, n', by rw [g4.1 51 (by decide)]; exact p51, by rw [g4.1 52 (by decide)]; exact p52, by rw [hl4]; have : sl.length ≤ 8 := l8; omega, pn2, ?_⟩, ?_, ?_, by rw [hl4]; omega, r12, r13⟩
              · rw [List.map_append, ← List.append_assoc]
                intro x q hx
                rcases snoc_at hx with ⟨y1, y2⟩ | ⟨y1, y2⟩
                · obtain ⟨w1, w2, f, w3, w4⟩ := r8 x q y2
                  rw [hlen] at y1
                  refine ⟨?_, w2, f, ?_, by omega⟩
                  · rw [g4.2 55 x (by omega), g3.2 55 x (by unfold slP stP; omega)]; exact w1
                  · have w5 := w3.eq (S' := S4) (fun a c hac => by rw [g4.2 a c (by omega), g3.2 a c (by unfold slP stP; omega)])
                    exact ⟨w5.1, w5.2.1, w5.2.2.1, fun i st hi => by
                      obtain ⟨fi, v1, v2⟩ := w5.2.2.2 i st hi
                      exact ⟨fi, v1, by omega⟩⟩
                · rw [hlen] at y1
                  subst y1 y2
                  refine ⟨by rw [hS4]; simp [s1, s2], l8, k, ?_, Nat.le_refl _⟩
                  exact W.eq (fun a c hac => g4.2 a c (by omega))
              · exact r9.eq (fun a c _ _ _ => by rw [g4.2 a c (by omega), g3.2 a c (by unfold slP stP; omega)])
              · exact r10.eq (fun a c _ _ _ => by rw [g4.2 a c (by omega), g3.2 a c (by unfold slP stP; omega)])
            obtain ⟨T4, K4, hf4, hp4⟩ := id A4
            refine xgo [58] 40 hA ?_
            refine xcV (mH_m _ _ _) (c_Mo_isSign T4 K4 (c := 44) (by rfl)) (by rfl) (by rfl) (by rfl) (Nat.zero_le _) (Nat.zero_le _) ?_
            rintro o h' ⟨rfl, rfl⟩
            refine xb (fun c3 => ?_) (fun c3 => ?_)
            · -- the body
              have n3 := of_decide_eq_false ((bI_0 _).mp c3)
              change ¬ ch t (scan bl t j3) = 44 at n3
              rw [if_neg n3] at e3'
              rw [decide_eq_false n3]
              show xG X 58 _ [] _ _ _
              refine xgo [36] 40 hA ?_
              refine xt rfl ?_
              rw [pB_ok e3'] at eR
              refine yg (by rfl) ?_
              rw [R4.1, hl4]
              refine xf (fun z => by
                have z' := (nI_leI (a := bs.length + ss.length + 1) (b := bs.length) (by omega) (by omega)).mp z
                omega) ?_
              refine xcV (mH_m _ _ _) (c_body2 (bi := bi) hM A4.sc R4.2.1 R4.2.2.1 R4.2.2.2.2.2.1 R4.2.2.2.2.1 R4.2.2.2.2.2.2.2.1 R4.2.2.2.2.2.2.2.2) (by rfl) (by rfl) (by rfl) (Nat.zero_le _) (Nat.zero_le _) ?_
              rintro o h' ⟨S5, rfl, rfl, g5, R5⟩
              have gg5 := gg4.tr g5 (by decide) (fun k x z => by unfold boP at z; unfold rsP; omega)
              have e68 : (ds.length = Y.tc) := htc.symm
              cases hb : bR t (scan bl t j3) Y.ns ds.length with
              | error wr =>
                rw [hb] at R5
                refine bad36 _ _ S5 wr gg5 R5 ?_ _ (by simp)
                rw [eR, pB_er (w := wr)]
                rw [pB_er (w := wr)]
                rw [← e68]; exact hb
              | ok q =>
                obtain ⟨q, z⟩ := q
                rw [hb] at R5
                obtain ⟨A5, p68, p69, pN, pD, pl1, pl2⟩ := R5
                rw [e68] at hb
                have eY : pRule t (scan bl t i) Y = .ok ((Y.ru ++ [(ss ++ [sl], q.1)], q.2, Y.sc + (ss ++ [sl]).length, Y.tc + q.1.length), z) := by rw [pRule_bR, pB_ok e3', pB_ok hb]
                have adv := pRule_adv t Y (Nat.le_of_lt hlt) _ _ eY
                rw [pB_ok hb] at eR
                have hsi := scan_ge bl t i
                have fs : flS (Y.ru ++ [(ss ++ [sl], q.1)]) = bs ++ (ss ++ [sl]).map (fun l => (l, bi)) := by rw [flS_snoc, ← hbs, ← hbi]
                have ft : flT (Y.ru ++ [(ss ++ [sl], q.1)]) = ds ++ q.1.map (fun l => (l, bi)) := by rw [flT_snoc, ← hds, ← hbi]
                refine ih z (Y.ru ++ [(ss ++ [sl], q.1)], q.2, Y.sc + (ss ++ [sl]).length, Y.tc + q.1.length) S5 (by omega) eR A5 gg5 ?_ ?_ ?_ _ (by
                  have e : nI bi + 1 = nI (Y.ru ++ [(ss ++ [sl], q.1)]).length := by rw [nI_1, List.length_append, hbi]; rfl
                  show ∀ q_1 ∈ [(1, Value.int (nI (Y.ru ++ [(ss ++ [sl], q.1)]).length)), (0, .ref M.1)], _
                  rw [← e]
                  simp)
                · show stR S5 b t (flS (Y.ru ++ [(ss ++ [sl], q.1)])) (flT (Y.ru ++ [(ss ++ [sl], q.1)])) q.2
                  rw [fs, ft]
                  obtain ⟨v1, v2, v3, ⟨k', n'', v4, v5, v6, v7, v8⟩, v9⟩ := R4
                  refine ⟨by rw [g5.1 50 (by decide)]; exact v1, by rw [p68, List.length_append, List.length_map], p69, ⟨k', n'', by rw [g5.1 51 (by decide)]; exact v4, by rw [g5.1 52 (by decide)]; exact v5, v6, v7, fun x y hx => ?_⟩, pD, pN, v9.2.2.1, by rw [List.length_append, List.length_map]; exact pl1, pl2⟩
                  obtain ⟨w1, w2, f, w3, w4⟩ := v8 x y hx
                  exact ⟨by rw [g5.2 55 x (by unfold boP; omega)]; exact w1, w2, f, w3.eq (fun a c hac => g5.2 a c (by unfold boP; omega)), w4⟩
                · show Y.sc + (ss ++ [sl]).length = (flS (Y.ru ++ [(ss ++ [sl], q.1)])).length
                  rw [fs, hsc]; simp
                · show Y.tc + q.1.length = (flT (Y.ru ++ [(ss ++ [sl], q.1)])).length
                  rw [ft, htc]; simp
            · -- one more
              have n3 := of_decide_eq_true ((bI_n0 _).mp c3)
              change ch t (scan bl t j3) = 44 at n3
              rw [if_pos n3] at e3'
              have hlt3 := ch_lt n3 (by decide)
              refine xcV (mH_m _ _ _) (c_Mo_nextA (p := 0) (e := scan bl t j3 + 1) hM T4 (K4.2.1.trans (by show nI (tkE t (scan bl t j3)) = _; rw [(tk_sg (c := 44) (by rfl) n3).2.2])) hf4 (by omega)) (by rfl) (by rfl) (by rfl) (Nat.zero_le _) (Nat.zero_le _) ?_
              rintro o h' ⟨S5, rfl, rfl, f5, A5⟩
              rw [decide_eq_true n3]
              exact ihS k0 (ss ++ [sl]) _ S5 rfl (by rw [List.length_append, List.length_singleton]; omega) (by rw [e3', List.length_append, List.length_singleton, Nat.add_assoc]) A5 (gg4.tr f5.g0 (by simp) (fun _ _ z => z)) (R4.gf f5.g0 (P := fun _ _ => False) (by decide) (fun _ _ _ _ z => z)) _ (by simp [bI])
      exact sels 121 121 [] (scan bl t i) S' rfl rfl rfl A'.sc g (by rw [List.map_nil, List.append_nil]; exact R') _ (by simp)
  refine xgo [30] 60 hA ?_
  refine yp (by rfl) ?_
  refine yp (by rfl) ?_
  refine yp (by rfl) ?_
  refine yp (by rfl) ?_
  refine yp (by rfl) ?_
  refine yp (by rfl) ?_
  obtain ⟨S1, hS1⟩ : ∃ S1, S1 = s1 (s1 (s1 (s1 (s1 (s1 S 50 0) 51 0) 52 0) 68 0) 69 0) 47 0 := ⟨_, rfl⟩
  have g1 : gF [47, 50, 51, 52, 68, 69] (fun _ _ => False) S S1 := by
    rw [hS1]
    exact ((((((gF.refl _ _ _).p (by decide)).p (by decide)).p (by decide)).p (by decide)).p (by decide)).p (by decide)
  suffices this : xG X 30 [(0, .ref M.1)] [] (mH h0 M S1) 0 0 by
    rw [hS1] at this
    exact this
  have T1 : tx S1 b t := T.gf g1 (by decide) (fun _ _ _ z => z)
  refine xgo [36] 60 hA ?_
  refine xcV (mH_m _ _ _) (c_Mo_nextA (p := 0) (e := 0) hM T1 (by rw [hS1, s1_eq]; rfl) (by rw [g1.1 6 (by decide)]; exact hf) (by omega)) (by rfl) (by rfl) (by rfl) (Nat.zero_le _) (Nat.zero_le _) ?_
  rintro o h' ⟨S2, rfl, rfl, f2, A2⟩
  refine rules t.length 0 YS0 S2 (by omega) rfl A2 ((g1.wk (by decide) (fun _ _ z => z.elim)).tr f2.g0 (by simp) (fun _ _ z => z)) ?_ rfl rfl _ (by simp [YS0]; rfl)
  refine ⟨by rw [f2.1 50 (by decide), hS1]; rfl, by rw [f2.1 68 (by decide), hS1]; rfl, by rw [f2.1 69 (by decide), hS1]; rfl, ⟨0, 0, by rw [f2.1 51 (by decide), hS1]; rfl, by rw [f2.1 52 (by decide), hS1]; rfl, by omega, by omega, fun i q hq => (by cases hq)⟩, fun i q hq => (by cases hq), fun i q hq => (by cases hq), (Nat.le_of_ble_eq_true rfl), (Nat.le_of_ble_eq_true rfl), (Nat.le_of_ble_eq_true rfl)⟩
end
