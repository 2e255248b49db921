/-! CONTRACTS, 25: conditions and steps of an element -/
theorem bI_dec {a b : Nat} (ha : a < 2 ^ 31) (hb : b < 2 ^ 31) : (nI a = nI b) ↔ (decide (a = b)) = true := by rw [decide_eq_true_iff]; exact nI_eq ha hb
def nmO (B : Nat → Prop) (h : xH) (fv : Value) (fo : Option (List Nat × List Nat)) : Prop := match fo with
  | none => fv = .null
  | some q => ∃ y : Nat, fv = .ref y ∧ isNm B h y q
set_option maxRecDepth 20000 in
theorem c_holdsForField {B B' : Nat → Prop} {l : Launch} {D : xD} {h : xH} {x : Nat} {ty : List Nat} {c : CN} {fv : Value} (I : isCn B' h ty x c) (fo : Option (List Nat × List Nat)) (hf : nmO B h fv fo) : xMet l D 1 y_Co_holdsForField [.ref x, fv] h 0 0 (fun o h' => h' = h ∧ o = .inl (some (.int (bI (fvH ty c fo))))) := by
  obtain ⟨nv, tv, h1, h2, h3, h4, h5⟩ := I
  unfold fvH
  cases fo with
  | none =>
    have hf : fv = .null := hf
    subst hf
    refine m_Co_holdsForField (Nat.le_of_ble_eq_true rfl) fun X hl hD hP hA => ?_
    subst hl hD
    refine xgo [] 60 hA ?_
    exact And.intro rfl (xP hP ⟨rfl, rfl⟩)
  | some q =>
    obtain ⟨y, rfl, s1, s2, y1, y2, y3⟩ := hf
    refine m_Co_holdsForField (Nat.le_of_ble_eq_true rfl) fun X hl hD hP hA => ?_
    subst hl hD
    cases hc : c.2.2.1 with
    | none =>
      rw [hc] at h3 hP
      have h3 : tv = .null := h3
      subst h3
      refine xgo [] 60 hA ?_
      refine xg h1 (by rfl) ?_
      exact And.intro rfl (xP hP ⟨rfl, rfl⟩)
    | some u =>
      rw [hc] at h3 hP
      obtain ⟨s, rfl, S⟩ := h3
      obtain ⟨f2, hs2⟩ := y3.cell
      refine xgo [] 60 hA ?_
      refine xg h1 (by rfl) ?_
      refine xg y1 (by rfl) ?_
      refine xg h1 (by rfl) ?_
      refine xcV hs2 (c_sameAs y3 S) (by rfl) (by rfl) (by rfl) (Nat.zero_le _) (Nat.zero_le _) ?_
      rintro o h' ⟨rfl, rfl⟩
      refine xb (fun c => ?_) (fun c => ?_)
      · exact And.intro rfl (xP hP ⟨rfl, by show Sum.inl (some (Value.int (0 : Int32))) = Sum.inl (some (Value.int (bI (decide (q.2 = sub ty u))))); rw [show decide (q.2 = sub ty u) = false from (bI_0 _).mp c]; rfl⟩)
      · exact And.intro rfl (xP hP ⟨rfl, by show Sum.inl (some (Value.int (1 : Int32))) = Sum.inl (some (Value.int (bI (decide (q.2 = sub ty u))))); rw [show decide (q.2 = sub ty u) = true from (bI_n0 _).mp c]; rfl⟩)
theorem find_nm {ts w : List Nat} (fd : List PR) : ((fd.map (nmB ts)).find? (fun q => decide (q.1 = w))) = (fd.find? (fun q => decide (sub ts q.1 = w))).map (nmB ts) := by
  rw [List.find?_map]; rfl
theorem find_at {ns : List (List Nat × List Nat)} {w : List Nat} {k : Nat} (hk : k < ns.length) (h1 : ns[k].1 = w) (h2 : ∀ j, ∀ hj : j < k, ns[j].1 ≠ w) : ns.find? (fun q => decide (q.1 = w)) = some ns[k] := by
  rw [List.find?_eq_some_iff_getElem]
  refine ⟨by simpa using h1, k, hk, rfl, fun j hj => ?_⟩
  simpa using h2 j hj
theorem find_no {ns : List (List Nat × List Nat)} {w : List Nat} (h : ns.all (fun q => !decide (q.1 = w)) = true) : ns.find? (fun q => decide (q.1 = w)) = none := by
  rw [List.find?_eq_none]
  intro q hq
  have := List.all_eq_true.mp h q hq
  simpa using this
/-- the numbers of an element are small -/
def elB (S : SS) (i : Nat) : Prop := S.F 4 i ≤ 500 ∧ S.F 8 i ≤ 500 ∧ S.F 10 i ≤ 1 ∧ S.F 11 i ≤ 1
theorem bI_nI {n : Nat} (h : n ≤ 1) : nI n = bI (n == 1) := by
  rcases (show n = 0 ∨ n = 1 by omega) with rfl | rfl <;> rfl
set_option maxRecDepth 20000 in
theorem c_holdsFor {B B' : Nat → Prop} {l : Launch} {D : xD} {h : xH} {x i : Nat} {ts ty : List Nat} {c : CN} {S : SS} {G : SG} (I : isCn B' h ty x c) (E : elI D B h ts S G i) (b : elB S i) : xMet l D 4 y_Co_holdsFor [.ref x, .ref (G.ad i)] h 0 0 (fun o h' => h' = h ∧ o = .inl (some (.int (bI (cH ts ty S c i))))) := by
  have I' := I
  obtain ⟨nv, tv, h1, h2, h3, h4, h5⟩ := I
  obtain ⟨g1, g2, g3, g4⟩ := E
  obtain ⟨b1, b2, b3, b4⟩ := b
  refine m_Co_holdsFor (Nat.le_of_ble_eq_true rfl) fun X hl hD hP hA => ?_
  subst hl hD
  have fin : ∀ (v : Int32) (q : Bool), cH ts ty S c i = q → v = bI q → narrow .boolean (.int v) = .int v ∧ X.P (.inl (some (.int v))) h := by
    intro v q e1 e2
    subst e2
    exact ⟨bI_nar q, xP hP ⟨rfl, by rw [e1]⟩⟩
  unfold cH at fin
  rcases (show c.1 = 0 ∨ c.1 = 1 ∨ c.1 = 2 ∨ c.1 = 3 ∨ c.1 = 4 ∨ c.1 = 5 by omega) with z | z | z | z | z | z
  · rw [z] at h1 h2 fin
    obtain ⟨s, rfl, Sn⟩ := h2
    refine xgo [135] 60 hA ?_
    refine xg h1 (by rfl) ?_
    refine xf (by decide) (xf (by decide) (xf (by decide) (xf (by decide) (xf (by decide) ?_))))
    refine xg h1 (by rfl) ?_
    refine xg g1 (by rfl) ?_
    refine xg h1 (by rfl) ?_
    refine xcS (c_findNamed g3 g4 Sn) (by rfl) (by rfl) (by rfl) (Nat.zero_le _) (Nat.zero_le _) ?_
    rintro o h' ⟨rfl, hr⟩
    have hfin : ∀ (fo : Option (List Nat × List Nat)) (fv : Value), ((S.fd i).map (nmB ts)).find? (fun q => decide (q.1 = sub ty c.2.1)) = fo → nmO B h' fv fo → xG X 135 [(0, .ref x), (1, .ref (G.ad i))] [fv, .ref x] h' 0 0 := by
      intro fo fv e1 e2
      refine xgo [] 60 hA ?_
      refine xcV h1 (c_holdsForField I' fo e2) (by rfl) (by rfl) (by rfl) (Nat.zero_le _) (Nat.zero_le _) ?_
      rintro o h2 ⟨rfl, rfl⟩
      have e3 : fvH ty c fo = fH ts ty S c i := by
        rw [find_nm] at e1
        unfold fH
        rw [e1]
      rw [e3]
      refine xb (fun y => ?_) (fun y => ?_)
      · exact fin 0 false ((bI_0 _).mp y) rfl
      · exact fin 1 true ((bI_n0 _).mp y) rfl
    rcases hr with ⟨r1, rfl⟩ | ⟨k, k1, k2, r1, r2, rfl⟩
    · exact hfin none .null (find_no r1) rfl
    · exact hfin (some ((S.fd i).map (nmB ts))[k]) (.ref (G.fas i)[k]) (find_at k2 r1 (fun j hj => r2 j hj)) ⟨_, rfl, g4.at k k1 k2⟩
  · rw [z] at h1 fin
    refine xgo [] 60 hA ?_
    refine xg h1 (by rfl) ?_
    refine xt (by decide) ?_
    refine xg g1 (by rfl) ?_
    refine xb (fun y => ?_) (fun y => ?_)
    · exact fin 0 false (decide_eq_false fun w => y (by rw [w]; rfl)) rfl
    · exact fin 1 true (decide_eq_true ((nI_eq (b := 1) (by omega) (by omega)).mp y)) rfl
  · rw [z] at h1 fin
    refine xgo [] 60 hA ?_
    refine xg h1 (by rfl) ?_
    refine xf (by decide) (xt (by decide) ?_)
    refine xg g1 (by rfl) ?_
    refine xb (fun y => ?_) (fun y => ?_)
    · exact fin 0 false (decide_eq_false fun w => y (by rw [w]; rfl)) rfl
    · exact fin 1 true (decide_eq_true ((nI_eq (b := 0) (by omega) (by omega)).mp y)) rfl
  · rw [z] at h1 fin
    refine xgo [] 60 hA ?_
    refine xg h1 (by rfl) ?_
    refine xf (by decide) (xf (by decide) (xt (by decide) ?_))
    have g1' := g1
    rw [show elV G S.F i = [.ref (G.ns i), .ref (pad G.ad G.ro (S.F 2 i)), rfn G.ad (S.F 3 i), .int (nI i), .int (nI (S.F 4 i)), .int (nI (S.F 5 i)), .int (nI (S.F 6 i)), .ref (G.fl i), rfn G.ad (S.F 9 i), .int (nI (S.F 8 i)), .int (nI (S.F 10 i)), .int (nI (S.F 11 i)), .int (nI (S.F 12 i)), .int (nI (S.F 15 i)), .int (nI (S.F 16 i))] from rfl, bI_nI b4] at g1'
    refine xcV g1' (c_isEmpty g1' (by omega)) (by rfl) (by rfl) (by rfl) (Nat.zero_le _) (Nat.zero_le _) ?_
    rintro o h' ⟨rfl, rfl⟩
    refine fin _ (S.F 8 i == 0 && S.F 11 i == 0) rfl ?_
    have : (!(S.F 11 i == 1)) = (S.F 11 i == 0) := by
      rcases (show S.F 11 i = 0 ∨ S.F 11 i = 1 by omega) with w | w <;> rw [w] <;> rfl
    rw [this]
  · rw [z] at h1 fin
    refine xgo [] 60 hA ?_
    refine xg h1 (by rfl) ?_
    refine xf (by decide) (xf (by decide) (xf (by decide) (xt (by decide) ?_)))
    refine xg g1 (by rfl) ?_
    refine xg h1 (by rfl) ?_
    refine xb (fun y => ?_) (fun y => ?_)
    · exact fin 0 false (decide_eq_false fun w => y (by rw [w])) rfl
    · exact fin 1 true (decide_eq_true ((nI_eq (by omega) (by omega)).mp y)) rfl
  · rw [z] at h1 h2 fin
    obtain ⟨s, rfl, Sn⟩ := h2
    obtain ⟨f2, hs2⟩ := g2.cell
    refine xgo [] 60 hA ?_
    refine xg h1 (by rfl) ?_
    refine xf (by decide) (xf (by decide) (xf (by decide) (xf (by decide) (xt (by decide) ?_))))
    refine xg h1 (by rfl) ?_
    refine xg g1 (by rfl) ?_
    refine xg h1 (by rfl) ?_
    refine xcV hs2 (c_sameAs g2 Sn) (by rfl) (by rfl) (by rfl) (Nat.zero_le _) (Nat.zero_le _) ?_
    rintro o h' ⟨rfl, rfl⟩
    refine xb (fun y => ?_) (fun y => ?_)
    · exact fin 0 false (by
        have := (bI_n0 _).mp y
        show (!decide (elN ts S i = sub ty c.2.1)) = false
        rw [show decide (elN ts S i = sub ty c.2.1) = true from this]; rfl) rfl
    · exact fin 1 true (by
        have := (bI_0 _).mp y
        show (!decide (elN ts S i = sub ty c.2.1)) = true
        rw [show decide (elN ts S i = sub ty c.2.1) = false from this]; rfl) rfl
set_option maxRecDepth 20000 in
theorem c_Sp_matches {B B' : Nat → Prop} {l : Launch} {D : xD} {h : xH} {x i : Nat} {ts ty : List Nat} {s : ST} {S : SS} {G : SG} (I : isSt D B' h ty x s) (E : elI D B h ts S G i) (b : elB S i) : xMet l D 5 y_Sp_matches [.ref x, .ref (G.ad i)] h 0 0 (fun o h' => h' = h ∧ o = .inl (some (.int (bI (stH ts ty S s i))))) := by
  obtain ⟨nv, cl, e, xs, h1, h2, h3, h4, h5⟩ := I
  have E' := E
  obtain ⟨g1, g2, g3, g4⟩ := E
  obtain ⟨cv, hcl⟩ := h3.cell
  have hl := h4.len
  refine m_Sp_matches (Nat.le_of_ble_eq_true rfl) fun X hl hD hP hA => ?_
  subst hl hD
  have fin : ∀ (v : Int32) (q : Bool), stH ts ty S s i = q → v = bI q → narrow .boolean (.int v) = .int v ∧ X.P (.inl (some (.int v))) h := by
    intro v q e1 e2
    subst e2
    exact ⟨bI_nar q, xP hP ⟨rfl, by rw [e1]⟩⟩
  have key : nmH ts ty S s.1 i = true → ∀ k : Nat, (k ≤ xs.length ∧ ∀ j, ∀ hj : j < s.2.2.length, j < k → cH ts ty S s.2.2[j] i = true) → xG X 25 [(2, .int (nI k)), (0, .ref x), (1, .ref (G.ad i))] [] h 0 0 := by
    intro hn
    refine xind _ _ (fun k => xs.length - k) (fun k hk ih => ?_)
    obtain ⟨hk, he⟩ := hk
    refine xgo [25] 60 hA ?_
    refine xg h1 (by rfl) ?_
    refine xcV hcl (c_AL_size h3) (by rfl) (by rfl) (by rfl) (Nat.zero_le _) (Nat.zero_le _) ?_
    rintro o h' ⟨rfl, rfl⟩
    refine xb (fun c => ?_) (fun c => ?_)
    · have e1 : k = xs.length := Nat.le_antisymm hk ((nI_leI (by omega) (by omega)).mp c)
      refine fin 1 true ?_ rfl
      unfold stH
      rw [hn, Bool.true_and, List.all_eq_true]
      intro q hq
      obtain ⟨j, hj, rfl⟩ := List.mem_iff_getElem.mp hq
      exact he j hj (by omega)
    · have c1 : k < xs.length := Nat.lt_of_not_le fun z => c (nI_le z (by omega))
      have y2 := h4.at k c1 (by omega)
      obtain ⟨_, _, hy, -⟩ := id y2
      refine xg h1 (by rfl) ?_
      refine xcV hcl (c_AL_get h3 c1) (by rfl) (by rfl) (by rfl) (Nat.zero_le _) (Nat.zero_le _) ?_
      rintro o h1 ⟨rfl, rfl⟩
      refine xct hy rfl ?_
      refine xcV hy (c_holdsFor y2 E' b) (by rfl) (by rfl) (by rfl) (Nat.zero_le _) (Nat.zero_le _) ?_
      rintro o h1 ⟨rfl, rfl⟩
      refine xb (fun c => ?_) (fun c => ?_)
      · have q := ih (k + 1) ⟨c1, fun j hj h2 => by
          rcases Nat.lt_succ_iff_lt_or_eq.mp h2 with z | z
          · exact he j hj z
          · subst z; exact (bI_n0 _).mp c⟩ (by omega)
        rw [← nI_1] at q
        exact q
      · refine fin 0 false ?_ rfl
        unfold stH
        rw [hn, Bool.true_and]
        have : ¬ s.2.2.all (fun c => cH ts ty S c i) = true := fun z => by
          have := List.all_eq_true.mp z _ (List.getElem_mem (l := s.2.2) (n := k) (by omega))
          rw [(bI_0 _).mp c] at this; cases this
        simpa using this
  cases hn : s.1 with
  | none =>
    rw [hn] at h2 key
    have h2 : nv = .null := h2
    subst h2
    refine xgo [25] 60 hA ?_
    refine xg h1 (by rfl) ?_
    exact key rfl 0 ⟨Nat.zero_le _, fun j hj h2 => absurd h2 (Nat.not_lt_zero _)⟩
  | some a =>
    rw [hn] at h2 key
    obtain ⟨s1, rfl, Sn⟩ := h2
    obtain ⟨f2, hs2⟩ := Sn.cell
    refine xgo [25] 60 hA ?_
    refine xg h1 (by rfl) ?_
    refine xg h1 (by rfl) ?_
    refine xg g1 (by rfl) ?_
    refine xcV hs2 (c_sameAs Sn g2) (by rfl) (by rfl) (by rfl) (Nat.zero_le _) (Nat.zero_le _) ?_
    rintro o h' ⟨rfl, rfl⟩
    refine xb (fun y => ?_) (fun y => ?_)
    · exact key ((bI_n0 _).mp y) 0 ⟨Nat.zero_le _, fun j hj h2 => absurd h2 (Nat.not_lt_zero _)⟩
    · refine fin 0 false ?_ rfl
      unfold stH
      rw [hn]
      show (decide (sub ty a = elN ts S i) && _) = false
      rw [show decide (sub ty a = elN ts S i) = false from (bI_0 _).mp y]; rfl
