/-! THE CLASS, 4: count, elements -/
section
variable {Zh : xH}
def aCount (A : AS) (w : Int32) : Option Int32 := if 10 ≤ w ∧ w < 130 then some (if (w - 10).toNatClampNeg < A.ss.length then nI (wgt (A.ss.getD (w - 10).toNatClampNeg [])) else -1) else if w = 0 then some (nI A.tp.length) else if w = 1 then some (nI A.ou.length) else if w = 2 then some (nI A.ss.length) else if w = 3 then some (nI (tcs A.rs)) else if w = 4 then some (nI A.S.n) else if w = 5 then some (nI A.fo.length) else if w = 6 then some (nI A.aw) else none
theorem elA_len (S : SS) (G : SG) : (elA S G).length = S.n := by simp
theorem elA_at (S : SS) (G : SG) {k : Nat} (h : k < (elA S G).length) : (elA S G)[k] = G.ad k := by simp
set_option maxRecDepth 20000 in
theorem c_count {l : Launch} {D : xD} {h : xH} {sc : Nat} {K : CK} {A : AS} {w : Int32} (R : scR Zh D h sc K A) : xMet l D 6 y_Sc_count [.ref sc, .int w] h 1 6 (fun o h' => oI 15 (aCount A w) o ∧ scR Zh D h' sc K A) := by
  have R' := R
  obtain ⟨rd, so, sy, G, Q⟩ := R
  obtain ⟨T, O, fv, rv, hv, v0, v1, r1, -, -, -, -, -, -, -, -, r15, r16, r17⟩ := id Q
  obtain ⟨lr, er, ls, es, ln, en, xr, xs, xn, y1, y2, y3, y4, y5, y6, y7⟩ := r16
  obtain ⟨s1, s2, s3, -⟩ := r15
  obtain ⟨lv, hlv⟩ := y3.cell
  obtain ⟨ev, hev⟩ := s3.cell
  have hls := y6.len
  have hle := elA_len A.S G
  have hsl : A.ss.length ≤ 120 := r17.2.2.2.2.2.2.2.2.1
  refine m_Sc_count (Nat.le_of_ble_eq_true rfl) fun X hl hD hP hA => ?_
  subst hl hD
  have fin : ∀ v : Int32, aCount A w = some v → X.P (.inl (some (.int v))) h := fun v e => xP hP ⟨by rw [e]; rfl, R'⟩
  have low : ¬ (10 ≤ w ∧ w < 130) → xG X 54 [(0, .ref sc), (1, .int w)] [] h 1 6 := by
    intro hn
    have fin' := fin
    unfold aCount at fin'
    rw [if_neg hn] at fin'
    refine xgo [] 60 hA ?_
    refine xb (fun c => ?_) (fun c => ?_)
    · rw [if_pos c] at fin'
      refine xg r1 (by rfl) ?_
      exact fin' _ rfl
    rw [if_neg c] at fin'
    refine xb (fun c => ?_) (fun c => ?_)
    · rw [if_pos c] at fin'
      refine xg r1 (by rfl) ?_
      exact fin' _ rfl
    rw [if_neg c] at fin'
    refine xb (fun c => ?_) (fun c => ?_)
    · rw [if_pos c] at fin'
      refine xg r1 (by rfl) ?_
      refine xg y1 (by rfl) ?_
      refine xcV hlv (c_AL_size y3) (by rfl) (by rfl) (by rfl) (Nat.zero_le _) (Nat.zero_le _) ?_
      rintro o h' ⟨rfl, rfl⟩
      rw [hls]
      exact fin' _ rfl
    rw [if_neg c] at fin'
    refine xb (fun c => ?_) (fun c => ?_)
    · rw [if_pos c] at fin'
      refine xg r1 (by rfl) ?_
      refine xg y1 (by rfl) ?_
      exact fin' _ rfl
    rw [if_neg c] at fin'
    refine xb (fun c => ?_) (fun c => ?_)
    · rw [if_pos c] at fin'
      refine xg r1 (by rfl) ?_
      refine xg s1 (by rfl) ?_
      refine xcV hev (c_AL_size s3) (by rfl) (by rfl) (by rfl) (Nat.zero_le _) (Nat.zero_le _) ?_
      rintro o h' ⟨rfl, rfl⟩
      rw [hle]
      exact fin' _ rfl
    rw [if_neg c] at fin'
    refine xb (fun c => ?_) (fun c => ?_)
    · rw [if_pos c] at fin'
      refine xg r1 (by rfl) ?_
      exact fin' _ rfl
    rw [if_neg c] at fin'
    refine xb (fun c => ?_) (fun c => ?_)
    · rw [if_pos c] at fin'
      refine xg r1 (by rfl) ?_
      exact fin' _ rfl
    rename_i c0 c1 c2 c3 c4 c5
    have ea : aCount A w = none := by
      unfold aCount
      rw [if_neg hn, if_neg c0, if_neg c1, if_neg c2, if_neg c3, if_neg c4, if_neg c5, if_neg c]
    rw [ea] at hP
    refine xth (K := fun _ _ _ _ _ _ => True) (ls := []) (st := []) rfl (Nat.le_refl _) (Nat.le_refl _) fun w hw => xP hP ⟨⟨w, rfl⟩, R'.new hw⟩
  refine xgo [54] 60 hA ?_
  refine xb (fun c => ?_) (fun c => ?_)
  · exact low fun z => Int32.lt_irrefl (Int32.lt_of_lt_of_le c z.1)
  have c1 : 10 ≤ w := Int32.not_lt.mp c
  refine xb (fun c => ?_) (fun c => ?_)
  · exact low fun z => Int32.lt_irrefl (Int32.lt_of_lt_of_le z.2 c)
  have c2 : w < 130 := Int32.not_le.mp c
  have hw0 : ¬ w < 0 := fun y => absurd (Int32.lt_of_le_of_lt c1 y) (by decide)
  obtain ⟨j, hj, rfl⟩ := nI_of hw0
  have j1 : 10 ≤ j := (nI_leI (a := 10) (by omega) hj).mp c1
  have j2 : j < 130 := (nI_ltI (b := 130) hj (by omega)).mp c2
  have es : nI j - 10 = nI (j - 10) := nI_sub (b := 10) j1
  have ea : aCount A (nI j) = some (if j - 10 < A.ss.length then nI (wgt (A.ss.getD (j - 10) [])) else -1) := by
    unfold aCount
    rw [if_pos ⟨c1, c2⟩, es, nI_clamp (by omega)]
  refine xg r1 (by rfl) ?_
  refine xg y1 (by rfl) ?_
  refine xcV hlv (c_AL_size y3) (by rfl) (by rfl) (by rfl) (Nat.zero_le _) (Nat.zero_le _) ?_
  rintro o h' ⟨rfl, rfl⟩
  rw [es]
  by_cases hlt : j - 10 < A.ss.length
  · refine xf (fun y => by have := (nI_leI (by omega) (by omega)).mp y; omega) ?_
    refine xg r1 (by rfl) ?_
    refine xg y1 (by rfl) ?_
    have c3 : j - 10 < xs.length := by omega
    refine xcV hlv (c_AL_get y3 c3) (by rfl) (by rfl) (by rfl) (Nat.zero_le _) (Nat.zero_le _) ?_
    rintro o h' ⟨rfl, rfl⟩
    obtain ⟨_, _, _, q1, -⟩ := y6.at (j - 10) c3 hlt
    refine xct q1 rfl ?_
    refine xg q1 (by rfl) ?_
    exact fin _ (by rw [ea, if_pos hlt]; simp [hlt])
  · refine xt (nI_le (by omega) (by omega)) ?_
    exact fin _ (by rw [ea, if_neg hlt])
set_option maxRecDepth 20000 in
theorem c_elementAt {l : Launch} {D : xD} {h : xH} {sc rd so sy : Nat} {K : CK} {A : AS} {G : SG} {e : Int32} (Q : scQ Zh D h sc K A rd so sy G) : xMet l D 6 y_Sc_elementAt [.ref sc, .int e] h 1 6 (fun o h' => ((∀ k, k < A.S.n → e ≠ nI k) ∧ (∃ x, o = .inr (15, x)) ∧ scQ Zh D h' sc K A rd so sy G) ∨ ∃ k, k < A.S.n ∧ e = nI k ∧ o = .inl (some (.ref (G.ad k))) ∧ h' = h) := by
  obtain ⟨T, O, fv, rv, hv, v0, v1, r1, -, -, -, -, -, -, -, -, r15, r16, r17⟩ := id Q
  obtain ⟨s1, s2, s3, -, -, -, -, s8⟩ := r15
  obtain ⟨ev, hev⟩ := s3.cell
  have hle := elA_len A.S G
  have hn : A.S.n ≤ 500 := r17.2.2.2.2.1.1.1
  refine m_Sc_elementAt (Nat.le_of_ble_eq_true rfl) fun X hl hD hP hA => ?_
  subst hl hD
  rcases pk_ix e (n := A.S.n) (by omega) with z | z | ⟨j, hj, rfl⟩
  · refine xgo [] 60 hA ?_
    refine xt z ?_
    refine xth (K := fun _ _ _ _ _ _ => True) (ls := []) (st := []) rfl (Nat.le_refl _) (Nat.le_refl _) fun w hw => xP hP (Or.inl ⟨fun k hk y => by rw [y] at z; exact nI_neg (by omega) z, ⟨w, rfl⟩, Q.new hw⟩)
  · have z0 : ¬ e < 0 := fun y => absurd (Int32.lt_of_le_of_lt z y) (nI_neg (by omega))
    have z2 : ¬ e < nI A.S.n := fun y => Int32.lt_irrefl (Int32.lt_of_lt_of_le y z)
    refine xgo [] 60 hA ?_
    refine xf z0 ?_
    refine xg r1 (by rfl) ?_
    refine xg s1 (by rfl) ?_
    refine xcV hev (c_AL_size s3) (by rfl) (by rfl) (by rfl) (Nat.zero_le _) (Nat.zero_le _) ?_
    rintro o h' ⟨rfl, rfl⟩
    rw [hle]
    refine xf z2 ?_
    refine xth (K := fun _ _ _ _ _ _ => True) (ls := []) (st := []) rfl (Nat.le_refl _) (Nat.le_refl _) fun w hw => xP hP (Or.inl ⟨fun k hk y => by
      rw [y] at z2; exact z2 (nI_lt hk (by omega)), ⟨w, rfl⟩, Q.new hw⟩)
  · refine xgo [] 60 hA ?_
    refine xf (nI_neg (by omega)) ?_
    refine xg r1 (by rfl) ?_
    refine xg s1 (by rfl) ?_
    refine xcV hev (c_AL_size s3) (by rfl) (by rfl) (by rfl) (Nat.zero_le _) (Nat.zero_le _) ?_
    rintro o h' ⟨rfl, rfl⟩
    rw [hle]
    refine xt (nI_lt hj (by omega)) ?_
    refine xg r1 (by rfl) ?_
    refine xg s1 (by rfl) ?_
    refine xcV hev (c_AL_get s3 (k := j) (by omega)) (by rfl) (by rfl) (by rfl) (Nat.zero_le _) (Nat.zero_le _) ?_
    rintro o h' ⟨rfl, rfl⟩
    rw [elA_at]
    obtain ⟨g1, -⟩ := s8 j hj
    refine xct g1 rfl ?_
    exact xP hP (Or.inr ⟨j, hj, rfl, rfl, rfl⟩)
/-- what is asked of an element: parent and before one too great -/
def mI (x : Nat) : Int32 := if x = 0 then -1 else nI (x - 1)
def aEl (S : SS) (k : Nat) (w : Int32) : Option Int32 := if w = 0 then some (nI (S.F 4 k)) else if w = 1 then some (mI (S.F 2 k)) else if w = 2 then some (mI (S.F 3 k)) else if w = 3 then some (nI (S.F 8 k)) else if w = 4 then some (nI (S.F 5 k)) else if w = 5 then some (nI (S.fd k).length) else if w = 6 then some (bI (S.F 8 k == 0 && S.F 11 k == 0)) else if w = 7 then some (nI (S.F 6 k)) else if w = 8 then some (nI (S.F 12 k)) else none
/-- the element that a number names -/
def elK (S : SS) (e : Int32) : Option Nat := (List.range S.n).find? (fun k => decide (e = nI k))
theorem elK_some {S : SS} {k : Nat} (hn : S.n ≤ 500) (h : k < S.n) : elK S (nI k) = some k := by
  unfold elK
  rw [List.find?_eq_some_iff_getElem]
  refine ⟨by simp, k, by simpa using h, by simp, fun j hj => ?_⟩
  simp only [List.getElem_range, Bool.not_eq_true', decide_eq_false_iff_not]
  intro z
  have := (nI_eq (by omega) (by omega)).mp z
  omega
theorem elK_none {S : SS} {e : Int32} (h : ∀ k, k < S.n → e ≠ nI k) : elK S e = none := by
  unfold elK
  rw [List.find?_eq_none]
  intro k hk
  simpa using h k (List.mem_range.mp hk)
def aElement (A : AS) (e w : Int32) : Option Int32 := (elK A.S e).bind (fun k => aEl A.S k w)
set_option maxRecDepth 20000 in
theorem c_element {l : Launch} {D : xD} {h : xH} {sc : Nat} {K : CK} {A : AS} {e w : Int32} (R : scR Zh D h sc K A) : xMet l D 7 y_Sc_element [.ref sc, .int e, .int w] h 2 12 (fun o h' => oI 15 (aElement A e w) o ∧ scR Zh D h' sc K A) := by
  have R' := R
  obtain ⟨rd, so, sy, G, Q⟩ := R
  obtain ⟨T, O, fv, rv, hv, v0, v1, r1, -, -, -, -, -, -, -, -, r15, r16, r17⟩ := id Q
  obtain ⟨s1, s2, s3, -, -, -, -, s8⟩ := r15
  obtain ⟨-, -, -, -, ⟨W, wop, -⟩, -⟩ := r17
  have hn : A.S.n ≤ 500 := W.1
  refine m_Sc_element (Nat.le_of_ble_eq_true rfl) fun X hl hD hP hA => ?_
  subst hl hD
  refine xgo [5] 60 hA ?_
  refine xcV r1 (c_elementAt Q) (by rfl) (by rfl) (by rfl) (by omega) (by omega) ?_
  rintro o h' (⟨q1, ⟨x, rfl⟩, q3⟩ | ⟨k, hk, rfl, rfl, rfl⟩)
  · have ea : aElement A e w = none := by unfold aElement; rw [elK_none q1]; rfl
    rw [ea] at hP
    exact xP hP ⟨⟨x, rfl⟩, rd, so, sy, G, q3⟩
  have ea : aElement A (nI k) w = aEl A.S k w := by unfold aElement; rw [elK_some hn hk]; rfl
  rw [ea] at hP
  have g := s8 k hk
  obtain ⟨g1, g2, g3, g4⟩ := id g
  obtain ⟨⟨w1, w2, w3⟩, -, -, -, w8, w9, w10, w11⟩ := W.2 k hk
  have fin : ∀ v : Int32, aEl A.S k w = some v → X.P (.inl (some (.int v))) h' := fun v e => xP hP ⟨by rw [e]; rfl, R'⟩
  unfold aEl at fin
  refine xgo [] 60 hA ?_
  refine xb (fun c => ?_) (fun c => ?_)
  · rw [if_pos c] at fin
    refine xg g1 (by rfl) ?_
    exact fin _ rfl
  rw [if_neg c] at fin
  refine xb (fun c => ?_) (fun c => ?_)
  · rw [if_pos c] at fin
    refine xg g1 (by rfl) ?_
    refine xg g1 (by rfl) ?_
    by_cases hz : A.S.F 2 k = 0
    · refine xg (ci := 4) (fs := roV G A.S.tm A.S.tl) (v := .int (-1)) (by show h' (pad G.ad G.ro (A.S.F 2 k)) = _; rw [hz]; exact s2) (by rfl) ?_
      exact fin _ (by rw [mI, if_pos hz])
    · obtain ⟨p1, -⟩ := s8 (A.S.F 2 k - 1) (by omega)
      refine xg (ci := 4) (fs := elV G A.S.F (A.S.F 2 k - 1)) (v := .int (nI (A.S.F 2 k - 1))) (by show h' (pad G.ad G.ro (A.S.F 2 k)) = _; rw [pad_ne hz]; exact p1) (by rfl) ?_
      exact fin _ (by rw [mI, if_neg hz])
  rw [if_neg c] at fin
  refine xb (fun c => ?_) (fun c => ?_)
  · rw [if_pos c] at fin
    by_cases hz : A.S.F 3 k = 0
    · refine xg (v := .null) g1 (by show some (rfn G.ad (A.S.F 3 k)) = _; rw [hz]; rfl) ?_
      exact fin _ (by rw [mI, if_pos hz])
    · obtain ⟨p1, -⟩ := s8 (A.S.F 3 k - 1) (by omega)
      have er : rfn G.ad (A.S.F 3 k) = .ref (G.ad (A.S.F 3 k - 1)) := by rw [rfn_vO]; unfold befO; rw [if_neg hz]; rfl
      refine xg (v := .ref (G.ad (A.S.F 3 k - 1))) g1 (by show some (rfn G.ad (A.S.F 3 k)) = _; rw [er]) ?_
      refine xg (v := .ref (G.ad (A.S.F 3 k - 1))) g1 (by show some (rfn G.ad (A.S.F 3 k)) = _; rw [er]) ?_
      refine xg p1 (by rfl) ?_
      exact fin _ (by rw [mI, if_neg hz])
  rw [if_neg c] at fin
  refine xb (fun c => ?_) (fun c => ?_)
  · rw [if_pos c] at fin
    refine xg g1 (by rfl) ?_
    exact fin _ rfl
  rw [if_neg c] at fin
  refine xb (fun c => ?_) (fun c => ?_)
  · rw [if_pos c] at fin
    refine xg g1 (by rfl) ?_
    exact fin _ rfl
  rw [if_neg c] at fin
  refine xb (fun c => ?_) (fun c => ?_)
  · rw [if_pos c] at fin
    refine xg g1 (by rfl) ?_
    obtain ⟨fvv, hfl⟩ := g3.cell
    refine xcV hfl (c_AL_size g3) (by rfl) (by rfl) (by rfl) (Nat.zero_le _) (Nat.zero_le _) ?_
    rintro o h2 ⟨rfl, rfl⟩
    have := g4.len
    rw [List.length_map] at this
    rw [this]
    exact fin _ rfl
  rw [if_neg c] at fin
  refine xb (fun c => ?_) (fun c => ?_)
  · rw [if_pos c] at fin
    have g1' := g1
    rw [show elV G A.S.F k = [.ref (G.ns k), .ref (pad G.ad G.ro (A.S.F 2 k)), rfn G.ad (A.S.F 3 k), .int (nI k), .int (nI (A.S.F 4 k)), .int (nI (A.S.F 5 k)), .int (nI (A.S.F 6 k)), .ref (G.fl k), rfn G.ad (A.S.F 9 k), .int (nI (A.S.F 8 k)), .int (nI (A.S.F 10 k)), .int (nI (A.S.F 11 k)), .int (nI (A.S.F 12 k)), .int (nI (A.S.F 15 k)), .int (nI (A.S.F 16 k))] from rfl, bI_nI w11] at g1'
    refine xcV g1' (c_isEmpty g1' (by omega)) (by rfl) (by rfl) (by rfl) (Nat.zero_le _) (Nat.zero_le _) ?_
    rintro o h2 ⟨rfl, rfl⟩
    have eb : (!(A.S.F 11 k == 1)) = (A.S.F 11 k == 0) := by
      rcases (show A.S.F 11 k = 0 ∨ A.S.F 11 k = 1 by omega) with w | w <;> rw [w] <;> rfl
    rw [eb]
    refine xb (fun c => ?_) (fun c => ?_)
    · exact fin _ (by rw [(bI_0 _).mp c]; rfl)
    · exact fin _ (by rw [(bI_n0 _).mp c]; rfl)
  rw [if_neg c] at fin
  refine xb (fun c => ?_) (fun c => ?_)
  · rw [if_pos c] at fin
    refine xg g1 (by rfl) ?_
    exact fin _ rfl
  rw [if_neg c] at fin
  refine xb (fun c => ?_) (fun c => ?_)
  · rw [if_pos c] at fin
    refine xg g1 (by rfl) ?_
    exact fin _ rfl
  rename_i c0 c1 c2 c3 c4 c5 c6 c7
  have ea : aEl A.S k w = none := by
    unfold aEl
    rw [if_neg c0, if_neg c1, if_neg c2, if_neg c3, if_neg c4, if_neg c5, if_neg c6, if_neg c7, if_neg c]
  rw [ea] at hP
  refine xth (K := fun _ _ _ _ _ _ => True) (ls := []) (st := []) rfl (by omega) (by omega) fun w hw => xP hP ⟨⟨w, rfl⟩, R'.new hw⟩
end
