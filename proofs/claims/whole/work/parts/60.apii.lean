/-! THE CLASS, 9: tell -/
section
variable {Zh : xH}
/-- which of the first n numbers it is -/
def ixK (n : Nat) (p : Int32) : Option Nat := (List.range n).find? (fun k => decide (p = nI k))
theorem ixK_some {n k : Nat} (hn : n < 2 ^ 31) (h : k < n) : ixK n (nI k) = some k := by
  unfold ixK
  rw [List.find?_eq_some_iff_getElem]
  refine ⟨by simp, k, by simpa using h, by simp, fun j hj => ?_⟩
  simp only [List.getElem_range, Bool.not_eq_true', decide_eq_false_iff_not]
  intro z
  have := (nI_eq (by omega) (by omega)).mp z
  omega
theorem ixK_none {n : Nat} {p : Int32} (h : ∀ k, k < n → p ≠ nI k) : ixK n p = none := by
  unfold ixK
  rw [List.find?_eq_none]
  intro k hk
  simpa using h k (List.mem_range.mp hk)
/-- the text in an element -/
def txL (ts : List Nat) (S : SS) (k : Nat) : List Nat := (((S.pc.map (pby ts)).drop (S.F 15 k)).take (S.F 16 k - S.F 15 k)).flatten
def aTold (ts : List Nat) (S : SS) (k j : Nat) : List Nat := if j = 1 then txL ts S k else if j = 0 then elN ts S k else if j % 2 = 0 then sub ts ((S.fd k).getD (j / 2 - 1) ((0, 0), (0, 0))).1 else sub ts ((S.fd k).getD (j / 2 - 1) ((0, 0), (0, 0))).2
/-- what is told: 1 for no such part, 2 for too long -/
def aTell (A : AS) (e p : Int32) : (Nat × Int32) × AS := match elK A.S e with
  | none => ((1, 0), A)
  | some k => match ixK (2 + 2 * (A.S.fd k).length) p with
    | none => ((1, 0), A)
    | some j => if 16384 < (aTold A.ts A.S k j).length then ((2, 0), A) else ((0, nI (aTold A.ts A.S k j).length), A.wOu (aTold A.ts A.S k j))
def oT (q : Nat × Int32) (o : xO) : Prop := if q.1 = 0 then o = .inl (some (.int q.2)) else if q.1 = 1 then ∃ e, o = .inr (15, e) else ∃ e, o = .inr (14, e)
theorem flat_take {l : List (List Nat)} {j : Nat} (h : j < l.length) : (l.take (j + 1)).flatten = (l.take j).flatten ++ l[j] := by
  rw [List.take_succ_eq_append_getElem h, List.flatten_append]; simp
theorem flat_le {l : List (List Nat)} {c : Nat} (h : ∀ w ∈ l, w.length ≤ c) : l.flatten.length ≤ c * l.length := by
  induction l with
  | nil => simp
  | cons w l ih =>
    have h1 := h w List.mem_cons_self
    have h2 := ih fun v hv => h v (List.mem_cons_of_mem _ hv)
    rw [List.flatten_cons, List.length_append, List.length_cons, Nat.mul_add, Nat.mul_one]
    omega
theorem pby_le {ts : List Nat} (h : ts.length ≤ 8192) (p : Nat × Nat) : (pby ts p).length ≤ 8192 := by
  unfold pby
  split
  · show 1 ≤ 8192; decide
  · split
    · show 1 ≤ 8192; decide
    · have := sub_le ts p; omega
theorem putB_app (p O w : List Nat) : putB (p ++ O) w p.length = (p ++ w) ++ O.drop w.length := by
  unfold putB
  rw [List.take_left, List.drop_append, List.drop_of_length_le (l := p) (by omega), List.nil_append, Nat.add_sub_cancel_left]
set_option maxRecDepth 20000 in
theorem c_putTexts {l : Launch} {D : xD} {h : xH} {sc rd so sy k : Nat} {K : CK} {A : AS} {G : SG} (Q : scQ Zh D h sc K A rd so sy G) (hk : k < A.S.n) : xMet l D 6 y_Sc_putTexts [.ref sc, .ref (G.ad k)] h 1 6 (fun o h' => (16384 < (txL A.ts A.S k).length ∧ (∃ x, o = .inr (14, x)) ∧ scQ Zh D h' sc K A rd so sy G) ∨ ((txL A.ts A.S k).length ≤ 16384 ∧ o = .inl (some (.int (nI (txL A.ts A.S k).length))) ∧ scQ Zh D h' sc K (A.wOu (txL A.ts A.S k)) rd so sy G)) := by
  obtain ⟨T, O, fv, rv, hv', v0, v1, r1, -, -, -, -, -, -, -, -, r15, r16, r17⟩ := id Q
  obtain ⟨W, wop, wts, wpc, wk⟩ := r17.2.2.2.2.1
  obtain ⟨k1, k2, -⟩ := wk k hk
  obtain ⟨ws, hws⟩ : ∃ ws, ws = A.S.pc.map (pby A.ts) := ⟨_, rfl⟩
  have hwl : ws.length = A.S.pc.length := by rw [hws, List.length_map]
  have hwc : ∀ w ∈ ws, w.length ≤ 8192 := fun w hw => by
    rw [hws] at hw
    obtain ⟨p, -, rfl⟩ := List.mem_map.mp hw
    exact pby_le wts p
  obtain ⟨a, ha⟩ : ∃ a, a = A.S.F 15 k := ⟨_, rfl⟩
  obtain ⟨b, hb⟩ : ∃ b, b = A.S.F 16 k := ⟨_, rfl⟩
  rw [← ha] at k1
  rw [← hb] at k1 k2
  have etx : txL A.ts A.S k = ((ws.drop a).take (b - a)).flatten := by unfold txL; rw [hws, ha, hb]
  have hfl : ∀ j, j ≤ b - a → ((ws.drop a).take j).flatten.length ≤ 8192 * 8192 := fun j hj => by
    have h1 := flat_le (l := (ws.drop a).take j) (c := 8192) fun w hw => hwc w (List.mem_of_mem_drop (List.mem_of_mem_take hw))
    rw [List.length_take] at h1
    refine Nat.le_trans h1 (Nat.mul_le_mul_left _ ?_)
    omega
  rw [etx]
  have hel : ∀ {h1 : xH} {A1 : AS}, A1.2 = A.2 → scQ Zh D h1 sc K A1 rd so sy G → h1 (G.ad k) = some (4, elV G A.S.F k) ∧ isL D h1 G.lt G.e2 G.ts ∧ all2 (isS (bK K) h1) G.ts ws ∧ h1 so = some (5, [.ref G.le, .ref G.lt, .ref G.ln, .ref G.ro, .ref (pad G.ad G.ro A.S.op)]) := fun {h1 A1} e Q1 => by
    obtain ⟨-, -, -, -, -, -, -, -, -, -, -, -, -, -, -, -, s, -, -⟩ := id Q1
    have e1 : A1.ts = A.ts := by show A1.2.1.1 = _; rw [e]
    have e2 : A1.S = A.S := by show A1.2.1.2 = _; rw [e]
    rw [e1, e2] at s
    exact ⟨(s.2.2.2.2.2.2.2 k hk).1, s.2.2.2.1, by rw [hws]; exact s.2.2.2.2.2.1, s.1⟩
  have hlen : G.ts.length = ws.length := (hel rfl Q).2.2.1.len
  refine m_Sc_putTexts (Nat.le_of_ble_eq_true rfl) fun X hl hD hP hA => ?_
  subst hl hD
  -- the second loop
  have lp2 : ∀ (n j : Nat) (h1 : xH) (rc rs : Nat) (ls : xL), j + n = b - a → (((ws.drop a).take (b - a)).flatten).length ≤ 16384 → scQ Zh X.D h1 sc K (A.wOu ((ws.drop a).take j).flatten) rd so sy G → (∀ p ∈ [(5, Value.int (nI (a + j))), (3, .int (nI b)), (2, .ref G.lt), (0, .ref sc)], p ∈ ls) → xG X 88 ls [] h1 rc rs := by
    intro n
    induction n with
    | zero =>
      intro j h1 rc rs ls hj hle Q1 hls
      refine xG.locs ?_ hls
      obtain ⟨_, _, _, _, _, _, _, p1, -⟩ := id Q1
      have hj : j = b - a := by omega
      subst hj
      refine xgo [] 60 hA ?_
      refine xt (nI_le (by omega) (by omega)) ?_
      refine xg p1 (by rfl) ?_
      exact xP hP (Or.inr ⟨hle, rfl, Q1⟩)
    | succ n ih =>
      intro j h1 rc rs ls hj hle Q1 hls
      refine xG.locs ?_ hls
      obtain ⟨T1, O1, _, _, _, _, _, p1, -, ⟨p4, p5, p5'⟩, -, -, -, -, -, -, -, -, p17⟩ := id Q1
      obtain ⟨g1, g2, g3, g4⟩ := hel (A1 := A.wOu ((ws.drop a).take j).flatten) rfl Q1
      obtain ⟨lv, hlv⟩ := g2.cell
      have c1 : a + j < G.ts.length := by omega
      have Sj := g3.at (a + j) c1 (by omega)
      obtain ⟨f2, hs2⟩ := Sj.cell
      have hst : ((ws.drop a).take (j + 1)).flatten = ((ws.drop a).take j).flatten ++ ws[a + j]'(by omega) := by
        rw [flat_take (by rw [List.length_drop]; omega), List.getElem_drop]
      have hmono : ((ws.drop a).take (j + 1)).flatten.length ≤ ((ws.drop a).take (b - a)).flatten.length := by
        have e : (ws.drop a).take (b - a) = (ws.drop a).take (j + 1) ++ ((ws.drop a).take (b - a)).drop (j + 1) := by
          have := List.take_append_drop (j + 1) ((ws.drop a).take (b - a))
          rw [List.take_take, Nat.min_eq_left (by omega)] at this
          exact this.symm
        rw [e, List.flatten_append, List.length_append]; omega
      rw [hst, List.length_append] at hmono
      have p5 : (((ws.drop a).take j).flatten ++ O1).length = 16384 := p5
      have p4 : h1 K.2.1 = some (101, txv (((ws.drop a).take j).flatten ++ O1)) := p4
      have hOl : O1.length = 16384 - ((ws.drop a).take j).flatten.length := by rw [List.length_append] at p5; omega
      have n2 : K.2.1 ≠ sc := xne' p4 p1 (by decide)
      refine xgo [88] 80 hA ?_
      refine xf (fun y => by have := (nI_leI (by omega) (by omega)).mp y; omega) ?_
      refine xcV hlv (c_AL_get g2 c1) (by rfl) (by rfl) (by rfl) (Nat.zero_le _) (Nat.zero_le _) ?_
      rintro o h2 ⟨rfl, rfl⟩
      refine xct hs2 rfl ?_
      refine xg p1 (by rfl) ?_
      refine xg p1 (by rfl) ?_
      refine xcV hs2 (c_copyTo Sj p4 (p := ((ws.drop a).take j).flatten.length) (by omega) (by omega)) (by rfl) (by rfl) (by rfl) (Nat.zero_le _) (Nat.zero_le _) ?_
      rintro o h3 ⟨rfl, rfl⟩
      have epb : putB (((ws.drop a).take j).flatten ++ O1) (ws[a + j]'(by omega)) ((ws.drop a).take j).flatten.length = (((ws.drop a).take (j + 1)).flatten) ++ O1.drop (ws[a + j]'(by omega)).length := by
        rw [putB_app, hst]
      rw [epb]
      refine xp (fs' := scW K (nI A.tp.length) (nI (((ws.drop a).take j).flatten.length + (ws[a + j]'(by omega)).length)) (nI A.fo.length) (nI A.aw) rd so sy) (xst2 (Ne.symm n2) p1) rfl rfl ?_
      have Q2 := Q1.ou (w := ((ws.drop a).take (j + 1)).flatten) (O' := O1.drop (ws[a + j]'(by omega)).length) (by rw [hst]; simp only [List.length_append, List.length_drop]; omega) (by rw [hst]; exact p17.2.1.2.app Sj.bytes) (p5'.drop _)
      have e3 : scV K ((A.wOu ((ws.drop a).take j).flatten).wOu ((ws.drop a).take (j + 1)).flatten) rd so sy = scW K (nI A.tp.length) (nI (((ws.drop a).take j).flatten.length + (ws[a + j]'(by omega)).length)) (nI A.fo.length) (nI A.aw) rd so sy := by
        show scW K (nI A.tp.length) (nI ((ws.drop a).take (j + 1)).flatten.length) (nI A.fo.length) (nI A.aw) rd so sy = _
        rw [hst, List.length_append]
      rw [e3] at Q2
      have := ih (j + 1) _ rc rs [(5, .int (nI (a + j) + 1)), (3, .int (nI b)), (2, .ref G.lt), (0, .ref sc)] (by omega) hle Q2 (by rw [nI_1]; simp [Nat.add_assoc])
      exact this.locs (by simp)
  -- the first
  have lp1 : ∀ (n j : Nat) (rc rs : Nat) (ls : xL), 1 ≤ rc → 6 ≤ rs → j + n = b - a → (∀ p ∈ [(5, Value.int (nI (a + j))), (4, .int (nI ((ws.drop a).take j).flatten.length)), (3, .int (nI b)), (2, .ref G.lt), (0, .ref sc), (1, .ref (G.ad k))], p ∈ ls) → xG X 29 ls [] h rc rs := by
    intro n
    obtain ⟨g1, g2, g3, g4⟩ := hel rfl Q
    obtain ⟨lv, hlv⟩ := g2.cell
    induction n with
    | zero =>
      intro j rc rs ls hrc hrs hj hls
      refine xG.locs ?_ hls
      have hj : j = b - a := by omega
      subst hj
      have hf := hfl (b - a) (Nat.le_refl _)
      refine xgo [88] 60 hA ?_
      refine xt (nI_le (by omega) (by omega)) ?_
      refine xb (fun c => ?_) (fun c => ?_)
      · have c1 := (nI_leI (b := 16384) (by omega) (by omega)).mp c
        refine xp (fs' := scV K (A.wOu []) rd so sy) r1 rfl rfl ?_
        have Q0 := Q.ou0
        obtain ⟨q1, -⟩ := hel (A1 := A.wOu []) rfl Q0
        refine xg q1 (by rfl) ?_
        have := lp2 (b - a) 0 _ rc rs [(5, .int (nI a)), (3, .int (nI b)), (2, .ref G.lt), (0, .ref sc)] (by omega) c1 Q0 (by simp)
        rw [ha] at this
        exact this.locs (by simp)
      · have c1 : ¬ ((ws.drop a).take (b - a)).flatten.length ≤ 16384 := fun z => c ((nI_leI (b := 16384) (by omega) (by omega)).mpr z)
        refine xth (K := fun _ _ _ _ _ _ => True) (ls := []) (st := []) rfl hrc hrs fun w hw => xP hP (Or.inl ⟨by omega, ⟨w, rfl⟩, Q.new hw⟩)
    | succ n ih =>
      intro j rc rs ls hrc hrs hj hls
      refine xG.locs ?_ hls
      have c1 : a + j < G.ts.length := by omega
      have Sj := g3.at (a + j) c1 (by omega)
      obtain ⟨aa, ff, TT, hs2, -⟩ := id Sj
      have hst : ((ws.drop a).take (j + 1)).flatten = ((ws.drop a).take j).flatten ++ ws[a + j]'(by omega) := by
        rw [flat_take (by rw [List.length_drop]; omega), List.getElem_drop]
      refine xgo [29] 80 hA ?_
      refine xf (fun y => by have := (nI_leI (by omega) (by omega)).mp y; omega) ?_
      refine xcV hlv (c_AL_get g2 c1) (by rfl) (by rfl) (by rfl) (Nat.zero_le _) (Nat.zero_le _) ?_
      rintro o h2 ⟨rfl, rfl⟩
      refine xct hs2 rfl ?_
      refine xg hs2 (by rfl) ?_
      have := ih (j + 1) rc rs [(5, .int (nI (a + j) + 1)), (4, .int (nI ((ws.drop a).take j).flatten.length + nI (ws[a + j]'(by omega)).length)), (3, .int (nI b)), (2, .ref G.lt), (0, .ref sc), (1, .ref (G.ad k))] hrc hrs (by omega) (by rw [nI_1, hst, List.length_append, nI_add]; simp [Nat.add_assoc])
      exact this.locs (by simp)
  obtain ⟨g1, g2, g3, g4⟩ := hel rfl Q
  obtain ⟨lv, hlv⟩ := g2.cell
  refine xgo [19] 60 hA ?_
  refine xg r1 (by rfl) ?_
  refine xg g4 (by rfl) ?_
  refine xg g1 (by rfl) ?_
  refine xcV hlv (c_AL_size g2) (by rfl) (by rfl) (by rfl) (Nat.zero_le _) (Nat.zero_le _) ?_
  rintro o h2 ⟨rfl, rfl⟩
  show xG X 19 [(2, .ref G.lt), (0, .ref sc), (1, .ref (G.ad k))] [.int (if nI G.ts.length < nI (A.S.F 16 k) then nI G.ts.length else nI (A.S.F 16 k))] h2 1 6
  rw [← hb, if_neg (fun z => by have := (nI_ltI (by omega) (by omega)).mp z; omega)]
  refine xgo [29] 60 hA ?_
  refine xg g1 (by rfl) ?_
  have := lp1 (b - a) 0 1 6 [(5, .int (nI a)), (4, .int 0), (3, .int (nI b)), (2, .ref G.lt), (0, .ref sc), (1, .ref (G.ad k))] (by omega) (by omega) (by omega) (by simp [nI_0])
  rw [ha] at this
  exact this
set_option maxRecDepth 20000 in
theorem c_tell {l : Launch} {D : xD} {h : xH} {sc : Nat} {K : CK} {A : AS} {e p : Int32} (R : scR Zh D h sc K A) : xMet l D 7 y_Sc_tell [.ref sc, .int e, .int p] h 2 12 (fun o h' => oT (aTell A e p).1 o ∧ scR Zh D h' sc K (aTell A e p).2) := by
  have R' := R
  obtain ⟨rd, so, sy, G, Q⟩ := R
  obtain ⟨T, O, fv, rv, hv', v0, v1, r1, -, -, -, -, -, -, -, -, r15, r16, r17⟩ := id Q
  obtain ⟨W, wop, wts, wpc, wk⟩ := r17.2.2.2.2.1
  have hn : A.S.n ≤ 500 := W.1
  refine m_Sc_tell (Nat.le_of_ble_eq_true rfl) fun X hl hD hP hA => ?_
  subst hl hD
  refine xgo [5] 60 hA ?_
  refine xcV r1 (c_elementAt Q) (by rfl) (by rfl) (by rfl) (by omega) (by omega) ?_
  rintro o h' (⟨q1, ⟨x, rfl⟩, q3⟩ | ⟨k, hk, rfl, rfl, rfl⟩)
  · have ea : aTell A e p = ((1, 0), A) := by unfold aTell; rw [elK_none q1]
    rw [ea] at hP
    exact xP hP ⟨⟨x, rfl⟩, rd, so, sy, G, q3⟩
  have hek := elK_some hn hk
  obtain ⟨g1, g2, g3, g4⟩ := r15.2.2.2.2.2.2.2 k hk
  obtain ⟨fl, hfl⟩ := g3.cell
  have hfn : (G.fas k).length = (A.S.fd k).length := by have := g4.len; rw [List.length_map] at this; exact this
  have hf6 := (wk k hk).2.2.1
  have e1 : (2 : Int32) + 2 * nI (G.fas k).length = nI (2 + 2 * (A.S.fd k).length) := by
    rw [hfn, show (2 : Int32) * nI (A.S.fd k).length = nI (2 * (A.S.fd k).length) from nI_mul 2 _]; exact nI_add 2 _
  rcases pk_ix p (n := 2 + 2 * (A.S.fd k).length) (by omega) with z | z | ⟨j, hj, rfl⟩
  · have ea : aTell A (nI k) p = ((1, 0), A) := by
      unfold aTell; rw [hek]; simp only []; rw [ixK_none (fun i hi y => by rw [y] at z; exact nI_neg (by omega) z)]
    rw [ea] at hP
    refine xgo [] 60 hA ?_
    refine xt z ?_
    refine xth (K := fun _ _ _ _ _ _ => True) (ls := []) (st := []) rfl (by omega) (by omega) fun w hw => xP hP ⟨⟨w, rfl⟩, R'.new hw⟩
  · have z0 : ¬ p < 0 := fun y => absurd (Int32.lt_of_le_of_lt z y) (nI_neg (by omega))
    have z2 : ¬ p < nI (2 + 2 * (A.S.fd k).length) := fun y => Int32.lt_irrefl (Int32.lt_of_lt_of_le y z)
    have ea : aTell A (nI k) p = ((1, 0), A) := by
      unfold aTell; rw [hek]; simp only []; rw [ixK_none (fun i hi y => by rw [y] at z2; exact z2 (nI_lt hi (by omega)))]
    rw [ea] at hP
    refine xgo [22] 60 hA ?_
    refine xf z0 ?_
    refine xg g1 (by rfl) ?_
    refine xcV hfl (c_AL_size g3) (by rfl) (by rfl) (by rfl) (Nat.zero_le _) (Nat.zero_le _) ?_
    rintro o h2 ⟨rfl, rfl⟩
    show xG X 22 [(3, .ref (G.ad k)), (0, .ref sc), (1, .int (nI k)), (2, .int p)] [.int (2 + 2 * nI (G.fas k).length), .int p] h2 _ _
    rw [e1]
    refine xgo [] 60 hA ?_
    refine xf z2 ?_
    refine xth (K := fun _ _ _ _ _ _ => True) (ls := []) (st := []) rfl (by omega) (by omega) fun w hw => xP hP ⟨⟨w, rfl⟩, R'.new hw⟩
  · have hij := ixK_some (n := 2 + 2 * (A.S.fd k).length) (by omega) hj
    have ea : aTell A (nI k) (nI j) = (if 16384 < (aTold A.ts A.S k j).length then ((2, 0), A) else ((0, nI (aTold A.ts A.S k j).length), A.wOu (aTold A.ts A.S k j))) := by
      unfold aTell; rw [hek]; simp only []; rw [hij]
    rw [ea] at hP
    -- a slice is put out
    have put : ∀ (s : Nat) (w : List Nat) (ls : xL) (rc rs : Nat), isS (bK K) h' s w → aTold A.ts A.S k j = w → w.length ≤ 8192 → ∀ v : Value, v = .ref s → (∀ (o : xO) (h2 : xH), (o = .inl (some (.int (nI w.length))) ∧ scQ Zh X.D h2 sc K (A.wOu w) rd so sy G ∧ gk (bK K) h' h2) → X.P o h2) := by
      rintro s w ls rc rs S1 e2 hw v - o h2 ⟨q1, q2, -⟩
      rw [e2, if_neg (by omega)] at hP
      exact xP hP ⟨q1, rd, so, sy, G, q2⟩
    refine xgo [22] 60 hA ?_
    refine xf (nI_neg (by omega)) ?_
    refine xg g1 (by rfl) ?_
    refine xcV hfl (c_AL_size g3) (by rfl) (by rfl) (by rfl) (Nat.zero_le _) (Nat.zero_le _) ?_
    rintro o h2 ⟨rfl, rfl⟩
    show xG X 22 [(3, .ref (G.ad k)), (0, .ref sc), (1, .int (nI k)), (2, .int (nI j))] [.int (2 + 2 * nI (G.fas k).length), .int (nI j)] h2 _ _
    rw [e1]
    refine xgo [68] 80 hA ?_
    refine xt (nI_lt hj (by omega)) ?_
    by_cases h1 : j = 1
    · subst h1
      refine xfn (by rfl) ?_
      refine xcV r1 (c_putTexts Q hk) (by rfl) (by rfl) (by rfl) (by omega) (by omega) ?_
      have e2 : aTold A.ts A.S k 1 = txL A.ts A.S k := if_pos rfl
      rw [e2] at hP
      rintro o h3 (⟨q1, ⟨x, rfl⟩, q3⟩ | ⟨q1, rfl, q3⟩)
      · rw [if_pos q1] at hP
        exact xP hP ⟨⟨x, rfl⟩, rd, so, sy, G, q3⟩
      · rw [if_neg (by omega)] at hP
        exact xP hP ⟨rfl, rd, so, sy, G, q3⟩
    refine xtn (fun z => h1 ((nI_eq (b := 1) (by omega) (by omega)).mp z)) ?_
    by_cases h0 : j = 0
    · subst h0
      refine xfn (by rfl) ?_
      refine xg g1 (by rfl) ?_
      have hl := sub_le A.ts (A.S.F 0 k, A.S.F 1 k)
      refine xcV r1 (c_putSlice Q g2 (by omega)) (by rfl) (by rfl) (by rfl) (Nat.zero_le _) (Nat.zero_le _) ?_
      intro o h3 q
      have := put (G.ns k) _ [] 0 0 g2 (by show (if (0 : Nat) = 1 then _ else if (0 : Nat) = 0 then _ else _) = _; rw [if_neg (by decide), if_pos rfl]; rfl) (by omega) _ rfl o h3 q
      obtain ⟨rfl, -⟩ := q
      exact this
    refine xtn (fun z => h0 ((nI_eq (b := 0) (by omega) (by omega)).mp z)) ?_
    refine xg g1 (by rfl) ?_
    refine And.intro (by decide) ?_
    have e3 : nI j / 2 - 1 = nI (j / 2 - 1) := by
      rw [show nI j / 2 = nI (j / 2) from pk_div (d := 2) (by omega) (by decide) (by decide)]
      exact nI_sub (b := 1) (by omega)
    show xG X 68 [(3, .ref (G.ad k)), (0, .ref sc), (1, .int (nI k)), (2, .int (nI j))] [.int (nI j / 2 - 1), .ref (G.fl k)] h2 _ _
    rw [e3]
    have c3 : j / 2 - 1 < (G.fas k).length := by omega
    have c4 : j / 2 - 1 < (A.S.fd k).length := by omega
    obtain ⟨s1, s2, y1, y2, y3⟩ := g4.at (j / 2 - 1) c3 (by rw [List.length_map]; exact c4)
    rw [List.getElem_map] at y2 y3
    refine xgo [80] 80 hA ?_
    refine xcV hfl (c_AL_get g3 c3) (by rfl) (by rfl) (by rfl) (Nat.zero_le _) (Nat.zero_le _) ?_
    rintro o h3 ⟨rfl, rfl⟩
    refine xct y1 rfl ?_
    refine And.intro (by decide) ?_
    have e4 : nI j - nI j / 2 * 2 = nI (j % 2) := pk_rem (d := 2) (by omega) (by decide) (by decide)
    show xG X 80 [(4, .ref (G.fas k)[j / 2 - 1]), (3, .ref (G.ad k)), (0, .ref sc), (1, .int (nI k)), (2, .int (nI j))] [.int (nI j - nI j / 2 * 2), .ref sc] h3 _ _
    rw [e4]
    refine xgo [] 80 hA ?_
    have hgd : (A.S.fd k).getD (j / 2 - 1) ((0, 0), (0, 0)) = (A.S.fd k)[j / 2 - 1] := by simp [c4]
    by_cases hm : j % 2 = 0
    · rw [hm]
      refine xfn (by rfl) ?_
      refine xg y1 (by rfl) ?_
      have hl := sub_le A.ts (A.S.fd k)[j / 2 - 1].1
      refine xcV r1 (c_putSlice Q y2 (by show (sub A.ts (A.S.fd k)[j / 2 - 1].1).length ≤ _; omega)) (by rfl) (by rfl) (by rfl) (Nat.zero_le _) (Nat.zero_le _) ?_
      intro o h4 q
      have := put s1 _ [] 0 0 y2 (by unfold aTold; rw [if_neg h1, if_neg h0, if_pos hm, hgd]; rfl) (by show (sub A.ts (A.S.fd k)[j / 2 - 1].1).length ≤ _; omega) _ rfl o h4 q
      obtain ⟨rfl, -⟩ := q
      exact this
    · have hm1 : j % 2 = 1 := by omega
      rw [hm1]
      refine xtn (by decide) ?_
      refine xg y1 (by rfl) ?_
      have hl := sub_le A.ts (A.S.fd k)[j / 2 - 1].2
      refine xcV r1 (c_putSlice Q y3 (by show (sub A.ts (A.S.fd k)[j / 2 - 1].2).length ≤ _; omega)) (by rfl) (by rfl) (by rfl) (Nat.zero_le _) (Nat.zero_le _) ?_
      intro o h4 q
      have := put s2 _ [] 0 0 y3 (by unfold aTold; rw [if_neg h1, if_neg h0, if_neg hm, hgd]; rfl) (by show (sub A.ts (A.S.fd k)[j / 2 - 1].2).length ≤ _; omega) _ rfl o h4 q
      obtain ⟨rfl, -⟩ := q
      exact this
end
