/-! THE REFERENCE, 11: a rule's body -/
def tdM (S : MS) (b : Nat) (t : List Nat) (i : Nat) (d : TD) (bi : Nat) : Prop := S.2 70 i = nI d.1 ∧ S.2 71 i = nI bi ∧ vlM S b t i (d.2.1, d.2.2.1, d.2.2.2.1, d.2.2.2.2.1) ∧ S.2 76 i = bI d.2.2.2.2.2
def dsM (S : MS) (b : Nat) (t : List Nat) (D : List (TD × Nat)) : Prop := ∀ i q, D[i]? = some q → tdM S b t i q.1 q.2
theorem vlM.eq {S S' : MS} {b i : Nat} {t : List Nat} {v : Nat × (Nat × Nat) × Nat × Nat} (H : vlM S b t i v) (h : ∀ k, 72 ≤ k → k ≤ 75 → S'.2 k i = S.2 k i) : vlM S' b t i v := by
  unfold vlM
  rw [h 72 (by decide) (by decide), h 73 (by decide) (by decide), h 74 (by decide) (by decide), h 75 (by decide) (by decide)]
  exact H
theorem tdM.eq {S S' : MS} {b i bi : Nat} {t : List Nat} {d : TD} (H : tdM S b t i d bi) (h : ∀ k, 70 ≤ k → k ≤ 76 → S'.2 k i = S.2 k i) : tdM S' b t i d bi :=
  ⟨by rw [h 70 (by decide) (by decide)]; exact H.1, by rw [h 71 (by decide) (by decide)]; exact H.2.1, H.2.2.1.eq (fun k h1 h2 => h k (by omega) (by omega)), by rw [h 76 (by decide) (by decide)]; exact H.2.2.2⟩
theorem dsM.eq {S S' : MS} {b : Nat} {t : List Nat} {D : List (TD × Nat)} (H : dsM S b t D) (h : ∀ k i, 70 ≤ k → k ≤ 76 → i < D.length → S'.2 k i = S.2 k i) : dsM S' b t D := fun i q hq => (H i q hq).eq fun k h1 h2 => h k i h1 h2 (List.getElem?_eq_some_iff.mp hq).1
theorem nsM.eq {S S' : MS} {b : Nat} {t : List Nat} {ns : List (Nat × Nat)} (H : nsM S b t ns) (h : ∀ k i, 77 ≤ k → k ≤ 78 → i < ns.length → S'.2 k i = S.2 k i) : nsM S' b t ns := fun i a hi => by
  have := (List.getElem?_eq_some_iff.mp hi).1
  rw [h 77 i (by decide) (by decide) this, h 78 i (by decide) (by decide) this]
  exact H i a hi
theorem snoc_at {α : Type} {l : List α} {a x : α} {i : Nat} (h : (l ++ [a])[i]? = some x) : (i < l.length ∧ l[i]? = some x) ∨ (i = l.length ∧ x = a) := by
  by_cases hx : i < l.length
  · rw [List.getElem?_append_left hx] at h
    exact Or.inl ⟨hx, h⟩
  · rw [List.getElem?_append_right (by omega)] at h
    have hi : i = l.length := by
      have := (List.getElem?_eq_some_iff.mp h).1
      simp only [List.length_singleton] at this
      omega
    subst hi
    rw [Nat.sub_self] at h
    exact Or.inr ⟨rfl, by simpa using h.symm⟩
abbrev boL : List Nat := [6, 45, 46, 47, 48, 49, 68, 69]
def boP (k _i : Nat) : Prop := 70 ≤ k ∧ k ≤ 78
section
variable {l : Launch} {D : xD} {h0 : xH} {M : MA} {S : MS}
set_option maxRecDepth 20000 in
theorem c_body2 {b p bi : Nat} {t : List Nat} {Ds : List (TD × Nat)} {ns : List (Nat × Nat)} (hM : mok M) (A : atA S b t p) (h68 : S.1 68 = nI Ds.length) (h69 : S.1 69 = nI ns.length) (hN : nsM S b t ns) (hD : dsM S b t Ds) (lD : Ds.length ≤ 600) (lN : ns.length ≤ 30) : xMet l D 3 y_Mo_body [.ref M.1, .int (nI bi)] (mH h0 M S) 0 0 (fun o h' => ∃ S', h' = mH h0 M S' ∧ o = .inl none ∧ gF boL boP S S' ∧ mRes S' b t (bR t p ns Ds.length) (fun q => S'.1 68 = nI (Ds.length + q.1.length) ∧ S'.1 69 = nI q.2.length ∧ nsM S' b t q.2 ∧ dsM S' b t (Ds ++ q.1.map (fun d => (d, bi))) ∧ Ds.length + q.1.length ≤ 600 ∧ q.2.length ≤ 30)) := by
  have hl := A.1.2.2.2.2.1
  refine m_Mo_body (Nat.le_of_ble_eq_true rfl) fun X hl hD hP hA => ?_
  subst hl hD
  have bad : ∀ (α : Type) (ok : α → Prop) (S' : MS) (wr : Nat), gF boL boP S S' → mRes S' b t (.error wr : Except Nat (α × Nat)) ok → bR t p ns Ds.length = .error wr → ∀ ls, (∀ q ∈ [(1, Value.int (nI bi)), (0, Value.ref M.1)], q ∈ ls) → xG X 6 ls [] (mH h0 M S') 0 0 := by
    intro α ok S' wr g R eR ls hls
    refine xG.locs ?_ hls
    obtain ⟨T', hf', hw', e, he1, he2⟩ := id R
    refine xgo [] 30 hA ?_
    refine yg (by rfl) ?_
    refine xt (by rw [hf']; exact nI_pos' (by omega)) ?_
    refine xcV (mH_m _ _ _) (c_Mo_next hM T' he1 he2) (by rfl) (by rfl) (by rfl) (Nat.zero_le _) (Nat.zero_le _) ?_
    rintro o h' ⟨S2, rfl, rfl, f2, K2⟩
    refine xP hP ⟨_, rfl, rfl, g.tr f2.g0 (by decide) (fun _ _ z => z), ?_⟩
    rw [eR]
    exact ⟨T'.fr f2 (by decide), by rw [f2.1 6 (by decide)]; exact hf', hw', _, K2.2.1, tkE_le (scan_le1 he2)⟩
  have loop : ∀ (k0 n : Nat) (ds : List TD) (ns' : List (Nat × Nat)) (s : Nat) (S' : MS), n + ds.length = 601 → bR t p ns Ds.length = bL t n s ds ns' (Ds.length + ds.length) → atA S' b t s → gF boL boP S S' → S'.1 68 = nI (Ds.length + ds.length) → S'.1 69 = nI ns'.length → nsM S' b t ns' → dsM S' b t (Ds ++ ds.map (fun d => (d, bi))) → Ds.length + ds.length ≤ 600 → ns'.length ≤ 30 → n = k0 → ∀ ls, (∀ q ∈ [(1, Value.int (nI bi)), (0, Value.ref M.1)], q ∈ ls) → xG X 6 ls [] (mH h0 M S') 0 0 := by
    intro k0
    induction k0 with
    | zero => intro n ds ns' s S' hn; omega
    | succ k0 ih =>
      intro n ds ns' s S' hn eR A' g e68 e69 N' D' lD' lN' hk0 ls hls
      refine xG.locs ?_ hls
      subst hk0
      obtain ⟨T', K', hf', hp'⟩ := id A'
      obtain ⟨q1, q2, q3, q4, q5⟩ := id K'
      have hsc := scan_le1 (p := bl) hp'
      have hK := tkK_lt t (scan bl t s)
      refine xgo [40, 49] 60 hA ?_
      refine yg (by rfl) ?_
      rw [hf']
      refine xf (by decide) ?_
      refine xcV (mH_m _ _ _) (c_Mo_isSign T' K' (c := 125) (by rfl)) (by rfl) (by rfl) (by rfl) (Nat.zero_le _) (Nat.zero_le _) ?_
      rintro o h' ⟨rfl, rfl⟩
      refine xb (fun c1 => ?_) (fun c1 => ?_)
      · have n1 := of_decide_eq_true ((bI_n0 _).mp c1)
        have hlt := ch_lt n1 (by decide)
        refine xcV (mH_m _ _ _) (c_Mo_nextA (p := 0) hM T' (by rw [q2, (tk_sg (c := 125) (by rfl) n1).2.2]) hf' (by omega)) (by rfl) (by rfl) (by rfl) (Nat.zero_le _) (Nat.zero_le _) ?_
        rintro o h' ⟨S3, rfl, rfl, f3, A3⟩
        have d3 := fun k => f3.2 k (by simp)
        refine xP hP ⟨_, rfl, rfl, g.tr f3.g0 (by decide) (fun _ _ z => z), ?_⟩
        rw [eR, bL_end n1]
        exact ⟨A3, by rw [f3.1 68 (by decide)]; exact e68, by rw [f3.1 69 (by decide)]; exact e69, N'.eq (fun k i _ _ _ => by rw [d3]), D'.eq (fun k i _ _ _ => by rw [d3]), lD', lN'⟩
      have n1 := of_decide_eq_false ((bI_0 _).mp c1)
      rw [bL_go n1] at eR
      -- a wrong place
      have er : ∀ pc : Nat, (pc = 40 ∨ pc = 85) → pTold t (scan bl t s) ns' (Ds.length + ds.length) = .error (scan bl t s) → ∀ ls, (0, Value.ref M.1) ∈ ls → xG X pc ls [] (mH h0 M S') 0 0 := by
        intro pc hpc e ls hls
        refine xG.locs (ls' := [(0, .ref M.1)]) ?_ (by simpa using hls)
        rcases hpc with z | z
        · subst z
          refine xgo [] 20 hA ?_
          refine yg (by rfl) ?_
          refine xcV (mH_m _ _ _) (c_Mo_wrong hf') (by rfl) (by rfl) (by rfl) (Nat.zero_le _) (Nat.zero_le _) ?_
          rintro o h' ⟨rfl, rfl⟩
          refine xP hP ⟨_, rfl, rfl, g.p (by decide), ?_⟩
          rw [eR, pB_er e]
          exact ⟨T'.p (by decide) (by decide), q1, hsc, _, q2, tkE_le hsc⟩
        · subst z
          refine xgo [] 20 hA ?_
          refine yg (by rfl) ?_
          refine xcV (mH_m _ _ _) (c_Mo_wrong hf') (by rfl) (by rfl) (by rfl) (Nat.zero_le _) (Nat.zero_le _) ?_
          rintro o h' ⟨rfl, rfl⟩
          refine xP hP ⟨_, rfl, rfl, g.p (by decide), ?_⟩
          rw [eR, pB_er e]
          exact ⟨T'.p (by decide) (by decide), q1, hsc, _, q2, tkE_le hsc⟩
      refine yg (by rfl) ?_
      refine xb (fun c2 => ?_) (fun c2 => ?_)
      · refine er 40 (Or.inl rfl) ?_ _ (by simp)
        rw [pTold, pB_er (pName_0 (fun y => c2 (by rw [q3, y]; rfl)))]
      have hk1 : tkK t (scan bl t s) = 1 := (nI_eq (b := 1) (by omega) (by decide)).mp (by rw [← q3]; exact c2)
      have eN := pName_1 hk1
      obtain ⟨u1, u2, u3, u4, u5, u6, u7⟩ := pName_sub eN
      obtain ⟨s0, hs0⟩ : ∃ s0, s0 = scan bl t s := ⟨_, rfl⟩
      obtain ⟨E, hE⟩ : ∃ E, E = tkE t s0 := ⟨_, rfl⟩
      rw [← hs0] at eN u2 u3 u4 u5 u6 u7 hsc q1 q2 er eR
      rw [← hE] at eN u2 u3 u4 u5 u6 q2
      simp only [] at u2 u3 u4
      refine yg (by rfl) ?_
      rw [e68]
      refine xb (fun c3 => ?_) (fun c3 => ?_)
      rotate_left
      · refine er 40 (Or.inl rfl) ?_ _ (by simp)
        have := (nI_eq (b := 600) (by omega) (by decide)).mp c3
        rw [pTold, pB_ok eN, if_pos (Or.inl (by omega))]
      have l6 : Ds.length + ds.length < 600 := by
        have : ¬ Ds.length + ds.length = 600 := fun z => c3 (by rw [z]; rfl)
        omega
      obtain ⟨i, hi⟩ : ∃ i, i = Ds.length + ds.length := ⟨_, rfl⟩
      obtain ⟨w, hw⟩ : ∃ w, w = sub t (s0, E - s0) := ⟨_, rfl⟩
      have hwl : w.length = E - s0 := by rw [hw]; exact sub_len (by show s0 + (E - s0) ≤ t.length; omega)
      obtain ⟨nn, hnn⟩ : ∃ nn, nn = addNm t ns' (s0, E - s0) := ⟨_, rfl⟩
      have eT : pTold t s0 ns' (Ds.length + ds.length) = (if 30 < nn.length then .error s0 else pB (pSig 58 t E) fun _ k => pB (pVal2 t k) fun v m => pB (pSig 59 t m) fun _ q => .ok (((fndN t ns' w, v.1.1, v.1.2.1, v.1.2.2.1, v.1.2.2.2, v.2), nn), q)) := by
        rw [pTold, pB_ok eN, ← hw, ← hnn]
        by_cases z : 30 < nn.length
        · rw [if_pos z, if_pos (Or.inr z)]
        · rw [if_neg z, if_neg (by omega)]
      have k139 : ∀ S2 : MS, gF boL boP S S2 → atA S2 b t s → nsM S2 b t nn → S2.1 68 = nI i → S2.1 69 = nI nn.length → dsM S2 b t (Ds ++ ds.map (fun d => (d, bi))) → nn.length ≤ 30 → ∀ ls, (∀ q ∈ [(2, Value.int (nI (fndN t ns' w))), (1, .int (nI bi)), (0, .ref M.1)], q ∈ ls) → xG X 139 ls [] (mH h0 M S2) 0 0 := by
        intro S2 g2 A2 N2 e68b e69b D2 l30 ls hls
        refine xG.locs ?_ hls
        rw [if_neg (by omega)] at eT
        refine xgo [159] 60 hA ?_
        refine ya (by rfl) ?_
        refine yg (by rfl) ?_
        refine ys (i := i) hM (by rfl) e68b (by show i < 600; omega) ?_
        refine ya (by rfl) ?_
        refine yg (by rfl) ?_
        refine ys (i := i) hM (by rfl) e68b (by show i < 600; omega) ?_
        obtain ⟨S3, hS3⟩ : ∃ S3, S3 = s2 (s2 S2 70 i (nI (fndN t ns' w))) 71 i (nI bi) := ⟨_, rfl⟩
        have g3 : gF [] (fun k x => (k = 70 ∨ k = 71) ∧ x = i) S2 S3 := by rw [hS3]; exact ((gF.refl _ _ _).s ⟨Or.inl rfl, rfl⟩).s ⟨Or.inr rfl, rfl⟩
        have gg3 := g2.tr g3 (by simp) (fun k x z => by unfold boP; omega)
        have A3 := A2.gf g3 (by decide) (fun i _ _ => by omega)
        have e70 : S3.2 70 i = nI (fndN t ns' w) := by rw [hS3]; simp [s2]
        have e71 : S3.2 71 i = nI bi := by rw [hS3]; simp [s2]
        have N3 := N2.eq (S' := S3) (fun k x h1 h2 _ => g3.2 k x (by omega))
        have hDl : (Ds ++ ds.map (fun d => (d, bi))).length = i := by simp [hi]
        have D3 := D2.eq (S' := S3) (fun k x h1 h2 h3 => g3.2 k x (by omega))
        suffices this : xG X 159 [(1, .int (nI bi)), (0, .ref M.1)] [] (mH h0 M S3) 0 0 by
          rw [hS3] at this
          exact this.locs (by simp)
        refine xgo [6] 60 hA ?_
        obtain ⟨T3, ⟨-, m3, -⟩, hf3, -⟩ := id A3
        rw [← hs0, ← hE] at m3
        refine xcV (mH_m _ _ _) (c_Mo_nextA (p := 0) hM T3 m3 hf3 (by omega)) (by rfl) (by rfl) (by rfl) (Nat.zero_le _) (Nat.zero_le _) ?_
        rintro o h' ⟨S4, rfl, rfl, f4, A4⟩
        refine xcV (mH_m _ _ _) (c_Mo_need hM A4 (c := 58) (by rfl)) (by rfl) (by rfl) (by rfl) (Nat.zero_le _) (Nat.zero_le _) ?_
        rintro o h' ⟨S5, rfl, rfl, f5, r5⟩
        have gg5 := (gg3.tr f4.g0 (by simp) (fun _ _ z => z)).tr f5.g0 (by simp) (fun _ _ z => z)
        have d5 : ∀ k x, S5.2 k x = S3.2 k x := fun k x => by rw [f5.2 k (by simp), f4.2 k (by simp)]
        cases hs1 : pSig 58 t E with
        | error wr =>
          rw [hs1] at r5
          rw [pB_er hs1] at eT
          have hf5 := r5.2.1
          have hw5 := r5.2.2.1
          refine xcV (mH_m _ _ _) (c_oneValueF hf5 (by omega)) (by rfl) (by rfl) (by rfl) (Nat.zero_le _) (Nat.zero_le _) ?_
          rintro o h' ⟨rfl, rfl⟩
          refine xcV (mH_m _ _ _) (c_Mo_needF hf5 (by omega)) (by rfl) (by rfl) (by rfl) (Nat.zero_le _) (Nat.zero_le _) ?_
          rintro o h' ⟨rfl, rfl⟩
          refine yg (by rfl) ?_
          refine xt (by rw [hf5]; exact nI_pos' (by omega)) ?_
          exact bad _ _ S5 wr gg5 r5 (by rw [eR, pB_er eT]) _ (by simp)
        | ok q =>
          obtain ⟨u0, j5⟩ := q
          rw [hs1] at r5
          rw [pB_ok hs1] at eT
          obtain ⟨A5, -⟩ := r5
          refine xcV (mH_m _ _ _) (c_oneValue2 (i := i) hM A5 (by rw [f5.1 68 (by decide), f4.1 68 (by decide), g3.1 68 (by simp)]; exact e68b) (by omega)) (by rfl) (by rfl) (by rfl) (Nat.zero_le _) (Nat.zero_le _) ?_
          rintro o h' ⟨S6, rfl, rfl, g6, r6⟩
          have gg6 := gg5.tr g6 (by simp) (fun k x z => by unfold boP; omega)
          cases hv : pVal2 t j5 with
          | error wr =>
            rw [hv] at r6
            rw [pB_er hv] at eT
            have hf6 := r6.2.1
            have hw6 := r6.2.2.1
            refine xcV (mH_m _ _ _) (c_Mo_needF hf6 (by omega)) (by rfl) (by rfl) (by rfl) (Nat.zero_le _) (Nat.zero_le _) ?_
            rintro o h' ⟨rfl, rfl⟩
            refine yg (by rfl) ?_
            refine xt (by rw [hf6]; exact nI_pos' (by omega)) ?_
            exact bad _ _ S6 wr gg6 r6 (by rw [eR, pB_er eT]) _ (by simp)
          | ok q =>
            obtain ⟨v, j6⟩ := q
            rw [hv] at r6
            rw [pB_ok hv] at eT
            obtain ⟨A6, V6, e76⟩ := r6
            refine xcV (mH_m _ _ _) (c_Mo_need hM A6 (c := 59) (by rfl)) (by rfl) (by rfl) (by rfl) (Nat.zero_le _) (Nat.zero_le _) ?_
            rintro o h' ⟨S7, rfl, rfl, f7, r7⟩
            have gg7 := gg6.tr f7.g0 (by simp) (fun _ _ z => z)
            have d7 := fun k => f7.2 k (by simp)
            cases hs2 : pSig 59 t j6 with
            | error wr =>
              rw [hs2] at r7
              rw [pB_er hs2] at eT
              have hf7 := r7.2.1
              have hw7 := r7.2.2.1
              refine yg (by rfl) ?_
              refine xt (by rw [hf7]; exact nI_pos' (by omega)) ?_
              exact bad _ _ S7 wr gg7 r7 (by rw [eR, pB_er eT]) _ (by simp)
            | ok q =>
              obtain ⟨u0, j7⟩ := q
              rw [hs2] at r7
              rw [pB_ok hs2] at eT
              obtain ⟨A7, -⟩ := r7
              refine yg (by rfl) ?_
              rw [A7.2.2.1]
              refine xf (by decide) ?_
              refine yg (by rfl) ?_
              refine yp (by rfl) ?_
              have e68c : S7.1 68 = nI i := by rw [f7.1 68 (by decide), g6.1 68 (by decide), f5.1 68 (by decide), f4.1 68 (by decide), g3.1 68 (by simp)]; exact e68b
              have e69c : S7.1 69 = nI nn.length := by rw [f7.1 69 (by decide), g6.1 69 (by decide), f5.1 69 (by decide), f4.1 69 (by decide), g3.1 69 (by simp)]; exact e69b
              have g8 := (gF.refl [68] (fun _ _ => False) S7).p (k := 68) (v := S7.1 68 + 1) (by decide)
              have eT' : pTold t s0 ns' (Ds.length + ds.length) = .ok (((fndN t ns' w, v.1.1, v.1.2.1, v.1.2.2.1, v.1.2.2.2, v.2), nn), j7) := eT
              have e7 : ∀ k x, ¬ (72 ≤ k ∧ k ≤ 76 ∧ x = i) → S7.2 k x = S3.2 k x := fun k x h => by rw [d7, g6.2 k x h, d5]
              refine ih k0 (ds ++ [(fndN t ns' w, v.1.1, v.1.2.1, v.1.2.2.1, v.1.2.2.2, v.2)]) nn j7 _ (by rw [List.length_append, List.length_singleton]; omega) (by rw [eR, pB_ok eT', List.length_append, List.length_singleton, Nat.add_assoc]) (A7.gf g8 (by decide) (fun _ _ _ z => z)) (gg7.tr g8 (by simp) (fun _ _ z => z.elim)) ?_ ?_ ?_ ?_ ?_ l30 rfl _ (by simp)
              · rw [s1_eq, e68c, nI_1, List.length_append, List.length_singleton, hi, Nat.add_assoc]
              · rw [s1_ne _ _ (by decide)]; exact e69c
              · exact N3.eq (fun k x h1 h2 _ => e7 k x (by omega))
              · rw [List.map_append, ← List.append_assoc]
                intro x q hq
                rcases snoc_at hq with ⟨hx, hq'⟩ | ⟨hx, hq'⟩
                · exact (D3 x q hq').eq (fun k h1 h2 => e7 k x (by omega))
                · rw [hDl] at hx
                  subst hq' hx
                  refine ⟨?_, ?_, V6.eq (fun k _ _ => ?_), ?_⟩
                  · show S7.2 70 x = _
                    rw [e7 70 x (by omega)]; exact e70
                  · show S7.2 71 x = _
                    rw [e7 71 x (by omega)]; exact e71
                  · show S7.2 k x = _
                    rw [d7]
                  · show S7.2 76 x = _
                    rw [d7]; exact e76
              · rw [List.length_append, List.length_singleton]; omega
      suffices this : xG X 49 [(1, .int (nI bi)), (0, .ref M.1)] [] (mH h0 M S') 0 0 from this
      refine xgo [68] 30 hA ?_
      refine yg (by rfl) ?_
      refine yg (by rfl) ?_
      refine yg (by rfl) ?_
      refine yg (by rfl) ?_
      show xG X 68 [(1, .int (nI bi)), (0, .ref M.1)] [.int (S'.1 47 - S'.1 46), .int (S'.1 8 + S'.1 46), .ref M.1] (mH h0 M S') _ _
      refine xgo [139, 85] 60 hA ?_
      rw [T'.1, q1, q2, nI_add, nI_sub (by omega), ← hwl]
      have sgw : sg S' (b + s0) w := by rw [hw]; exact T'.sg (a := (s0, E - s0)) (by show s0 + (E - s0) ≤ t.length; omega)
      refine xcV (mH_m _ _ _) (c_known2 hM (sg_tx T') N' e69 lN' sgw) (by rfl) (by rfl) (by rfl) (Nat.zero_le _) (Nat.zero_le _) ?_
      rintro o h' ⟨rfl, rfl⟩
      have hfl : fndN t ns' w ≤ ns'.length := List.findIdx_le_length
      by_cases hf : fndN t ns' w < ns'.length
      · rw [if_pos hf]
        have e : nn = ns' := by rw [hnn, addNm, ← hw, if_pos hf]
        refine xt (nI_pos' (by omega)) ?_
        exact k139 S' g A' (by rw [e]; exact N') (by rw [hi]; exact e68) (by rw [e]; exact e69) D' (by rw [e]; exact lN') _ (by simp)
      · rw [if_neg hf]
        have e : nn = ns' ++ [(s0, E - s0)] := by rw [hnn, addNm, ← hw, if_neg hf]
        have hfe : fndN t ns' w = ns'.length := by omega
        refine xf (by decide) ?_
        refine yg (by rfl) ?_
        rw [e69]
        refine xb (fun c4 => ?_) (fun c4 => ?_)
        rotate_left
        · refine er 85 (Or.inr rfl) ?_ _ (by simp)
          have := (nI_eq (b := 30) (by omega) (by decide)).mp c4
          rw [eT, if_pos (by rw [e, List.length_append, List.length_singleton]; omega)]
        have l3 : ns'.length < 30 := by
          have : ¬ ns'.length = 30 := fun z => c4 (by rw [z]; rfl)
          omega
        refine yg (by rfl) ?_
        refine ya (by rfl) ?_
        refine yg (by rfl) ?_
        refine yg (by rfl) ?_
        refine ys (i := ns'.length) hM (by rfl) e69 l3 ?_
        refine ya (by rfl) ?_
        refine yg (by rfl) ?_
        refine yg (by rfl) ?_
        refine ys (i := ns'.length) hM (by rfl) e69 l3 ?_
        refine yg (by rfl) ?_
        refine yp (by rfl) ?_
        obtain ⟨S2, hS2⟩ : ∃ S2, S2 = s1 (s2 (s2 S' 77 ns'.length (S'.1 8 + S'.1 46)) 78 ns'.length (S'.1 47 - S'.1 46)) 69 (S'.1 69 + 1) := ⟨_, rfl⟩
        have g2 : gF [69] (fun k x => (k = 77 ∨ k = 78) ∧ x = ns'.length) S' S2 := by rw [hS2]; exact (((gF.refl _ _ _).s ⟨Or.inl rfl, rfl⟩).s ⟨Or.inr rfl, rfl⟩).p (by decide)
        have e77 : S2.2 77 ns'.length = nI (b + s0) := by rw [hS2]; simp [s1, s2, T'.1, q1, nI_add]
        have e78 : S2.2 78 ns'.length = nI (E - s0) := by rw [hS2]; simp [s1, s2, q2, q1]; rw [nI_sub (by omega)]
        have e69b : S2.1 69 = nI nn.length := by rw [hS2, s1_eq, e69, nI_1, e, List.length_append]; rfl
        suffices this : xG X 139 [(2, .int (S'.1 69)), (1, .int (nI bi)), (0, .ref M.1)] [] (mH h0 M S2) 0 0 by
          rw [hS2] at this
          exact this
        refine k139 S2 (g.tr g2 (by decide) (fun k x z => by unfold boP; omega)) (A'.gf g2 (by decide) (fun i _ _ => by omega)) ?_ (by rw [g2.1 68 (by decide), hi]; exact e68) e69b (D'.eq (fun k x _ _ _ => g2.2 k x (by omega))) (by rw [e, List.length_append, List.length_singleton]; omega) _ (by rw [hfe, e69]; simp)
        rw [e]
        intro x a hx
        rcases snoc_at hx with ⟨h1, h2⟩ | ⟨h1, h2⟩
        · rw [g2.2 77 x (by omega), g2.2 78 x (by omega)]
          exact N' x a h2
        · subst h1 h2
          exact ⟨e77, e78, by show s0 + (E - s0) ≤ t.length; omega⟩
  refine xgo [6] 20 hA ?_
  refine xcV (mH_m _ _ _) (c_Mo_need hM A (c := 123) (by rfl)) (by rfl) (by rfl) (by rfl) (Nat.zero_le _) (Nat.zero_le _) ?_
  rintro o h' ⟨S1, rfl, rfl, f1, r1⟩
  have d1 := fun k => f1.2 k (by simp)
  have gg := (gF.refl boL boP S).tr f1.g0 (by simp) (fun _ _ z => z)
  cases hs : pSig 123 t p with
  | error wr =>
    rw [hs] at r1
    exact bad _ _ S1 wr gg r1 (by rw [bR, pB_er hs]) _ (by simp [lv_args, Value.category])
  | ok q =>
    obtain ⟨u0, j⟩ := q
    rw [hs] at r1
    exact loop 601 601 [] ns j S1 rfl (by rw [bR, pB_ok hs]; rfl) r1.1 gg (by rw [f1.1 68 (by decide)]; exact h68) (by rw [f1.1 69 (by decide)]; exact h69) (hN.eq (fun k i _ _ _ => by rw [d1])) (by rw [List.map_nil, List.append_nil]; exact hD.eq (fun k i _ _ _ => by rw [d1])) lD lN rfl _ (by simp [lv_args, Value.category])
end
