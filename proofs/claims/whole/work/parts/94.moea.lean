/-! THE REFERENCE, 27: properties -/
theorem mR.ou {S S' : MS} {A : AS} {w : List Nat} (R : mR S A) (g : gF [4] (fun k _ => k = 3) S S') (O : mrO S' w) : mR S' (A.wOu w) := by
  obtain ⟨rT, rO, rF, rP, rS, rY, rss⟩ := R
  exact ⟨rT.gf g (by rfl) (fun i z => by omega), O, rF.gf g (by rfl) (fun i z => by omega), by rw [g.1 5 (by decide)]; exact rP, rS.gf g (by rfl) (fun k i _ _ z => by omega) (fun i _ z => by omega), rY.gf g (by rfl) (by rfl) (fun k i _ _ z => by omega) (fun i _ _ z => by omega), rss⟩
theorem dgN_hd (v j : Nat) : dgN v j = (48 + v / 10 ^ j % 10) :: (if j = 0 then [] else dgN v (j - 1)) := by
  cases j with
  | zero => simp [dgN]
  | succ j => simp [dgN]
section
variable {l : Launch} {D : xD} {h0 : xH} {M : MA} {S : MS}
set_option maxRecDepth 20000 in
theorem c_sayNumber2 {v : Nat} (hM : mok M) (O : mrO S []) (hv : v < 10000000) : xMet l D 0 y_Mo_sayNumber [.ref M.1, .long (lN v)] (mH h0 M S) 0 0 (fun o h' => ∃ S', h' = mH h0 M S' ∧ o = .inl none ∧ gF [4] (fun k _ => k = 3) S S' ∧ mrO S' (dec7 v)) := by
  have hdl : (dec7 v).length ≤ 7 := dgs_le 6 v
  have hp0 : ∀ k, k ≤ 6 → 0 < 10 ^ k ∧ 10 ^ k ≤ 1000000 := fun k hk => ⟨Nat.pow_pos (by decide), Nat.le_trans (Nat.pow_le_pow_right (by decide) hk) (by decide)⟩
  have nz : ∀ {n : Nat}, 0 < n → n < 2 ^ 63 → ¬ lN n = 0 := fun h1 h2 z => by
    have := (pk_lEQ (b := 0) h2 (by decide)).mp z
    omega
  refine m_Mo_sayNumber (Nat.le_of_ble_eq_true rfl) fun X hl hD hP hA => ?_
  subst hl hD
  have out : ∀ (m j : Nat) (pre : List Nat) (S1 : MS), j = m → j ≤ 6 → gF [4] (fun k _ => k = 3) S S1 → mrO S1 pre → pre ++ dgN v j = dec7 v → xG X 21 [(3, .long (lN (10 ^ j))), (0, .ref M.1), (1, .long (lN v))] [] (mH h0 M S1) 0 0 := by
    intro m
    induction m with
    | zero =>
      intro j pre S1 hj h6 g1 O1 ep
      subst hj
      rw [dgN_hd] at ep
      have hpl : pre.length < 7 := by
        have := congrArg List.length ep
        rw [List.length_append, List.length_cons] at this
        omega
      have ev : (48 : Int64) + (lN v / lN (10 ^ 0) - lN v / lN (10 ^ 0) / 10 * 10) = lN (48 + v / 10 ^ 0 % 10) := by
        rw [pk_lDiv (by omega) (by decide) (by decide)]
        show lN 48 + (lN (v / 10 ^ 0) - lN (v / 10 ^ 0) / lN 10 * lN 10) = _
        rw [pk_lRem (by have := Nat.div_le_self v (10 ^ 0); omega) (by decide) (by decide), lN_add]
      refine xgo [] 60 hA ?_
      refine xf (fun z => absurd ((lg_cmp_le _ _).mp z) (by decide)) ?_
      refine ya (by rfl) ?_
      refine yg (by rfl) ?_
      rw [O1.1]
      refine And.intro (nz (by decide) (by decide)) (And.intro (by decide) ?_)
      refine ys (i := pre.length) hM (by rfl) rfl (by show pre.length < 16384; omega) ?_
      rw [ev, lN_i]
      refine yg (by rfl) ?_
      refine yp (by rfl) ?_
      refine And.intro (by decide) ?_
      refine xt ((lg_cmp_le _ _).mpr (by decide)) ?_
      obtain ⟨S8, hS8⟩ : ∃ S8, S8 = s1 (s2 S1 3 pre.length (nI (48 + v / 10 ^ 0 % 10))) 4 ((s2 S1 3 pre.length (nI (48 + v / 10 ^ 0 % 10))).1 4 + 1) := ⟨_, rfl⟩
      have g8 : gF [4] (fun k _ => k = 3) S1 S8 := by
        rw [hS8]
        exact ((gF.refl [4] (fun k _ => k = 3) S1).s rfl).p (by decide)
      refine xP hP ⟨S8, by rw [hS8], rfl, g1.tr g8 (by simp) (fun _ _ z => z), ?_⟩
      rw [← ep, hS8]
      exact mrO_snoc O1
    | succ m ih =>
      intro j pre S1 hj h6 g1 O1 ep
      subst hj
      rw [dgN_hd] at ep
      have hpl : pre.length < 7 := by
        have := congrArg List.length ep
        rw [List.length_append, List.length_cons] at this
        omega
      obtain ⟨p1, p2⟩ := hp0 (m + 1) h6
      have ev : (48 : Int64) + (lN v / lN (10 ^ (m + 1)) - lN v / lN (10 ^ (m + 1)) / 10 * 10) = lN (48 + v / 10 ^ (m + 1) % 10) := by
        rw [pk_lDiv (by omega) p1 (by omega)]
        show lN 48 + (lN (v / 10 ^ (m + 1)) - lN (v / 10 ^ (m + 1)) / lN 10 * lN 10) = _
        rw [pk_lRem (by have := Nat.div_le_self v (10 ^ (m + 1)); omega) (by decide) (by decide), lN_add]
      refine xgo [21] 60 hA ?_
      refine xf (fun z => by have := (pk_lLE (b := 0) (by omega) (by decide)).mp ((lg_cmp_le _ _).mp z); omega) ?_
      refine ya (by rfl) ?_
      refine yg (by rfl) ?_
      rw [O1.1]
      refine And.intro (nz p1 (by omega)) (And.intro (by decide) ?_)
      refine ys (i := pre.length) hM (by rfl) rfl (by show pre.length < 16384; omega) ?_
      rw [ev, lN_i]
      refine yg (by rfl) ?_
      refine yp (by rfl) ?_
      refine And.intro (by decide) ?_
      obtain ⟨S8, hS8⟩ : ∃ S8, S8 = s1 (s2 S1 3 pre.length (nI (48 + v / 10 ^ (m + 1) % 10))) 4 ((s2 S1 3 pre.length (nI (48 + v / 10 ^ (m + 1) % 10))).1 4 + 1) := ⟨_, rfl⟩
      have g8 : gF [4] (fun k _ => k = 3) S1 S8 := by
        rw [hS8]
        exact ((gF.refl [4] (fun k _ => k = 3) S1).s rfl).p (by decide)
      have ed : lN (10 ^ (m + 1)) / 10 = lN (10 ^ m) := by
        show lN (10 ^ (m + 1)) / lN 10 = _
        rw [pk_lDiv (by omega) (by decide) (by decide), Nat.pow_succ, Nat.mul_div_cancel _ (by decide)]
      have q := ih m (pre ++ [48 + v / 10 ^ (m + 1) % 10]) S8 rfl (by omega) (g1.tr g8 (by simp) (fun _ _ z => z)) (by rw [hS8]; exact mrO_snoc O1) (by
        rw [← ep, List.append_assoc]
        simp)
      rw [hS8, ← ed] at q
      exact q.locs (by simp [nI_zero, nI_one, bI])
  have up : ∀ (m k : Nat), k + m = 6 → (∀ j, j < k → 9 < v / 10 ^ j) → xG X 2 [(3, .long (lN (10 ^ k))), (0, .ref M.1), (1, .long (lN v))] [] (mH h0 M S) 0 0 := by
    intro m
    induction m with
    | zero =>
      intro k hk hj
      have ek : k = 6 := by omega
      subst ek
      refine xgo [21] 30 hA ?_
      refine And.intro (nz (by decide) (by decide)) ?_
      rw [pk_lDiv (by omega) (by decide) (by decide)]
      have h9 : v / 10 ^ 6 ≤ 9 := by omega
      refine xt ((lg_cmp_le _ _).mpr ((pk_lLE (b := 9) (by omega) (by decide)).mpr h9)) ?_
      exact (out 6 6 [] S rfl (Nat.le_refl _) (gF.refl _ _ _) O (by rw [List.nil_append]; exact (dgN_eq 6 6 v (Nat.le_refl _) h9 hj).symm)).locs (by simp [nI_zero, nI_one, bI])
    | succ m ih =>
      intro k hk hj
      obtain ⟨p1, p2⟩ := hp0 k (by omega)
      have hle := Nat.div_le_self v (10 ^ k)
      refine xgo [2, 21] 30 hA ?_
      refine And.intro (nz p1 (by omega)) ?_
      rw [pk_lDiv (by omega) p1 (by omega)]
      refine xb (fun c => ?_) (fun c => ?_)
      · have h9 : v / 10 ^ k ≤ 9 := (pk_lLE (b := 9) (by omega) (by decide)).mp ((lg_cmp_le _ _).mp c)
        exact (out k k [] S rfl (by omega) (gF.refl _ _ _) O (by rw [List.nil_append]; exact (dgN_eq k 6 v (by omega) h9 hj).symm)).locs (by simp [nI_zero, nI_one, bI])
      · have h9 : ¬ v / 10 ^ k ≤ 9 := fun z => c ((lg_cmp_le _ _).mpr ((pk_lLE (b := 9) (by omega) (by decide)).mpr z))
        have ed : lN (10 ^ k) * 10 = lN (10 ^ (k + 1)) := by
          show lN (10 ^ k) * lN 10 = _
          rw [lN_mul, Nat.pow_succ]
        have q := ih (k + 1) (by omega) (fun j hj2 => by
          by_cases z : j = k
          · subst z; omega
          · exact hj j (by omega))
        rw [← ed] at q
        exact q.locs (by simp [nI_zero, nI_one, bI])
  refine xgo [2] 10 hA ?_
  exact (up 6 0 rfl (fun j hj => by omega)).locs (by simp [nI_zero, nI_one, lv_args, Value.category]; rfl)
def pxI (c : Option (TD × Nat)) : Int32 := match c with
  | none => -1
  | some p => nI p.2
/-- the shares among what leans -/
def shL (ws : List (TD × Nat)) : List Nat := (ws.map (fun p => p.1.2.2.2.2.1)).filter (fun s => decide (0 < s))
theorem shL_snoc (ws : List (TD × Nat)) (p : TD × Nat) : shL (ws ++ [p]) = if 0 < p.1.2.2.2.2.1 then shL ws ++ [p.1.2.2.2.2.1] else shL ws := by
  unfold shL
  rw [List.map_append, List.filter_append]
  split
  · rename_i h; simp [h]
  · rename_i h; simp [h]
theorem shL_cons (p : TD × Nat) (ws : List (TD × Nat)) : shL (p :: ws) = if 0 < p.1.2.2.2.2.1 then p.1.2.2.2.2.1 :: shL ws else shL ws := by
  unfold shL
  split
  · rename_i h; simp [h]
  · rename_i h; simp [h]
theorem shL_ne {ws : List (TD × Nat)} {p : TD × Nat} (h : p ∈ ws) (h2 : 0 < p.1.2.2.2.2.1) : shL ws ≠ [] := fun z => by
  have : p.1.2.2.2.2.1 ∈ shL ws := List.mem_filter.mpr ⟨List.mem_map_of_mem h, by simpa using h2⟩
  rw [z] at this
  cases this
set_option maxRecDepth 20000 in
theorem c_property2 {A : AS} {e : Int32} (hM : mok M) (R : mR S A) (rA : AOk A) : xMet l D 6 y_Mo_property [.ref M.1, .int e] (mH h0 M S) 0 0 (fun o h' => ∃ S', h' = mH h0 M S' ∧ oM (aProp A e).1 S' o ∧ mR S' (aProp A e).2) := by
  have rS := R.2.2.2.2.1
  have hn5 : A.S.n ≤ 500 := rS.2.2.2.2.2.1.1
  have W : styW A.rs A.ss A.ns := rA.2.2.2.2.2
  have hns : A.ns.length ≤ 30 := W.2.2.2.2.1
  have hSW : SW A.S := rA.2.2.2.2.1.1
  have htl : A.ty.length ≤ 8192 := rA.2.2.2.1.2
  have hdl : (flT A.rs).length ≤ 600 := R.2.2.2.2.2.1.2.2.2.1.2.2.2.2.2.2.2.1
  have tK := R.2.2.2.2.2.1.tK
  refine m_Mo_property (Nat.le_of_ble_eq_true rfl) fun X hl hD hP hA => ?_
  subst hl hD
  refine xgo [29] 60 hA ?_
  refine xcV (mH_m _ _ _) (c_asked2 hM R rA) (by rfl) (by rfl) (by rfl) (Nat.zero_le _) (Nat.zero_le _) ?_
  rintro o h' ⟨S1, rfl, R1, rfl⟩
  refine xcV (mH_m _ _ _) (c_isThere2 R1) (by rfl) (by rfl) (by rfl) (Nat.zero_le _) (Nat.zero_le _) ?_
  rintro o h' ⟨rfl, rfl⟩
  rcases elK_cs A.S hn5 e with ⟨z1, z2⟩ | ⟨k, hk, rfl, z1, z2⟩
  · have ea : aProp A e = (none, A.wTp []) := by unfold aProp; rw [z1]
    rw [ea] at hP
    rw [show decide (0 ≤ e ∧ e ≤ nI (A.wTp []).S.n - 1) = false from z2]
    refine xfn rfl ?_
    refine xcV (mH_m _ _ _) (c_Mo_refuse) (by rfl) (by rfl) (by rfl) (Nat.zero_le _) (Nat.zero_le _) ?_
    rintro o h' ⟨rfl, rfl⟩
    exact xP hP ⟨_, rfl, ⟨rfl, _, rfl⟩, R1.thr _⟩
  obtain ⟨B, hB⟩ : ∃ B, B = (A.wTp []).wOu [] := ⟨_, rfl⟩
  have ea : ∀ q shs, pvl A (aWh A) 20 (k + 1) [] = (q, shs) → aProp A (nI k) = (some (nI (vlO A.ty q shs).1), (A.wTp []).wOu (vlO A.ty q shs).2) := fun q shs h => by
    unfold aProp
    rw [z1]
    show (some (nI (vlO A.ty (pvl A (aWh A) 20 (k + 1) []).1 (pvl A (aWh A) 20 (k + 1) []).2).1), _) = _
    rw [h]
  have BA : ∀ w, B.wOu w = (A.wTp []).wOu w := fun w => by rw [hB]
  rw [show decide (0 ≤ nI k ∧ nI k ≤ nI (A.wTp []).S.n - 1) = true from z2]
  refine xtn (by decide) ?_
  refine yp (by rfl) ?_
  refine yp (by rfl) ?_
  obtain ⟨S2, hS2⟩ : ∃ S2, S2 = s1 (s1 S1 0 0) 4 0 := ⟨_, rfl⟩
  have R2 : mR S2 B := by
    rw [hB]
    refine (R1.thr 0).ou (w := []) (S' := S2) (by rw [hS2]; exact (gF.refl _ _ _).p (by decide)) ⟨by rw [hS2]; rfl, fun k hk => by cases hk⟩
  have rB : AOk B := by
    rw [hB]
    exact ⟨rA.tp0.1, ⟨by show 0 ≤ 16384; omega, fun b hb => by cases hb⟩, rA.2.2⟩
  have t20 : S2.1 0 = 0 := by rw [hS2]; rfl
  suffices this : xG X 29 [(2, .int (aWv A)), (0, .ref M.1), (1, .int (nI k))] [] (mH h0 M S2) 0 0 by
    rw [hS2] at this
    exact this.locs (by simp [nI_zero, nI_one, lv_args, Value.category])
  -- nothing
  have none0 : ∀ (S3 : MS), aProp A (nI k) = (some 0, (A.wTp []).wOu []) → gF [] mtP S2 S3 → X.P (.inl (some (.int 0))) (mH h0 M S3) := by
    intro S3 e3 g3
    rw [e3] at hP
    refine xP hP ⟨_, rfl, ⟨by rw [g3.1 0 (by simp)]; exact t20, rfl⟩, ?_⟩
    have := R2.gd g3
    rw [hB] at this
    exact this
  unfold aWv
  by_cases hw : aWh A < A.ns.length
  rotate_left
  · rw [if_neg hw]
    refine xgo [] 20 hA ?_
    refine xf (by decide) ?_
    refine none0 S2 ?_ (gF.refl _ _ _)
    have : pvl A (aWh A) 20 (k + 1) [] = (none, []) := by
      have : cfx A (aWh A) (k + 1) = none := by
        show (cF A.ts A.ty A.S k (aWh A) A.rs).map _ = none
        rw [cF_no W hw]; rfl
      rw [pvl, this]
    rw [ea _ _ this]
    rfl
  rw [if_pos hw]
  -- what counts for an element
  have eX : ∀ x, bxI (cF B.ts B.ty B.S x (aWh A) B.rs) = pxI (cfx A (aWh A) (x + 1)) := fun x => by
    rw [hB]
    show bxI (cF A.ts A.ty A.S x (aWh A) A.rs) = pxI ((cF A.ts A.ty A.S x (aWh A) A.rs).map (fun q => q.1))
    cases cF A.ts A.ty A.S x (aWh A) A.rs <;> rfl
  have hBn : B.S.n = A.S.n := by rw [hB]
  have inD : ∀ x p, cfx A (aWh A) x = some p → ∃ r, (flT A.rs)[p.2]? = some (p.1, r) := fun x p h => by
    cases x with
    | zero => cases h
    | succ x =>
      have h : (cF A.ts A.ty A.S x (aWh A) A.rs).map (fun q => q.1) = some p := h
      cases hc : cF A.ts A.ty A.S x (aWh A) A.rs with
      | none => rw [hc] at h; cases h
      | some q =>
        rw [hc] at h
        cases h
        exact cF_in hc
  -- what stands of a told one
  have tm : ∀ {S3 : MS}, gF [] mtP S2 S3 → ∀ p : TD × Nat, (∃ r, (flT A.rs)[p.2]? = some (p.1, r)) → p.2 < 600 ∧ vlM S3 20000 A.ty p.2 (p.1.2.1, p.1.2.2.1, p.1.2.2.2.1, p.1.2.2.2.2.1) ∧ tdK A.ty p.1 ∧ sg S3 20000 A.ty := by
    intro S3 g3 p hp
    obtain ⟨r, hr⟩ := hp
    have hpl := (List.getElem?_eq_some_iff.mp hr).1
    obtain ⟨R0, hR0, hd⟩ := flT_at (List.mem_of_getElem? hr)
    have R3 := R2.gd g3
    rw [hB] at R3
    have rY : mrY S3 A.ty A.rs A.ns := R3.2.2.2.2.2.1
    exact ⟨by omega, (rY.2.2.2.1.2.2.2.2.1 p.2 _ hr).2.2.1, tK R0 (List.mem_of_getElem? hR0) _ hd, rY.2.1⟩
  -- behind the way
  have tail : ∀ (S3 : MS) (q : Option (TD × Nat)) (ws : List (TD × Nat)), gF [] mtP S2 S3 → pvl A (aWh A) 20 (k + 1) [] = (q, shL ws) → ws.length ≤ 20 → (∀ i p, ws[i]? = some p → S3.2 83 i = nI p.2 ∧ ∃ r, (flT A.rs)[p.2]? = some (p.1, r)) → (∀ p, q = some p → p.1.2.2.2.2.1 = 0 ∧ ∃ r, (flT A.rs)[p.2]? = some (p.1, r)) → xG X 141 [(5, .int (pxI q)), (3, .int (nI ws.length)), (0, .ref M.1)] [] (mH h0 M S3) 0 0 := by
    intro S3 q ws g3 hv hwl hws hq
    have eA := ea _ _ hv
    cases q with
    | none =>
      refine xgo [] 20 hA ?_
      refine xf (by decide) ?_
      exact none0 S3 (by rw [eA]; rfl) g3
    | some p =>
      obtain ⟨hsh, hr⟩ := hq p rfl
      obtain ⟨i1, i2, i3, i4⟩ := tm g3 p hr
      obtain ⟨v1, v2, v3, v4, v5⟩ := i2
      have v4 : 1 ≤ p.1.2.1 := v4
      have v5 : p.1.2.1 ≤ 3 := v5
      have e72 : S3.2 72 p.2 = nI p.1.2.1 := by
        rw [v1]
        show nI (if 0 < p.1.2.2.2.2.1 then 4 else p.1.2.1) = _
        rw [if_neg (by omega)]
      -- the end
      have fin : ∀ (v : Int64), (p.1.2.1 = 2 → v = lN (shF (shL ws) p.1.2.2.2.1)) → (p.1.2.1 ≠ 2 → shL ws = []) → xG X 246 [(7, .long v), (6, .int (nI p.1.2.1)), (5, .int (nI p.2)), (0, .ref M.1)] [] (mH h0 M S3) 0 0 := by
        intro v h1 h2
        have O3 : mrO S3 [] := by
          have := (R2.gd g3).2.1
          rw [hB] at this
          exact this
        by_cases hk2 : p.1.2.1 = 2
        · have h1 := h1 hk2
          subst h1
          have hlt := shF_lt (shL ws) (v3 hk2).2.1
          have eV : vlO A.ty (some p) (shL ws) = (2, dec7 (shF (shL ws) p.1.2.2.2.1)) := by
            show (if p.1.2.1 = 2 then _ else _) = _
            rw [if_pos hk2]
          rw [eV] at eA
          rw [eA] at hP
          refine xgo [] 40 hA ?_
          refine xfn (by rw [hk2]; rfl) ?_
          refine xcV (mH_m _ _ _) (c_sayNumber2 hM O3 hlt) (by rfl) (by rfl) (by rfl) (Nat.zero_le _) (Nat.zero_le _) ?_
          rintro o h' ⟨S4, rfl, rfl, g4, O4⟩
          refine xP hP ⟨_, rfl, ⟨by rw [g4.1 0 (by decide), g3.1 0 (by simp)]; exact t20, by rw [hk2]⟩, ?_⟩
          have := (R2.gd g3).ou g4 O4
          rw [BA] at this
          exact this
        · have h2 := h2 hk2
          have eV : vlO A.ty (some p) (shL ws) = (p.1.2.1, sub A.ty p.1.2.2.1) := by
            show (if p.1.2.1 = 2 then _ else if shL ws = [] then _ else _) = _
            rw [if_neg hk2, if_pos h2]
          rw [eV] at eA
          rw [eA] at hP
          obtain ⟨u1, u2, u3, u4⟩ := v2 hk2
          have u3 : p.1.2.2.1.1 + p.1.2.2.1.2 ≤ A.ty.length := u3
          refine xgo [] 40 hA ?_
          refine xtn (fun z => hk2 ((nI_eq (b := 2) (by omega) (by decide)).mp z)) ?_
          refine ya (by rfl) ?_
          refine yl (i := p.2) hM (by rfl) rfl i1 ?_
          refine ya (by rfl) ?_
          refine yl (i := p.2) hM (by rfl) rfl i1 ?_
          refine xcV (mH_m _ _ _) (c_say2 (w := sub A.ty p.1.2.2.1) (ou := []) u1 (u2.trans (by rw [sub_len u3])) hM (i4.sub u3) O3 (by have := sub_le A.ty p.1.2.2.1; show 0 + _ ≤ _; omega)) (by rfl) (by rfl) (by rfl) (Nat.zero_le _) (Nat.zero_le _) ?_
          rintro o h' ⟨S4, rfl, rfl, g4, O4⟩
          refine xP hP ⟨_, rfl, ⟨by rw [g4.1 0 (by decide), g3.1 0 (by simp)]; exact t20, rfl⟩, ?_⟩
          have := (R2.gd g3).ou g4 O4
          rw [BA] at this
          exact this
      -- the shares
      have shs : ∀ (j : Nat) (v : Int64), j ≤ ws.length → (p.1.2.1 = 2 → v = lN (shF (shL (ws.drop j)) p.1.2.2.2.1)) → (p.1.2.1 ≠ 2 → shL (ws.drop j) = []) → xG X 172 [(9, .int (mI j)), (7, .long v), (6, .int (nI p.1.2.1)), (5, .int (nI p.2)), (0, .ref M.1)] [] (mH h0 M S3) 0 0 := by
        intro j
        induction j with
        | zero =>
          intro v hj h1 h2
          refine xgo [246] 20 hA ?_
          refine xt (by decide) ?_
          exact (fin v (by simpa using h1) (by simpa using h2)).locs (by simp [nI_zero, nI_one, bI])
        | succ j ih =>
          intro v hj h1 h2
          have hjl : j < ws.length := by omega
          obtain ⟨cc, hc⟩ : ∃ cc, ws[j]? = some cc := ⟨_, List.getElem?_eq_getElem hjl⟩
          obtain ⟨s1', s2'⟩ := hws j cc hc
          obtain ⟨k1, k2, k3, k4⟩ := tm g3 cc s2'
          obtain ⟨w1, w2, w3, w4, w5⟩ := k2
          have w4 : 1 ≤ cc.1.2.1 := w4
          have w5 : cc.1.2.1 ≤ 3 := w5
          have w1 : S3.2 72 cc.2 = nI (if 0 < cc.1.2.2.2.2.1 then 4 else cc.1.2.1) := w1
          have hd : ws.drop j = cc :: ws.drop (j + 1) := by
            rw [List.drop_eq_getElem_cons hjl]
            congr 1
            have := List.getElem?_eq_getElem hjl
            rw [hc] at this
            exact (Option.some.inj this).symm
          have ej : mI (j + 1) = nI j := mI_nI (by omega)
          have e9 : nI j + (-1) = mI j := by
            cases j with
            | zero => rfl
            | succ j => rw [nI_dec (by omega), mI_nI (by omega)]
          -- one down
          have dn : ∀ v', (p.1.2.1 = 2 → v' = lN (shF (shL (ws.drop j)) p.1.2.2.2.1)) → (p.1.2.1 ≠ 2 → shL (ws.drop j) = []) → xG X 240 [(9, .int (nI j)), (7, .long v'), (6, .int (nI p.1.2.1)), (5, .int (nI p.2)), (0, .ref M.1)] [] (mH h0 M S3) 0 0 := by
            intro v' q1 q2
            refine xgo [172] 10 hA ?_
            have q := ih v' (by omega) q1 q2
            rw [← e9] at q
            exact q.locs (by simp [nI_zero, nI_one, bI])
          rw [ej]
          refine xgo [240] 60 hA ?_
          refine xf (nI_neg (by omega)) ?_
          refine ya (by rfl) ?_
          refine ya (by rfl) ?_
          refine yl (i := j) hM (by rfl) rfl (by show j < 24; omega) ?_
          rw [s1']
          refine yl (i := cc.2) hM (by rfl) rfl k1 ?_
          rw [w1]
          by_cases hs : 0 < cc.1.2.2.2.2.1
          rotate_left
          · rw [if_neg hs]
            have esh : shL (ws.drop j) = shL (ws.drop (j + 1)) := by rw [hd, shL_cons, if_neg hs]
            refine xf (fun z => by have := (nI_eq (b := 4) (by omega) (by decide)).mp z; omega) ?_
            exact (dn v (by rw [esh]; exact h1) (by rw [esh]; exact h2)).locs (by simp [nI_zero, nI_one, bI])
          rw [if_pos hs]
          refine xt rfl ?_
          by_cases hk2 : p.1.2.1 = 2
          rotate_left
          · refine xf (fun z => hk2 ((nI_eq (b := 2) (by omega) (by decide)).mp z)) ?_
            refine none0 S3 ?_ g3
            have eV : vlO A.ty (some p) (shL ws) = (0, []) := by
              show (if p.1.2.1 = 2 then _ else if shL ws = [] then _ else _) = _
              rw [if_neg hk2, if_neg (shL_ne (List.mem_of_getElem? hc) hs)]
            rw [eA, eV]; rfl
          refine xt (by rw [hk2]; rfl) ?_
          have c2 : cc.1.2.1 = 2 := by
            apply Classical.byContradiction
            intro z
            have := (w2 z).2.2.2
            have : cc.1.2.2.2.2.1 = 0 := this
            omega
          obtain ⟨x1, x2, x3⟩ := w3 c2
          obtain ⟨x4, x5⟩ := x3 hs
          have x4 : cc.1.2.2.2.2.1 = cc.1.2.2.2.1 := x4
          have x5 : cc.1.2.2.2.2.1 ≤ 1000 := x5
          have x1 : S3.2 75 cc.2 = nI cc.1.2.2.2.1 := x1
          have hV := h1 hk2
          subst hV
          have hlt := shF_lt (shL (ws.drop (j + 1))) (v3 hk2).2.1
          have hlt : shF (shL (ws.drop (j + 1))) p.1.2.2.2.1 < 10000000 := hlt
          refine ya (by rfl) ?_
          refine ya (by rfl) ?_
          refine yl (i := j) hM (by rfl) rfl (by show j < 24; omega) ?_
          rw [s1']
          refine yl (i := cc.2) hM (by rfl) rfl k1 ?_
          rw [x1]
          have hm : shF (shL (ws.drop (j + 1))) p.1.2.2.2.1 * cc.1.2.2.2.1 < 2 ^ 63 := Nat.lt_of_le_of_lt (Nat.mul_le_mul (Nat.le_of_lt hlt) (show cc.1.2.2.2.1 ≤ 1000 by omega)) (by decide)
          have ev : lN (shF (shL (ws.drop (j + 1))) p.1.2.2.2.1) * (nI cc.1.2.2.2.1).toInt64 / 100 = lN (shF (shL (ws.drop (j + 1))) p.1.2.2.2.1 * cc.1.2.2.2.1 / 100) := by
            rw [nI_l (by omega), lN_mul]
            exact pk_lDiv (b := 100) hm (by decide) (by decide)
          have hdl : shF (shL (ws.drop (j + 1))) p.1.2.2.2.1 * cc.1.2.2.2.1 / 100 < 2 ^ 63 := Nat.lt_of_le_of_lt (Nat.div_le_self _ _) hm
          have esh : shF (shL (ws.drop j)) p.1.2.2.2.1 = min (shF (shL (ws.drop (j + 1))) p.1.2.2.2.1 * cc.1.2.2.2.1 / 100) 9999999 := by
            rw [hd, shL_cons, if_pos hs, x4]; rfl
          refine And.intro (by decide) ?_
          rw [ev]
          refine xb (fun c => ?_) (fun c => ?_)
          · have z := (pk_lLE (b := 9999999) hdl (by decide)).mp ((lg_cmp_le _ _).mp c)
            exact (dn _ (fun _ => by rw [esh, Nat.min_eq_left z]) (fun z => absurd hk2 z)).locs (by simp [nI_zero, nI_one, bI])
          · have z : ¬ shF (shL (ws.drop (j + 1))) p.1.2.2.2.1 * cc.1.2.2.2.1 / 100 ≤ 9999999 := fun y => c ((lg_cmp_le _ _).mpr ((pk_lLE (b := 9999999) hdl (by decide)).mpr y))
            exact (dn (lN 9999999) (fun _ => by rw [esh, Nat.min_eq_right (by omega)]) (fun z => absurd hk2 z)).locs (by simp; rfl)
      refine xgo [172] 40 hA ?_
      refine xt (nI_pos' (by show p.2 < 2 ^ 31; omega)) ?_
      refine ya (by rfl) ?_
      refine yl (i := p.2) hM (by rfl) rfl i1 ?_
      rw [e72]
      refine ya (by rfl) ?_
      refine yl (i := p.2) hM (by rfl) rfl i1 ?_
      have e9 : nI ws.length - 1 = mI ws.length := by
        by_cases z : ws.length = 0
        · rw [z]; rfl
        · rw [mI_nI z]; exact nI_sub (b := 1) (by omega)
      have q := shs ws.length (S3.2 75 p.2).toInt64 (Nat.le_refl _) (fun h => by
        rw [List.drop_length, (v3 h).1]
        have := (v3 h).2.1
        exact nI_l (by omega)) (fun _ => by rw [List.drop_length]; rfl)
      rw [← e9] at q
      exact q.locs (by simp [nI_zero, nI_one, pxI])
  -- the way out
  have way : ∀ (m x : Nat) (S3 : MS) (ws : List (TD × Nat)), gF [] mtP S2 S3 → ws.length + m = 20 → x ≤ A.S.n → (x ≠ 0 → A.S.F 5 (x - 1) < m) → pvl A (aWh A) 20 (k + 1) [] = pvl A (aWh A) m x (shL ws) → (∀ i p, ws[i]? = some p → S3.2 83 i = nI p.2 ∧ ∃ r, (flT A.rs)[p.2]? = some (p.1, r)) → xG X 49 [(5, .int (pxI (cfx A (aWh A) x))), (4, .int (mI x)), (3, .int (nI ws.length)), (2, .int (nI (aWh A))), (0, .ref M.1)] [] (mH h0 M S3) 0 0 := by
    intro m
    induction m with
    | zero =>
      intro x S3 ws g3 hm hx h5 hv hws
      have hx0 : x = 0 := by
        apply Classical.byContradiction
        intro z
        have := h5 z
        omega
      subst hx0
      refine xgo [141] 20 hA ?_
      refine xt (by show (-1 : Int32) < 0; decide) ?_
      exact (tail S3 none ws g3 (by rw [hv]; rfl) (by omega) hws (fun p hp => by cases hp)).locs (by simp [nI_zero, nI_one, pxI, cfx])
    | succ m ih =>
      intro x S3 ws g3 hm hx h5 hv hws
      rw [show pvl A (aWh A) (m + 1) x (shL ws) = (match cfx A (aWh A) x with
        | none => (none, shL ws)
        | some p => if lns A.ty p.1 = true then pvl A (aWh A) m (A.S.F 2 (x - 1)) (if 0 < p.1.2.2.2.2.1 then shL ws ++ [p.1.2.2.2.2.1] else shL ws) else (some p, shL ws)) from rfl] at hv
      cases hc : cfx A (aWh A) x with
      | none =>
        rw [hc] at hv
        refine xgo [141] 20 hA ?_
        refine xt (by decide) ?_
        exact (tail S3 none ws g3 hv (by omega) hws (fun p hp => by cases hp)).locs (by simp [nI_zero, nI_one, pxI])
      | some p =>
        rw [hc] at hv
        have hv : pvl A (aWh A) 20 (k + 1) [] = if lns A.ty p.1 = true then pvl A (aWh A) m (A.S.F 2 (x - 1)) (if 0 < p.1.2.2.2.2.1 then shL ws ++ [p.1.2.2.2.2.1] else shL ws) else (some p, shL ws) := hv
        have hx0 : x ≠ 0 := fun z => by rw [z] at hc; cases hc
        have hin := inD x p hc
        obtain ⟨i1, i2, i3, i4⟩ := tm g3 p hin
        obtain ⟨v1, v2, v3, v4, v5⟩ := i2
        have v4 : 1 ≤ p.1.2.1 := v4
        have v5 : p.1.2.1 ≤ 3 := v5
        have v1 : S3.2 72 p.2 = nI (if 0 < p.1.2.2.2.2.1 then 4 else p.1.2.1) := v1
        -- it leans
        have yes : lns A.ty p.1 = true → xG X 100 [(5, .int (nI p.2)), (4, .int (mI x)), (3, .int (nI ws.length)), (2, .int (nI (aWh A))), (0, .ref M.1)] [] (mH h0 M S3) 0 0 := by
          intro hl
          rw [if_pos hl, ← shL_snoc] at hv
          obtain ⟨S4, hS4⟩ : ∃ S4, S4 = s2 S3 83 ws.length (nI p.2) := ⟨_, rfl⟩
          have g4 : gF [] mtP S2 S4 := by
            rw [hS4]
            exact g3.s (by unfold mtP; omega)
          have hws4 : ∀ i c, (ws ++ [p])[i]? = some c → S4.2 83 i = nI c.2 ∧ ∃ r, (flT A.rs)[c.2]? = some (c.1, r) := fun i c hi => by
            by_cases y : i < ws.length
            · rw [List.getElem?_append_left y] at hi
              obtain ⟨a1, a2⟩ := hws i c hi
              refine ⟨?_, a2⟩
              rw [hS4, ← a1]
              have y2 : i ≠ ws.length := by omega
              simp [s2, y2]
            · rw [List.getElem?_append_right (by omega)] at hi
              have h2 := (List.getElem?_eq_some_iff.mp hi).1
              simp only [List.length_singleton] at h2
              have h3 : i = ws.length := by omega
              subst h3
              rw [Nat.sub_self] at hi
              have : p = c := by simpa using hi
              subst this
              exact ⟨by rw [hS4]; simp [s2], hin⟩
          have hF := hSW.2 (x - 1) (by omega)
          obtain ⟨y, hy⟩ : ∃ y, y = A.S.F 2 (x - 1) := ⟨_, rfl⟩
          rw [← hy] at hv hF
          have hyn : y ≤ A.S.n := by omega
          have h5' : y ≠ 0 → A.S.F 5 (y - 1) < m := fun z => by
            have h1 := hF.2.2.1 z
            have h2 := h5 hx0
            omega
          have h14 : ∀ {S5 : MS}, gF [] mtP S2 S5 → S5.2 14 (x - 1) = mI y := fun {S5} g5 => by
            have R5 := R2.gd g5
            rw [hB] at R5
            have := R5.2.2.2.2.1.2.2.1.1 (x - 1) (by show x - 1 < A.S.n; omega)
            obtain ⟨⟨⟨a1, a2, a3, a4, a5, a6⟩, -⟩, -, -⟩ := this
            rw [hy]; exact a3
          refine xgo [49] 60 hA ?_
          refine ya (by rfl) ?_
          refine ys (i := ws.length) hM (by rfl) rfl (by show ws.length < 24; omega) ?_
          rw [← hS4]
          refine ya (by rfl) ?_
          refine yl (i := x - 1) hM (by rfl) (mI_nI hx0) (by show x - 1 < 1000; omega) ?_
          rw [h14 g4, nI_1]
          by_cases y0 : y = 0
          · refine xf (by rw [y0]; decide) ?_
            have q := ih y S4 (ws ++ [p]) g4 (by rw [List.length_append, List.length_singleton]; omega) hyn h5' hv hws4
            rw [List.length_append, List.length_singleton] at q
            rw [y0] at q ⊢
            exact q.locs (by simp [nI_zero, nI_one, pxI, cfx])
          · refine xt (mI_pos y0 (by omega)) ?_
            rw [mI_nI y0]
            refine xcV (mH_m _ _ _) (c_counts2 (e := y - 1) (nm := aWh A) hM (R2.gd g4) rB (by rw [hBn]; omega) (by omega)) (by rfl) (by rfl) (by rfl) (Nat.zero_le _) (Nat.zero_le _) ?_
            rintro o h' ⟨S5, rfl, g5, rfl⟩
            rw [eX]
            have q := ih y S5 (ws ++ [p]) (g4.tr (ctP.m g5) (by simp) (fun _ _ z => z)) (by rw [List.length_append, List.length_singleton]; omega) hyn h5' hv (fun i c hi => by
              obtain ⟨a1, a2⟩ := hws4 i c hi
              exact ⟨by rw [g5.2 83 i (by unfold ctP; omega)]; exact a1, a2⟩)
            rw [List.length_append, List.length_singleton] at q
            rw [show y - 1 + 1 = y by omega]
            exact q.locs (by simp [nI_zero, nI_one, mI_nI y0])
        -- it doesn't
        have no : lns A.ty p.1 = false → xG X 141 [(5, .int (nI p.2)), (4, .int (mI x)), (3, .int (nI ws.length)), (2, .int (nI (aWh A))), (0, .ref M.1)] [] (mH h0 M S3) 0 0 := by
          intro hl
          rw [if_neg (by rw [hl]; decide)] at hv
          refine (tail S3 (some p) ws g3 hv (by omega) hws (fun c hc => by
            cases hc
            refine ⟨?_, hin⟩
            unfold lns at hl
            simp only [Bool.or_eq_false_iff, decide_eq_false_iff_not] at hl
            omega)).locs (by simp [nI_zero, nI_one, pxI])
        refine xgo [100, 141] 60 hA ?_
        refine xf (nI_neg (by show p.2 < 2 ^ 31; omega)) ?_
        refine ya (by rfl) ?_
        refine yl (i := p.2) hM (by rfl) rfl i1 ?_
        rw [v1]
        by_cases hs : 0 < p.1.2.2.2.2.1
        · rw [if_pos hs]
          refine xt rfl ?_
          exact (yes (by unfold lns; rw [decide_eq_true hs]; rfl)).locs (by simp [nI_zero, nI_one, pxI])
        rw [if_neg hs]
        refine xf (fun z => by have := (nI_eq (b := 4) (by omega) (by decide)).mp z; omega) ?_
        refine ya (by rfl) ?_
        refine yl (i := p.2) hM (by rfl) rfl i1 ?_
        rw [v1, if_neg hs]
        by_cases hk1 : p.1.2.1 = 1
        rotate_left
        · refine xtn (fun z => hk1 ((nI_eq (b := 1) (by omega) (by decide)).mp z)) ?_
          exact (no (by unfold lns; rw [decide_eq_false hs, decide_eq_false hk1]; rfl)).locs (by simp [nI_zero, nI_one, pxI])
        refine xfn (by rw [hk1]; rfl) ?_
        obtain ⟨u1, u2, u3, u4⟩ := v2 (by show p.1.2.1 ≠ 2; omega)
        have u3 : p.1.2.2.1.1 + p.1.2.2.1.2 ≤ A.ty.length := u3
        refine ya (by rfl) ?_
        refine yl (i := p.2) hM (by rfl) rfl i1 ?_
        refine ya (by rfl) ?_
        refine yl (i := p.2) hM (by rfl) rfl i1 ?_
        refine xcV (mH_m _ _ _) (c_isWordV (w := sub A.ty p.1.2.2.1) (u := wUp) u1 (u2.trans (by rw [sub_len u3])) hM (i4.sub u3) (by rfl) (by decide) (by decide) (i3 hk1) (by have := sub_le A.ty p.1.2.2.1; omega)) (by rfl) (by rfl) (by rfl) (Nat.zero_le _) (Nat.zero_le _) ?_
        rintro o h' ⟨rfl, rfl⟩
        refine xb (fun c => ?_) (fun c => ?_)
        · have n := (bI_0 _).mp c
          exact (no (by unfold lns; rw [decide_eq_false hs, n, Bool.and_false]; rfl)).locs (by simp [nI_zero, nI_one, pxI])
        · have n := (bI_n0 _).mp c
          exact (yes (by unfold lns; rw [decide_eq_true hk1, n]; simp)).locs (by simp [nI_zero, nI_one, pxI])
  refine xgo [49] 30 hA ?_
  refine xt (nI_pos' (by omega)) ?_
  refine xcV (mH_m _ _ _) (c_counts2 (e := k) (nm := aWh A) hM R2 rB (by rw [hBn]; exact hk) (by omega)) (by rfl) (by rfl) (by rfl) (Nat.zero_le _) (Nat.zero_le _) ?_
  rintro o h' ⟨S3, rfl, g3, rfl⟩
  rw [eX]
  exact (way 20 (k + 1) S3 [] (ctP.m g3) rfl hk (fun _ => (hSW.2 k hk).1.2.2) rfl (fun i p hi => by cases hi)).locs (by simp [nI_zero, nI_one, mI])
end
