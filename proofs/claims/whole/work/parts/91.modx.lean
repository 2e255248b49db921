/-! THE REFERENCE, 24: fits, select -/
def gSel (u : List ST) : Prop := u ≠ [] ∧ lkOk u
theorem pSteps_g {t : List Nat} : ∀ (n i lk : Nat) (ss u : List ST) (j : Nat), (ss ≠ [] → isLk lk = true) → lkOk ss → pSteps t n i lk ss = .ok (u, j) → gSel u
  | 0, i, lk, ss, u, j, _, _, h => by cases h
  | n + 1, i, lk, ss, u, j, hlk, hss, h => by
    rw [pSteps] at h
    obtain ⟨s, k, e1, e2⟩ := pB_inv h
    have hs : s.2.1 = lk := by
      unfold pStep at e1
      obtain ⟨nm, k1, -, e3⟩ := pB_inv e1
      obtain ⟨cs, k2, -, e4⟩ := pB_inv e3
      cases e4; rfl
    have hss2 : lkOk (ss ++ [s]) := fun i st hi hq => by
      by_cases z : i < ss.length
      · rw [List.getElem?_append_left z] at hq; exact hss i st hi hq
      · rw [List.getElem?_append_right (by omega)] at hq
        have h2 := (List.getElem?_eq_some_iff.mp hq).1
        simp only [List.length_singleton] at h2
        have h3 : i - ss.length = 0 := by omega
        rw [h3] at hq
        have : s = st := by simpa using hq
        subst this
        rw [hs]
        exact hlk (fun y => by rw [y] at h3; simp at h3; omega)
    split at e2
    · rename_i hl
      exact pSteps_g n _ _ _ u j (fun _ => hl) hss2 e2
    · cases e2; exact ⟨by simp, hss2⟩
theorem pSel_g {t : List Nat} {i : Nat} {u : List ST} {j : Nat} (h : pSel t i = .ok (u, j)) : gSel u := pSteps_g 8 i 256 [] u j (fun z => absurd rfl z) (fun i st _ hi => by cases hi) h
theorem pSels_g {t : List Nat} : ∀ (n i c : Nat) (ls r : List (List ST)) (j : Nat), (∀ u ∈ ls, gSel u) → pSels t n i c ls = .ok (r, j) → ∀ u ∈ r, gSel u
  | 0, i, c, ls, r, j, hls, h => by cases h; exact hls
  | n + 1, i, c, ls, r, j, hls, h => by
    rw [pSels] at h
    split at h
    · cases h
    · obtain ⟨u, k, e1, e2⟩ := pB_inv h
      have h2 : ∀ q ∈ ls ++ [u], gSel q := fun q hq => by
        rcases List.mem_append.mp hq with z | z
        · exact hls q z
        · rw [List.mem_singleton.mp z]; exact pSel_g e1
      split at e2
      · exact pSels_g n _ _ _ r j h2 e2
      · cases e2; exact h2
theorem pRules_g {t : List Nat} : ∀ (n i : Nat) (Y Y' : YS) (j : Nat), (∀ R ∈ Y.ru, ∀ u ∈ R.1, gSel u) → pRules t n i Y = .ok (Y', j) → ∀ R ∈ Y'.ru, ∀ u ∈ R.1, gSel u
  | 0, i, Y, Y', j, hY, h => by cases h; exact hY
  | n + 1, i, Y, Y', j, hY, h => by
    rw [pRules] at h
    split at h
    · cases h; exact hY
    · obtain ⟨Y2, k, e1, e2⟩ := pB_inv h
      refine pRules_g n _ Y2 Y' j ?_ e2
      unfold pRule at e1
      obtain ⟨ls, k1, e3, e4⟩ := pB_inv e1
      obtain ⟨_, k2, -, e5⟩ := pB_inv e4
      obtain ⟨q, k3, -, e6⟩ := pB_inv e5
      obtain ⟨_, k4, -, e7⟩ := pB_inv e6
      cases e7
      intro R hR
      rcases List.mem_append.mp hR with z | z
      · exact hY R z
      · rw [List.mem_singleton.mp z]
        exact pSels_g _ _ _ [] ls k1 (fun u hu => by cases hu) e3
theorem mrY.gS {S : MS} {ty : List Nat} {rs : List RU} {ns : List (Nat × Nat)} (H : mrY S ty rs ns) : ∀ R ∈ rs, ∀ u ∈ R.1, gSel u := by
  obtain ⟨-, -, -, -, Y, j, e, h1, -⟩ := H
  subst h1
  exact pRules_g _ _ YS0 Y j (fun R hR => by cases hR) e
theorem flS_mem {rs : List RU} {q : List ST × Nat} (h : q ∈ flS rs) : ∃ R ∈ rs, q.1 ∈ R.1 := by
  have h2 : q.1 ∈ ssOf rs := by rw [← flS_ss]; exact List.mem_map_of_mem h
  unfold ssOf at h2
  obtain ⟨L, hL, h3⟩ := List.mem_flatten.mp h2
  obtain ⟨R, hR, rfl⟩ := List.mem_map.mp hL
  exact ⟨R, hR, h3⟩
/-- the rows that matching writes -/
def mtP (k _i : Nat) : Prop := 80 ≤ k ∧ k ≤ 83
theorem mR.gd {S S' : MS} {A : AS} (R : mR S A) (g : gF [] mtP S S') : mR S' A := by
  obtain ⟨rT, rO, rF, rP, rS, rY, rss⟩ := R
  have n : ∀ {k i}, k < 80 → ¬ mtP k i := fun h z => by unfold mtP at z; omega
  exact ⟨rT.gf g (by rfl) (fun i => n (by decide)), rO.gf g (by rfl) (fun i => n (by decide)), rF.gf g (by rfl) (fun i => n (by decide)), by rw [g.1 5 (by decide)]; exact rP, rS.gf g (by rfl) (fun k i _ h => n (by omega)) (fun i _ => n (by decide)), rY.gf g (by rfl) (by rfl) (fun k i _ h => n (by omega)) (fun i _ _ => n (by decide)), rss⟩
theorem gdP.m {S S' : MS} (g : gF [] gdP S S') : gF [] mtP S S' := g.wk (by simp) (fun k i z => by unfold gdP at z; unfold mtP; omega)
theorem stR.pre {S : MS} {b : Nat} {t : List Nat} {bs : List (List ST × Nat)} {ds : List (TD × Nat)} {ns : List (Nat × Nat)} (H : stR S b t bs ds ns) : ∃ k n, S.1 51 = nI k ∧ S.1 52 = nI n ∧ k ≤ 960 ∧ n ≤ 4 * k ∧ ∀ S' : MS, (∀ j ∈ [50, 51, 52, 68, 69], S'.1 j = S.1 j) → (∀ j i, 53 ≤ j → j ≤ 78 → ¬ slP k n 121 j i → S'.2 j i = S.2 j i) → stR S' b t bs ds ns := by
  obtain ⟨e1, e2, e3, ⟨k, n, e4, e5, e6, e7, e8⟩, e9, e10, e11, e12, e13⟩ := H
  refine ⟨k, n, e4, e5, by omega, e7, fun S' e h2 => ?_⟩
  refine ⟨by rw [e 50 (by decide)]; exact e1, by rw [e 68 (by decide)]; exact e2, by rw [e 69 (by decide)]; exact e3, ⟨k, n, by rw [e 51 (by decide)]; exact e4, by rw [e 52 (by decide)]; exact e5, e6, e7, fun i q hq => ?_⟩, e9.eq (fun k i a1 a2 _ => h2 k i (by omega) (by omega) (by unfold slP stP; omega)), e10.eq (fun k i a1 a2 _ => h2 k i (by omega) (by omega) (by unfold slP stP; omega)), e11, e12, e13⟩
  obtain ⟨w1, w2, f, w3, w4⟩ := e8 i q hq
  have hi := (List.getElem?_eq_some_iff.mp hq).1
  exact ⟨by rw [h2 55 i (by decide) (by decide) (by unfold slP stP; omega)]; exact w1, w2, f, w3.eq (fun j i hj => h2 j i (by omega) (by omega) (by unfold slP stP; omega)), w4⟩
section
variable {l : Launch} {D : xD} {h0 : xH} {M : MA} {S : MS}
set_option maxRecDepth 20000 in
theorem c_selOf2 {A : AS} {si e : Nat} {q : List ST × Nat} (hM : mok M) (R : mR S A) (hq : (flS A.rs)[si]? = some q) (he : e < A.S.n) : xMet l D 4 y_Mo_selectorFits [.ref M.1, .int (nI si), .int (nI e)] (mH h0 M S) 0 0 (fun o h' => ∃ S', h' = mH h0 M S' ∧ gF [] gdP S S' ∧ o = .inl (some (.int (bI (mt A.ts A.ty A.S q.1 e))))) := by
  obtain ⟨rT, rO, rF, rP, rS, rY, rss⟩ := id R
  obtain ⟨y1, y2, y3, ⟨z1, z2, z3, ⟨k, n, z4, z5, z6, z7, z8⟩, z9, z10, z11, z12, z13⟩, y5⟩ := id rY
  obtain ⟨w1, w2, f, w3, w4⟩ := z8 si q hq
  obtain ⟨R0, hR0, hu⟩ := flS_mem (List.mem_of_getElem? hq)
  obtain ⟨g1, g2⟩ := rY.gS R0 hR0 _ hu
  have hsl := (List.getElem?_eq_some_iff.mp hq).1
  exact c_selectorFits2 rfl hM rS he y2 w3 (by omega) g1 g2 (by omega) (by omega)
set_option maxRecDepth 20000 in
theorem c_fits2 {A : AS} {s e : Int32} (hM : mok M) (R : mR S A) : xMet l D 5 y_Mo_fits [.ref M.1, .int s, .int e] (mH h0 M S) 0 0 (fun o h' => ∃ S', h' = mH h0 M S' ∧ oM (aFits A s e) S' o ∧ mR S' A) := by
  obtain ⟨rT, rO, rF, rP, rS, rY, rss⟩ := id R
  have hn5 : A.S.n ≤ 500 := rS.2.2.2.2.2.1.1
  have h50 : S.1 50 = nI (flS A.rs).length := rY.2.2.2.1.1
  have hl : (flS A.rs).length ≤ 120 := rY.2.2.2.1.2.2.2.2.2.2.1
  have hls : A.ss.length = (flS A.rs).length := by rw [rss, flS_len]
  refine m_Mo_fits (Nat.le_of_ble_eq_true rfl) fun X hl hD hP hA => ?_
  subst hl hD
  have bad : aFits A s e = none → xG X 22 [(0, .ref M.1)] [] (mH h0 M S) 0 0 := by
    intro ea
    rw [ea] at hP
    refine xgo [] 30 hA ?_
    refine xcV (mH_m _ _ _) (c_Mo_refuse) (by rfl) (by rfl) (by rfl) (Nat.zero_le _) (Nat.zero_le _) ?_
    rintro o h' ⟨rfl, rfl⟩
    exact xP hP ⟨_, rfl, ⟨rfl, _, rfl⟩, R.thr _⟩
  refine xgo [22] 60 hA ?_
  refine yg (by rfl) ?_
  rw [h50]
  refine xcS (c_Mo_in) (by rfl) (by rfl) (by rfl) (Nat.zero_le _) (Nat.zero_le _) ?_
  rintro o h' ⟨rfl, rfl⟩
  rcases pk_ix s (n := (flS A.rs).length) (by omega) with z | z | ⟨j, hj, rfl⟩
  · rw [decide_eq_false (in_no (by omega) (Or.inl z))]
    refine xt rfl ?_
    refine (bad ?_).locs (by simp [nI_zero, nI_one, lv_args])
    unfold aFits
    rw [slK_none (fun k hk y => by rw [y] at z; exact nI_neg (by omega) z)]; rfl
  · rw [decide_eq_false (in_no (by omega) (Or.inr z))]
    refine xt rfl ?_
    refine (bad ?_).locs (by simp [nI_zero, nI_one, lv_args])
    unfold aFits
    rw [slK_none (fun k hk y => by rw [y] at z; have := (nI_leI (by omega) (by omega)).mp z; omega)]; rfl
  rw [decide_eq_true (in_lt hj (by omega))]
  refine xf (by decide) ?_
  refine xcV (mH_m _ _ _) (c_isThere2 R) (by rfl) (by rfl) (by rfl) (Nat.zero_le _) (Nat.zero_le _) ?_
  rintro o h' ⟨rfl, rfl⟩
  have hq := List.getElem?_eq_getElem hj
  have e1 : A.ss[j]? = some (flS A.rs)[j].1 := by rw [rss, ← flS_ss, List.getElem?_map, hq]; rfl
  have e2 : slK A.ss (nI j) = some (flS A.rs)[j].1 := by
    rw [slK_some (by omega) (show j < A.ss.length by omega), ← List.getElem?_eq_getElem]
    exact e1
  rcases elK_cs A.S hn5 e with ⟨z1, z2⟩ | ⟨k, hk, rfl, z1, z2⟩
  · rw [z2]
    refine xfn rfl ?_
    refine (bad ?_).locs (by simp [nI_zero, nI_one, lv_args])
    unfold aFits
    rw [e2, z1]; rfl
  rw [z2]
  refine xtn (by decide) ?_
  refine yp (by rfl) ?_
  have ea : aFits A (nI j) (nI k) = some (bI (mt A.ts A.ty A.S (flS A.rs)[j].1 k)) := by
    unfold aFits
    rw [e2, z1]; rfl
  rw [ea] at hP
  refine xcV (mH_m _ _ _) (c_selOf2 hM (R.thr 0) hq hk) (by rfl) (by rfl) (by rfl) (Nat.zero_le _) (Nat.zero_le _) ?_
  rintro o h' ⟨S2, rfl, g2, rfl⟩
  have t2 : S2.1 0 = 0 := by rw [g2.1 0 (by simp)]; rfl
  refine xb (fun c => ?_) (fun c => ?_)
  · exact xP hP ⟨_, rfl, ⟨t2, by rw [(bI_0 _).mp c]; rfl⟩, (R.thr 0).gd (gdP.m g2)⟩
  · exact xP hP ⟨_, rfl, ⟨t2, by rw [(bI_n0 _).mp c]; rfl⟩, (R.thr 0).gd (gdP.m g2)⟩
set_option maxRecDepth 20000 in
theorem c_select2 {A : AS} (hM : mok M) (R : mR S A) (rA : AOk A) : xMet l D 6 y_Mo_select [.ref M.1] (mH h0 M S) 0 0 (fun o h' => ∃ S', h' = mH h0 M S' ∧ oM (aSelect A).1 S' o ∧ mR S' (aSelect A).2) := by
  obtain ⟨rT, rO, rF, rP, rS, rY, rss⟩ := id R
  obtain ⟨y79, yts, ylen, yR, yP⟩ := id rY
  obtain ⟨⟨tl, tb⟩, rA2⟩ := id rA
  have hn5 : A.S.n ≤ 500 := rS.2.2.2.2.2.1.1
  obtain ⟨k, n, e51, e52, hk, hn, pre⟩ := yR.pre
  -- all that may change
  obtain ⟨Q, hQ⟩ : ∃ Q : Nat → Nat → Prop, Q = fun j i => (j = 7 ∧ 30000 ≤ i) ∨ slP k n 121 j i ∨ j = 43 ∨ j = 80 ∨ j = 81 := ⟨_, rfl⟩
  have LL : ∀ {S9 : MS} {fo : List Nat} {aw : Nat} {pl : Option Nat}, gF [0, 2, 5, 6, 8, 9, 42, 45, 46, 47, 48, 49, 51, 52, 84] Q S S9 → S9.1 51 = nI k → S9.1 52 = nI n → tpR S9 [] → mrF S9 fo aw → S9.1 5 = plI pl → mR S9 (([], A.ou, fo, aw, pl), A.2) := by
    intro S9 fo aw pl g a51 a52 aT aF aP
    subst hQ
    refine ⟨aT, rO.gf g (by rfl) (fun i z => by unfold slP stP at z; omega), aF, aP, rS.gf g (by rfl) (fun k i _ _ z => by unfold slP stP at z; omega) (fun i _ z => by unfold slP stP at z; omega), ⟨by rw [g.1 79 (by decide)]; exact y79, yts.eq (fun i h1 h2 => g.2 7 i (by unfold slP stP; omega)), ylen, pre S9 (fun j hj => ?_) (fun j i h1 h2 h3 => g.2 j i (by
      rintro (z | z | z)
      · omega
      · exact h3 z
      · omega)), yP⟩, rss⟩
    simp only [List.mem_cons, List.not_mem_nil, or_false] at hj
    rcases hj with rfl | rfl | rfl | rfl | rfl
    · exact g.1 50 (by decide)
    · rw [a51, e51]
    · rw [a52, e52]
    · exact g.1 68 (by decide)
    · exact g.1 69 (by decide)
  refine m_Mo_select (Nat.le_of_ble_eq_true rfl) fun X hl hD hP hA => ?_
  subst hl hD
  refine xgo [22] 60 hA ?_
  refine xcV (mH_m _ _ _) (c_Mo_take (b := 30000) hM rT tb (by decide)) (by rfl) (by rfl) (by rfl) (Nat.zero_le _) (Nat.zero_le _) ?_
  rintro o h' ⟨S2, rfl, rfl, f2, X2, T2, hf2, hk2⟩
  have g2 : gF [2, 6, 8, 9] Q S S2 := ⟨f2.1, fun j i h => by
    by_cases z : j = 7
    · subst z
      exact hk2 i (by
        have : ¬ (30000 ≤ i) := fun y => h (by rw [hQ]; exact Or.inl ⟨rfl, y⟩)
        omega)
    · rw [f2.2 j (by simpa using z)]⟩
  refine yg (by rfl) ?_
  refine yg (by rfl) ?_
  refine yp (by rfl) ?_
  rw [g2.1 51 (by decide), g2.1 52 (by decide), e51, e52]
  obtain ⟨S3, hS3⟩ : ∃ S3, S3 = s1 S2 47 0 := ⟨_, rfl⟩
  have g3 : gF [47] (fun _ _ => False) S2 S3 := by rw [hS3]; exact (gF.refl _ _ _).p (by decide)
  have gg3 : gF [2, 6, 8, 9, 45, 46, 47, 48, 49, 51, 52] Q S S3 := (g2.wk (by decide) (fun _ _ z => z)).tr g3 (by decide) (fun _ _ z => z.elim)
  suffices this : xG X 22 [(2, .int (nI n)), (1, .int (nI k)), (0, .ref M.1)] [] (mH h0 M S3) 0 0 by
    rw [hS3] at this
    exact this
  refine xgo [55] 60 hA ?_
  refine xcV (mH_m _ _ _) (c_Mo_nextA (p := 0) (e := 0) hM (X2.gf g3 (by decide) (fun _ _ _ z => z)) (by rw [hS3, s1_eq]; rfl) (by rw [g3.1 6 (by decide)]; exact hf2) (by omega)) (by rfl) (by rfl) (by rfl) (Nat.zero_le _) (Nat.zero_le _) ?_
  rintro o h' ⟨S4, rfl, rfl, f4, A4⟩
  have gg4 : gF [2, 6, 8, 9, 45, 46, 47, 48, 49, 51, 52] Q S S4 := gg3.tr f4.g0 (by decide) (fun _ _ z => z)
  refine xcV (mH_m _ _ _) (c_selector2 (s := 121) (k := k) (n := n) hM A4 (by decide) (by rw [f4.1 51 (by decide), g3.1 51 (by decide), g2.1 51 (by decide)]; exact e51) (by rw [f4.1 52 (by decide), g3.1 52 (by decide), g2.1 52 (by decide)]; exact e52) hk hn) (by rfl) (by rfl) (by rfl) (Nat.zero_le _) (Nat.zero_le _) ?_
  rintro o h' ⟨S5, rfl, rfl, g5, R5⟩
  have gg5 : gF [2, 6, 8, 9, 45, 46, 47, 48, 49, 51, 52] Q S S5 := gg4.tr g5 (by decide) (fun j i z => by rw [hQ]; exact Or.inr (Or.inl z))
  have T5 : tpR S5 [] := ((T2.gf g3 (by rfl) (fun _ z => z)).gf (f4.g0 (P := fun _ _ => False)) (by rfl) (fun _ z => z)).gf g5 (by rfl) (fun i z => by unfold slP stP at z; omega)
  -- an error
  have bad : ∀ (w : Nat) (S6 : MS), pAsk A.tp = .error w → w ≤ A.tp.length + 1 → gF [6] (fun _ _ => False) S5 S6 → S6.1 6 = nI w → xG X 55 [(2, .int (nI n)), (1, .int (nI k)), (0, .ref M.1)] [] (mH h0 M S6) 0 0 := by
    intro w S6 ew hw g6 h6
    have ea : aSelect A = (none, A.wTk.wPl (some w)) := by unfold aSelect; rw [ew]
    rw [ea] at hP
    refine xgo [] 60 hA ?_
    refine yg (by rfl) ?_
    refine yp (by rfl) ?_
    refine yg (by rfl) ?_
    refine xt (by show (0 : Int32) ≤ S6.1 6; rw [h6]; exact nI_pos' (by omega)) ?_
    refine yp (by rfl) ?_
    refine yp (by rfl) ?_
    refine yg (by rfl) ?_
    refine xf (by show ¬ S6.1 6 < 0; rw [h6]; exact nI_neg (by omega)) ?_
    refine xcV (mH_m _ _ _) (c_Mo_refuse) (by rfl) (by rfl) (by rfl) (Nat.zero_le _) (Nat.zero_le _) ?_
    rintro o h' ⟨rfl, rfl⟩
    obtain ⟨S9, hS9⟩ : ∃ S9, S9 = s1 (s1 (s1 (s1 S6 5 (S6.1 6)) 51 (nI k)) 52 (nI n)) 0 1 := ⟨_, rfl⟩
    have g9 : gF [0, 5, 51, 52] (fun _ _ => False) S6 S9 := by
      rw [hS9]
      exact ((((gF.refl _ _ _).p (by decide)).p (by decide)).p (by decide)).p (by decide)
    have gg9 : gF [0, 2, 5, 6, 8, 9, 42, 45, 46, 47, 48, 49, 51, 52, 84] Q S S9 := ((gg5.wk (by decide) (fun _ _ z => z)).tr g6 (by decide) (fun _ _ z => z.elim)).tr g9 (by decide) (fun _ _ z => z.elim)
    refine xP hP ⟨S9, by rw [hS9], ⟨by rw [hS9]; rfl, _, rfl⟩, ?_⟩
    refine LL (fo := A.fo) (aw := A.aw) (pl := some w) gg9 (by rw [hS9]; rfl) (by rw [hS9]; rfl) ((T5.gf g6 (by rfl) (fun _ z => z)).gf g9 (by rfl) (fun _ z => z)) ?_ (by rw [hS9]; exact h6)
    have gF2 : gF [2, 6, 8, 9] (fun j _ => j ≠ 43) S S2 := ⟨f2.1, fun j i h => by rw [f2.2 j (by simp at h; simp [h])]⟩
    have gF5 : gF [2, 6, 8, 9, 45, 46, 47, 48, 49, 51, 52] (fun j _ => j ≠ 43) S S5 := (((gF2.wk (by decide) (fun _ _ z => z)).tr g3 (by decide) (fun _ _ z => z.elim)).tr f4.g0 (by decide) (fun _ _ z => z)).tr g5 (by decide) (fun j i z => by unfold slP stP at z; omega)
    exact ((rF.gf gF5 (by rfl) (fun i z => z rfl)).gf g6 (by rfl) (fun _ z => z)).gf g9 (by rfl) (fun _ z => z)
  cases hq : pSel A.tp 0 with
  | error w =>
    rw [hq] at R5
    obtain ⟨q1, q2, q3, -⟩ := R5
    refine yg (by rfl) ?_
    rw [q2]
    refine xt (nI_pos' (by omega)) ?_
    exact (bad w S5 (by unfold pAsk; rw [pB_er hq]) q3 (gF.refl _ _ _) q2).locs (by simp [nI_zero, nI_one, bI])
  | ok q =>
    obtain ⟨u, j⟩ := q
    rw [hq] at R5
    obtain ⟨A5, hu8, u51, n', u52, hn1, hn2, W5⟩ := R5
    obtain ⟨q1, ⟨p1, p2, p3, p4, p5⟩, hf5, hj⟩ := id A5
    have eAsk : pAsk A.tp = if ch A.tp (scan bl A.tp j) = 256 then .ok (u, j) else .error (scan bl A.tp j) := by unfold pAsk; rw [pB_ok hq]
    refine yg (by rfl) ?_
    rw [hf5]
    refine xf (by decide) ?_
    refine yg (by rfl) ?_
    rw [p3]
    have h5 := tkK_5 (t := A.tp) (s := scan bl A.tp j)
    have hkk : tkK A.tp (scan bl A.tp j) < 2 ^ 31 := by
      unfold tkK
      repeat (first | split | decide)
    by_cases z : ch A.tp (scan bl A.tp j) = 256
    rotate_left
    · refine xf (fun y => z (h5.mp ((nI_eq hkk (by decide)).mp y))) ?_
      refine yg (by rfl) ?_
      rw [p1]
      refine xcV (mH_m _ _ _) (c_Mo_wrong hf5) (by rfl) (by rfl) (by rfl) (Nat.zero_le _) (Nat.zero_le _) ?_
      rintro o h' ⟨rfl, rfl⟩
      exact (bad _ (s1 S5 6 (nI (scan bl A.tp j))) (by rw [eAsk, if_neg z]) (by have := scan_le1 (p := bl) hj; omega) ((gF.refl _ _ _).p (by decide)) rfl).locs (by simp [nI_zero, nI_one, bI])
    refine xt (by rw [h5.mpr z]; rfl) ?_
    rw [if_pos z] at eAsk
    have ea : aSelect A = (some (nI ((List.range A.S.n).filter (mt A.ts A.tp A.S u)).length), A.wTk.wFo ((List.range A.S.n).filter (mt A.ts A.tp A.S u)) (wgt u)) := by unfold aSelect; rw [eAsk]
    rw [ea] at hP
    obtain ⟨gs1, gs2⟩ := pSel_g hq
    have G5 : sg S5 30000 A.tp := sg_tx q1
    have loop : ∀ (m x : Nat) (S6 : MS), x + m = A.S.n → gF [5, 42] (fun j _ => j = 43 ∨ j = 80 ∨ j = 81) S5 S6 → S6.1 5 = -1 → S6.1 42 = nI ((List.range x).filter (mt A.ts A.tp A.S u)).length → (∀ i q, ((List.range x).filter (mt A.ts A.tp A.S u))[i]? = some q → S6.2 43 i = nI q) → xG X 77 [(3, .int (nI x)), (2, .int (nI n)), (1, .int (nI k)), (0, .ref M.1)] [] (mH h0 M S6) 0 0 := by
      intro m
      induction m with
      | zero =>
        intro x S6 hx g6 h65 h42 h43
        have ex : x = A.S.n := by omega
        subst ex
        have e10 : S6.1 10 = nI A.S.n := by rw [g6.1 10 (by decide), gg5.1 10 (by decide)]; exact rS.1.1
        have e6 : S6.1 6 = -1 := by rw [g6.1 6 (by decide)]; exact hf5
        have e56 : S6.2 56 121 = nI (wgt u) := by rw [g6.2 56 121 (by decide)]; exact W5.2.2.1
        refine xgo [] 60 hA ?_
        refine yg (by rfl) ?_
        rw [e10]
        refine xt (Int32.le_refl _) ?_
        refine ya (by rfl) ?_
        refine yl (i := 121) hM (by rfl) rfl (by decide) ?_
        rw [e56]
        refine yp (by rfl) ?_
        refine yp (by rfl) ?_
        refine yp (by rfl) ?_
        refine yg (by rfl) ?_
        refine xt (by show S6.1 6 < 0; rw [e6]; decide) ?_
        refine yp (by rfl) ?_
        refine yg (by rfl) ?_
        obtain ⟨S9, hS9⟩ : ∃ S9, S9 = s1 (s1 (s1 (s1 S6 84 (nI (wgt u))) 51 (nI k)) 52 (nI n)) 0 0 := ⟨_, rfl⟩
        have g9 : gF [0, 51, 52, 84] (fun _ _ => False) S6 S9 := by
          rw [hS9]
          exact ((((gF.refl _ _ _).p (by decide)).p (by decide)).p (by decide)).p (by decide)
        have gg9 : gF [0, 2, 5, 6, 8, 9, 42, 45, 46, 47, 48, 49, 51, 52, 84] Q S S9 := ((gg5.wk (by decide) (fun _ _ z => z)).tr g6 (by decide) (fun j i z => by rw [hQ]; exact Or.inr (Or.inr z))).tr g9 (by decide) (fun _ _ z => z.elim)
        refine xP hP ⟨S9, by rw [hS9], ⟨by rw [hS9]; rfl, ?_⟩, ?_⟩
        · rw [← h42]; rfl
        · exact LL (pl := none) gg9 (by rw [hS9]; rfl) (by rw [hS9]; rfl) ((T5.gf g6 (by rfl) (fun i z => by omega)).gf g9 (by rfl) (fun _ z => z)) ⟨by rw [g9.1 42 (by decide)]; exact h42, fun i q hq => by rw [g9.2 43 i (fun z => z)]; exact h43 i q hq, by rw [hS9]; rfl⟩ (by rw [g9.1 5 (by decide), h65]; rfl)
      | succ m ih =>
        intro x S6 hx g6 h65 h42 h43
        have e10 : S6.1 10 = nI A.S.n := by rw [g6.1 10 (by decide), gg5.1 10 (by decide)]; exact rS.1.1
        have rS6 : mrS S6 A.ts A.S := by
          have gg6 : gF [2, 5, 6, 8, 9, 42, 45, 46, 47, 48, 49, 51, 52] Q S S6 := (gg5.wk (by decide) (fun _ _ z => z)).tr g6 (by decide) (fun j i z => by rw [hQ]; exact Or.inr (Or.inr z))
          rw [hQ] at gg6
          exact rS.gf gg6 (by rfl) (fun k i _ _ z => by unfold slP stP at z; omega) (fun i _ z => by unfold slP stP at z; omega)
        have hfl : ((List.range x).filter (mt A.ts A.tp A.S u)).length ≤ x := by
          have := List.length_filter_le (mt A.ts A.tp A.S u) (List.range x)
          rw [List.length_range] at this
          exact this
        have hfs := filt_snoc (mt A.ts A.tp A.S u) x
        refine xgo [77] 60 hA ?_
        refine yg (by rfl) ?_
        rw [e10]
        refine xf (fun z => by have := (nI_leI (a := A.S.n) (b := x) (by omega) (by omega)).mp z; omega) ?_
        refine xcV (mH_m _ _ _) (c_selectorFits2 (si := 121) (e := x) rfl hM rS6 (by omega) (G5.eq (fun i _ _ => g6.2 7 i (by omega))) (W5.eq (fun j i _ => g6.2 j i (by omega))) (by decide) gs1 gs2 (by omega) (by omega)) (by rfl) (by rfl) (by rfl) (Nat.zero_le _) (Nat.zero_le _) ?_
        rintro o h' ⟨S7, rfl, g7, rfl⟩
        have gg7 : gF [5, 42] (fun j _ => j = 43 ∨ j = 80 ∨ j = 81) S5 S7 := g6.tr g7 (by simp) (fun j i z => Or.inr z)
        have e42 : S7.1 42 = nI ((List.range x).filter (mt A.ts A.tp A.S u)).length := by rw [g7.1 42 (by simp)]; exact h42
        have e43 : ∀ i q, ((List.range x).filter (mt A.ts A.tp A.S u))[i]? = some q → S7.2 43 i = nI q := fun i q hq => by rw [g7.2 43 i (by unfold gdP; omega)]; exact h43 i q hq
        have e5 : S7.1 5 = -1 := by rw [g7.1 5 (by simp)]; exact h65
        refine xb (fun c => ?_) (fun c => ?_)
        · have hm := (bI_n0 _).mp c
          rw [if_pos hm] at hfs
          refine ya (by rfl) ?_
          refine yg (by rfl) ?_
          rw [e42]
          refine ys (i := ((List.range x).filter (mt A.ts A.tp A.S u)).length) hM (by rfl) rfl (by show _ < 500; omega) ?_
          refine yg (by rfl) ?_
          refine yp (by rfl) ?_
          obtain ⟨S8, hS8⟩ : ∃ S8, S8 = s1 (s2 S7 43 ((List.range x).filter (mt A.ts A.tp A.S u)).length (nI x)) 42 ((s2 S7 43 ((List.range x).filter (mt A.ts A.tp A.S u)).length (nI x)).1 42 + 1) := ⟨_, rfl⟩
          have g8 : gF [5, 42] (fun j _ => j = 43 ∨ j = 80 ∨ j = 81) S7 S8 := by
            rw [hS8]
            exact ((gF.refl _ _ _).s (Or.inl rfl)).p (by decide)
          have q := ih (x + 1) S8 (by omega) (gg7.tr g8 (by simp) (fun _ _ z => z)) (by rw [hS8]; exact e5) (by rw [hS8, hfs, List.length_append, List.length_singleton]; show S7.1 42 + 1 = _; rw [e42]; exact nI_1 _) (fun i q hq => by
            rw [hfs] at hq
            by_cases y : i < ((List.range x).filter (mt A.ts A.tp A.S u)).length
            · rw [List.getElem?_append_left y] at hq
              rw [hS8, ← e43 i q hq]
              have y2 : i ≠ ((List.range x).filter (mt A.ts A.tp A.S u)).length := by omega
              simp [s1, s2, y2]
            · rw [List.getElem?_append_right (by omega)] at hq
              have h2 := (List.getElem?_eq_some_iff.mp hq).1
              simp only [List.length_singleton] at h2
              have h3 : i = ((List.range x).filter (mt A.ts A.tp A.S u)).length := by omega
              subst h3
              rw [Nat.sub_self] at hq
              have : x = q := by simpa using hq
              subst this
              rw [hS8]
              simp [s1, s2])
          rw [← nI_1] at q
          have q2 := q.locs (ls := [(3, .int (nI x + 1)), (2, .int (nI n)), (1, .int (nI k)), (0, .ref M.1)]) (by simp)
          rw [hS8] at q2
          exact q2
        · have hm := (bI_0 _).mp c
          rw [if_neg (by rw [hm]; decide), List.append_nil] at hfs
          have q := ih (x + 1) S7 (by omega) gg7 e5 (by rw [hfs]; exact e42) (by rw [hfs]; exact e43)
          rw [← nI_1] at q
          exact q.locs (by simp [nI_zero, nI_one, bI])
    show xG X 55 _ [] _ _ _
    refine xgo [77] 60 hA ?_
    refine yg (by rfl) ?_
    refine yp (by rfl) ?_
    refine yg (by rfl) ?_
    refine xf (by show ¬ (0 : Int32) ≤ S5.1 6; rw [hf5]; decide) ?_
    refine yp (by rfl) ?_
    obtain ⟨S6, hS6⟩ : ∃ S6, S6 = s1 (s1 S5 5 (S5.1 6)) 42 0 := ⟨_, rfl⟩
    have g6 : gF [5, 42] (fun j _ => j = 43 ∨ j = 80 ∨ j = 81) S5 S6 := by
      rw [hS6]
      exact ((gF.refl _ _ _).p (by decide)).p (by decide)
    have := loop A.S.n 0 S6 (by omega) g6 (by rw [hS6]; exact hf5) (by rw [hS6]; rfl) (fun i q hq => by cases hq)
    rw [hS6] at this
    exact this.locs (by simp [nI_zero, nI_one, bI])
end
