/-! THE REFERENCE, 20: style -/
theorem flS_fst : ∀ (rs : List RU) (n : Nat), (((rs.zipIdx n).map (fun R => R.1.1.map (fun l => (l, R.2)))).flatten).map (fun q => q.1) = (rs.map (fun R => R.1)).flatten
  | [], _ => rfl
  | R :: rs, n => by
    have := flS_fst rs (n + 1)
    simp only [List.zipIdx_cons, List.map_cons, List.flatten_cons, List.map_append, List.map_map] at this ⊢
    rw [this]
    congr 1
    simp [Function.comp_def]
theorem flS_ss (rs : List RU) : (flS rs).map (fun q => q.1) = ssOf rs := flS_fst rs 0
theorem flS_len (rs : List RU) : (flS rs).length = (ssOf rs).length := by rw [← flS_ss, List.length_map]
section
variable {l : Launch} {D : xD} {h0 : xH} {M : MA} {S : MS}
set_option maxRecDepth 20000 in
theorem c_style2 {A : AS} (hM : mok M) (R : mR S A) (rA : AOk A) : xMet l D 7 y_Mo_style [.ref M.1] (mH h0 M S) 0 0 (fun o h' => ∃ S', h' = mH h0 M S' ∧ oM (aStyle A).1 S' o ∧ mR S' (aStyle A).2) := by
  obtain ⟨rT, rO, rF, rP, rS, rY, rss⟩ := id R
  obtain ⟨y79, yts, ylen, yR, ⟨Y0, j0, yS, yru, yns⟩⟩ := id rY
  obtain ⟨⟨tl, tb⟩, rA2⟩ := id rA
  refine m_Mo_style (Nat.le_of_ble_eq_true rfl) fun X hl hD hP hA => ?_
  subst hl hD
  have k30 : ∀ S1 : MS, gF [] (fun k _ => k = 41) S S1 → (∀ k, k < A.ty.length → S1.2 41 k = S.2 7 (20000 + k)) → ∀ v : Int32, xG X 34 [(2, .int v), (1, .int (nI A.ty.length)), (0, .ref M.1)] [] (mH h0 M S1) 0 0 := by
    intro S1 g1 hsp v
    have T1 := rT.gf g1 (by rfl) (fun i z => by omega)
    refine xgo [62] 90 hA ?_
    refine xcV (mH_m _ _ _) (c_Mo_take (b := 20000) hM T1 tb (by decide)) (by rfl) (by rfl) (by rfl) (Nat.zero_le _) (Nat.zero_le _) ?_
    rintro o h' ⟨S2, rfl, rfl, f2, X2, T2, hf2, hk2⟩
    have g2 : gF [2, 6, 8, 9] (fun k i => k = 7 ∧ 20000 ≤ i ∧ i < 28192) S1 S2 := ⟨f2.1, fun k i h => by
      by_cases z : k = 7
      · subst z
        exact hk2 i (by
          have : ¬ (20000 ≤ i ∧ i < 28192) := fun y => h ⟨rfl, y⟩
          omega)
      · rw [f2.2 k (by simpa using z)]⟩
    have gg : gF [2, 6, 8, 9] (fun k i => k = 41 ∨ (k = 7 ∧ 20000 ≤ i ∧ i < 28192)) S S2 := ((g1.wk (by simp) (fun k i z => Or.inl z)).tr g2 (by simp) (fun k i z => Or.inr z))
    refine xcV (mH_m _ _ _) (c_readStyle2 hM X2 hf2) (by rfl) (by rfl) (by rfl) (Nat.zero_le _) (Nat.zero_le _) ?_
    rintro o h' ⟨S4, rfl, rfl, g4, r4⟩
    have gg4 := (gg.wk (L := [2, 6, 8, 9, 45, 46, 47, 48, 49, 50, 51, 52, 68, 69]) (P := fun k i => k = 41 ∨ (k = 7 ∧ 20000 ≤ i ∧ i < 28192) ∨ (53 ≤ k ∧ k ≤ 78)) (by decide) (fun k i z => by omega)).tr g4 (by decide) (fun k i z => by unfold rsP at z; omega)
    have T4 := T2.gf g4 (by rfl) (fun i z => by unfold rsP at z; omega)
    refine yg (by rfl) ?_
    refine yp (by rfl) ?_
    refine yg (by rfl) ?_
    cases hq : pSty A.tp with
    | ok q =>
      obtain ⟨Y, j⟩ := q
      rw [hq] at r4
      obtain ⟨⟨q1, q2, q3, q4⟩, q5⟩ := r4
      refine xt (by show S4.1 6 < 0; rw [q3]; decide) ?_
      refine yp (by rfl) ?_
      refine yg (by rfl) ?_
      refine yp (by rfl) ?_
      refine yg (by rfl) ?_
      obtain ⟨S5, hS5⟩ : ∃ S5, S5 = s1 (s1 (s1 S4 5 (S4.1 6)) 0 0) 79 (S4.1 9) := ⟨_, rfl⟩
      have g5 : gF [0, 5, 79] (fun _ _ => False) S4 S5 := by
        rw [hS5]
        exact (((gF.refl _ _ _).p (by decide)).p (by decide)).p (by decide)
      have gg5 := (gg4.wk (L := [0, 2, 5, 6, 8, 9, 45, 46, 47, 48, 49, 50, 51, 52, 68, 69, 79]) (by decide) (fun _ _ z => z)).tr g5 (by decide) (fun k i z => z.elim)
      have hA2 : aStyle A = (some (nI (ssOf Y.ru).length), A.wTk.wSt A.tp Y.ru (ssOf Y.ru) Y.ns) := by unfold aStyle; rw [hq]
      have e9 : S4.1 9 = nI A.tp.length := q1.2.1
      refine xP hP ⟨S5, by rw [hS5]; rfl, ?_, ?_⟩
      · rw [hA2]
        refine ⟨by rw [hS5]; rfl, ?_⟩
        show Sum.inl (some (Value.int (S4.1 50))) = _
        rw [q5.1, flS_len]
      · rw [hA2]
        exact ⟨T4.gf g5 (by rfl) (fun i z => z), rO.gf gg5 (by rfl) (fun i z => by omega), rF.gf gg5 (by rfl) (fun i z => by omega), by rw [hS5]; show S4.1 6 = plI none; rw [q3]; rfl, rS.gf gg5 (by rfl) (fun k i _ _ z => by omega) (fun i _ z => by omega), ⟨by rw [hS5]; exact e9, sg_tx (q1.gf g5 (by decide) (fun i _ _ z => z)), tl, q5.gf g5 (by rfl) (fun k i _ _ z => z), Y, j, hq, rfl, rfl⟩, rfl⟩
    | error w =>
      rw [hq] at r4
      obtain ⟨q1, q2, q3, -⟩ := r4
      have hA2 : aStyle A = (none, A.wTk.wPl (some w)) := by unfold aStyle; rw [hq]
      refine xf (by show ¬ S4.1 6 < 0; rw [q2]; exact nI_neg (by omega)) ?_
      obtain ⟨S5, hS5⟩ : ∃ S5, S5 = s1 S4 5 (S4.1 6) := ⟨_, rfl⟩
      have g5 : gF [5] (fun _ _ => False) S4 S5 := by rw [hS5]; exact (gF.refl _ _ _).p (by decide)
      have back : ∀ x : Nat, (x ≤ A.ty.length) → ∀ S6 : MS, gF [] (fun k i => k = 7 ∧ 20000 ≤ i ∧ i < 28192) S5 S6 → (∀ k, k < x → S6.2 7 (20000 + k) = S.2 7 (20000 + k)) → xG X 62 [(2, .int (nI x)), (1, .int (nI A.ty.length)), (0, .ref M.1)] [] (mH h0 M S6) 0 0 := by
        refine xind _ _ (fun x => A.ty.length - x) (fun x hx ih => ?_)
        intro S6 g6 hb
        refine xgo [62, 89] 60 hA ?_
        refine xb (fun c => ?_) (fun c => ?_)
        · have hxe : x = A.ty.length := Nat.le_antisymm hx ((nI_leI (a := A.ty.length) (b := x) (by omega) (by omega)).mp c)
          subst hxe
          show xG X 89 _ [] _ _ _
          refine xgo [] 60 hA ?_
          refine yp (by rfl) ?_
          refine yp (by rfl) ?_
          obtain ⟨S7, hS7⟩ : ∃ S7, S7 = s1 (s1 S6 9 (nI A.ty.length)) 6 (-1) := ⟨_, rfl⟩
          have g7 : gF [6, 9] (fun _ _ => False) S6 S7 := by
            rw [hS7]
            exact (((gF.refl _ _ _).p (by decide)).p (by decide))
          have gg7 : gF [2, 5, 6, 8, 9, 45, 46, 47, 48, 49, 50, 51, 52, 68, 69] (fun k i => k = 41 ∨ (k = 7 ∧ 20000 ≤ i ∧ i < 28192) ∨ (53 ≤ k ∧ k ≤ 78)) S S7 := (((gg4.wk (by decide) (fun _ _ z => z)).tr g5 (by decide) (fun k i z => z.elim)).tr g6 (by simp) (fun k i z => by omega)).tr g7 (by decide) (fun k i z => z.elim)
          have h7 : ∀ k, k < A.ty.length → S7.2 7 (20000 + k) = S.2 7 (20000 + k) := fun k hk => by rw [g7.2 7 _ (fun z => z)]; exact hb k hk
          have X7 : tx S7 20000 A.ty := ⟨by rw [g7.1 8 (by decide), g6.1 8 (by simp), g5.1 8 (by decide)]; exact q1.1, by rw [hS7]; rfl, fun k hk => by rw [h7 k hk]; exact yts.1 k hk, by decide, ylen, yts.2.2⟩
          rw [← hS7]
          refine xcV (mH_m _ _ _) (c_readStyle2 hM X7 (by rw [hS7]; rfl)) (by rfl) (by rfl) (by rfl) (Nat.zero_le _) (Nat.zero_le _) ?_
          rintro o h' ⟨S8, rfl, rfl, g8, r8⟩
          rw [yS] at r8
          obtain ⟨⟨u1, u2, u3, u4⟩, u5⟩ := r8
          refine xcV (mH_m _ _ _) (c_Mo_refuse) (by rfl) (by rfl) (by rfl) (Nat.zero_le _) (Nat.zero_le _) ?_
          rintro o h' ⟨rfl, rfl⟩
          have g9 : gF [0] (fun _ _ => False) S8 (s1 S8 0 1) := (gF.refl _ _ _).p (by decide)
          have gg9 : gF [0, 2, 5, 6, 8, 9, 45, 46, 47, 48, 49, 50, 51, 52, 68, 69] (fun k i => k = 41 ∨ (k = 7 ∧ 20000 ≤ i ∧ i < 28192) ∨ (53 ≤ k ∧ k ≤ 78)) S (s1 S8 0 1) := ((gg7.wk (by decide) (fun _ _ z => z)).tr g8 (by decide) (fun k i z => by unfold rsP at z; omega)).tr g9 (by decide) (fun k i z => z.elim)
          refine xP hP ⟨_, rfl, ?_, ?_⟩
          · rw [hA2]
            exact ⟨rfl, _, rfl⟩
          · rw [hA2]
            have T9 : tpR (s1 S8 0 1) [] := ((((T4.gf g5 (by rfl) (fun i z => z)).gf g6 (by rfl) (fun i z => by omega)).gf g7 (by rfl) (fun i z => z)).gf g8 (by rfl) (fun i z => by unfold rsP at z; omega)).gf g9 (by rfl) (fun i z => z)
            refine ⟨T9, rO.gf gg9 (by rfl) (fun i z => by omega), rF.gf gg9 (by rfl) (fun i z => by omega), ?_, rS.gf gg9 (by rfl) (fun k i _ _ z => by omega) (fun i _ z => by omega), ⟨by rw [gg9.1 79 (by decide)]; exact y79, sg_tx (u1.gf g9 (by decide) (fun i _ _ z => z)), ylen, ?_, Y0, j0, yS, yru, yns⟩, rss⟩
            · rw [g9.1 5 (by decide), g8.1 5 (by decide), g7.1 5 (by decide), g6.1 5 (by simp), hS5]
              show S4.1 6 = plI (some w)
              rw [q2]; rfl
            · have := u5.gf g9 (by rfl) (fun k i _ _ z => z)
              change stR (s1 S8 0 1) 20000 A.ty (flS Y0.ru) (flT Y0.ru) Y0.ns at this
              rw [yru, yns] at this
              exact this
        · have c1 : x < A.ty.length := Nat.lt_of_not_le fun z => c (nI_le z (by omega))
          refine ya (by rfl) ?_
          refine ya (by rfl) ?_
          refine yl (i := x) hM (by rfl) rfl (by show x < 8192; omega) ?_
          refine ys (i := 20000 + x) hM (by rfl) (nI_add 20000 x) (by show 20000 + x < 50000; omega) ?_
          have e41 : S6.2 41 x = S.2 7 (20000 + x) := by
            rw [g6.2 41 x (by omega), g5.2 41 x (fun z => z), g4.2 41 x (fun z => by unfold rsP at z; omega), g2.2 41 x (by omega)]
            exact hsp x c1
          rw [e41]
          have q := ih (x + 1) c1 (by omega) (s2 S6 7 (20000 + x) (S.2 7 (20000 + x))) (g6.s ⟨rfl, by omega, by omega⟩) (fun k hk => by
            by_cases z : k = x
            · rw [z, s2_eq]
            · rw [s2_ne _ _ (by omega)]; exact hb k (by omega))
          rw [← nI_1] at q
          exact q
      have q := back 0 (Nat.zero_le _) S5 (gF.refl _ _ _) (fun k hk => absurd hk (Nat.not_lt_zero _))
      rw [hS5] at q
      exact q.locs (by simp; rfl)
  have key : ∀ x : Nat, (x ≤ A.ty.length) → ∀ S1 : MS, gF [] (fun k _ => k = 41) S S1 → (∀ k, k < x → S1.2 41 k = S.2 7 (20000 + k)) → xG X 7 [(2, .int (nI x)), (1, .int (nI A.ty.length)), (0, .ref M.1)] [] (mH h0 M S1) 0 0 := by
    refine xind _ _ (fun x => A.ty.length - x) (fun x hx ih => ?_)
    intro S1 g1 hb
    refine xgo [7, 34] 60 hA ?_
    refine xb (fun c => ?_) (fun c => ?_)
    · have hxe : x = A.ty.length := Nat.le_antisymm hx ((nI_leI (a := A.ty.length) (b := x) (by omega) (by omega)).mp c)
      subst hxe
      exact k30 S1 g1 hb _
    · have c1 : x < A.ty.length := Nat.lt_of_not_le fun z => c (nI_le z (by omega))
      refine ya (by rfl) ?_
      refine ya (by rfl) ?_
      refine yl (i := 20000 + x) hM (by rfl) (nI_add 20000 x) (by show 20000 + x < 50000; omega) ?_
      refine ys (i := x) hM (by rfl) rfl (by show x < 8192; omega) ?_
      rw [g1.2 7 (20000 + x) (by omega)]
      have q := ih (x + 1) c1 (by omega) (s2 S1 41 x (S.2 7 (20000 + x))) (g1.s rfl) (fun k hk => by
        by_cases z : k = x
        · rw [z, s2_eq]
        · rw [s2_ne _ _ z]; exact hb k (by omega))
      rw [← nI_1] at q
      exact q
  refine xgo [7] 20 hA ?_
  refine yg (by rfl) ?_
  rw [y79]
  exact key 0 (Nat.zero_le _) S (gF.refl _ _ _) (fun k hk => absurd hk (Nat.not_lt_zero _))
end
