/-! THE REFERENCE, 19: what it holds -/
def mrO (S : MS) (ou : List Nat) : Prop := S.1 4 = nI ou.length ∧ ∀ k, k < ou.length → S.2 3 k = nI (ch ou k)
def mrF (S : MS) (fo : List Nat) (aw : Nat) : Prop := S.1 42 = nI fo.length ∧ (∀ i k, fo[i]? = some k → S.2 43 i = nI k) ∧ S.1 84 = nI aw
def mrS (S : MS) (ts : List Nat) (s : SS) : Prop := (S.1 10 = nI s.n ∧ S.1 44 = nI ts.length ∧ S.1 39 = nI s.tm) ∧ (sg S 0 ts ∧ ts.length ≤ 8192 ∧ (s.ps ≠ [] → S.2 7 8192 = 60 ∧ S.2 7 8193 = 38)) ∧ ((∀ k, k < s.n → elM S ts s k) ∧ psM S ts s.ps) ∧ s.op = 0 ∧ (∃ j, sSrc ts = .ok (s, j)) ∧ SI ts s
def mrY (S : MS) (ty : List Nat) (rs : List RU) (ns : List (Nat × Nat)) : Prop := S.1 79 = nI ty.length ∧ sg S 20000 ty ∧ ty.length ≤ 8192 ∧ stR S 20000 ty (flS rs) (flT rs) ns ∧ ∃ Y j, pSty ty = .ok (Y, j) ∧ Y.ru = rs ∧ Y.ns = ns
def mR (S : MS) (A : AS) : Prop := tpR S A.tp ∧ mrO S A.ou ∧ mrF S A.fo A.aw ∧ S.1 5 = plI A.pl ∧ mrS S A.ts A.S ∧ mrY S A.ty A.rs A.ns ∧ A.ss = ssOf A.rs
/-- none of these fields is among L -/
def djL (L F : List Nat) : Bool := L.all fun k => decide (k ∉ F)
theorem djL_eq {L F : List Nat} {P : Nat → Nat → Prop} {S S' : MS} (g : gF L P S S') (h : djL L F = true) {k : Nat} (hk : k ∈ F) : S'.1 k = S.1 k := g.1 k fun z => by
  have := List.all_eq_true.mp h k z
  exact absurd hk (of_decide_eq_true this)
theorem tpR.gf {S S' : MS} {p L : List Nat} {P : Nat → Nat → Prop} (H : tpR S p) (g : gF L P S S') (h : djL L [2] = true) (h2 : ∀ i, ¬ P 1 i) : tpR S' p := ⟨by rw [djL_eq g h (by decide)]; exact H.1, fun k hk => by rw [g.2 1 k (h2 k)]; exact H.2.1 k hk, H.2.2⟩
theorem mrO.gf {S S' : MS} {ou L : List Nat} {P : Nat → Nat → Prop} (H : mrO S ou) (g : gF L P S S') (h : djL L [4] = true) (h2 : ∀ i, ¬ P 3 i) : mrO S' ou := ⟨by rw [djL_eq g h (by decide)]; exact H.1, fun k hk => by rw [g.2 3 k (h2 k)]; exact H.2 k hk⟩
theorem mrF.gf {S S' : MS} {fo L : List Nat} {aw : Nat} {P : Nat → Nat → Prop} (H : mrF S fo aw) (g : gF L P S S') (h : djL L [42, 84] = true) (h2 : ∀ i, ¬ P 43 i) : mrF S' fo aw := ⟨by rw [djL_eq g h (by decide)]; exact H.1, fun i k hk => by rw [g.2 43 i (h2 i)]; exact H.2.1 i k hk, by rw [djL_eq g h (by decide)]; exact H.2.2⟩
theorem mrS.gf {S S' : MS} {ts L : List Nat} {s : SS} {P : Nat → Nat → Prop} (H : mrS S ts s) (g : gF L P S S') (h : djL L [10, 39, 44] = true) (h2 : ∀ k i, 12 ≤ k → k ≤ 31 → ¬ P k i) (h3 : ∀ i, i < 8194 → ¬ P 7 i) : mrS S' ts s := by
  obtain ⟨⟨a1, a2, a3⟩, ⟨b1, b2, b3⟩, ⟨c1, c2⟩, d⟩ := H
  exact ⟨⟨by rw [djL_eq g h (by decide)]; exact a1, by rw [djL_eq g h (by decide)]; exact a2, by rw [djL_eq g h (by decide)]; exact a3⟩, ⟨b1.eq (fun i _ hi => g.2 7 i (h3 i (by omega))), b2, fun z => by rw [g.2 7 _ (h3 _ (by decide)), g.2 7 _ (h3 _ (by decide))]; exact b3 z⟩, ⟨fun k hk => (c1 k hk).eq (fun j i hj => g.2 j i (h2 j i (by omega) (by omega))), c2.eq (fun j i h4 h5 _ => g.2 j i (h2 j i (by omega) (by omega)))⟩, d⟩
theorem mrY.gf {S S' : MS} {ty L : List Nat} {rs : List RU} {ns : List (Nat × Nat)} {P : Nat → Nat → Prop} (H : mrY S ty rs ns) (g : gF L P S S') (h : djL L [50, 51, 52, 68, 69] = true) (h' : djL L [79] = true) (h2 : ∀ k i, 53 ≤ k → k ≤ 78 → ¬ P k i) (h3 : ∀ i, 20000 ≤ i → i < 28192 → ¬ P 7 i) : mrY S' ty rs ns := by
  obtain ⟨a1, a2, a3, a4, a5⟩ := H
  exact ⟨by rw [djL_eq g h' (by decide)]; exact a1, a2.eq (fun i h4 hi => g.2 7 i (h3 i h4 (by omega))), a3, a4.gf g h h2, a5⟩
theorem SI.w2 {t : List Nat} {S : SS} (I : SI t S) (hl : t.length ≤ 8192) (hp : S.pc.length ≤ 8192) (ho : S.op = 0) : srcW t S := by
  obtain ⟨⟨i1, i2, i3, i4, i5⟩, j2, j3, j4⟩ := I
  have i1 : S.n ≤ 500 := i1
  refine ⟨⟨i1, fun k hk => ?_⟩, ho, hl, hp, fun k hk => ?_⟩
  · obtain ⟨a1, a2, a3, a4, ⟨a5, a6, a7⟩, -⟩ := i5 k hk
    have a5 : S.F 4 k ≤ S.n := a5
    have a6 : S.F 8 k ≤ S.n := a6
    exact ⟨a1, a2, a3, a4, by omega, by omega, a7, (j2 k hk).2.2.2.2⟩
  · obtain ⟨b1, b2, b3, b4, b5⟩ := j2 k hk
    rcases (j4 k hk).2 with z | z
    · rw [ho] at z
      have := z.zero
      omega
    · exact ⟨z.2.2.1, z.2.2.2.1, b1, by omega, by omega, b4⟩
theorem sAll_I {t : List Nat} : ∀ (n i : Nat) (S S' : SS) (j : Nat), SI t S → S.pc.length ≤ i → i ≤ t.length → sAll t n i S = .ok (S', j) → SI t S' ∧ S'.pc.length ≤ j ∧ j ≤ t.length
  | 0, i, S, S', j, I, hp, hi, e => by cases e; exact ⟨I, hp, hi⟩
  | n + 1, i, S, S', j, I, hp, hi, e => by
    rw [sAll] at e
    split at e
    · cases e; exact ⟨I, hp, hi⟩
    · obtain ⟨S2, i2, e1, e2⟩ := pB_inv e
      have a := sPiece_adv t S hi S2 i2 e1
      have m := sPiece_mono e1
      exact sAll_I n i2 S2 S' j (I.piece e1) (by omega) a.2 e2
theorem sSrc_W {t : List Nat} {s : SS} {j : Nat} (h : sSrc t = .ok (s, j)) (hl : t.length ≤ 8192) : SI t s ∧ srcW t s := by
  obtain ⟨S2, i2, e1, e2⟩ := pB_inv h
  split at e2
  · rename_i ho
    cases e2
    obtain ⟨I, hp, hj⟩ := sAll_I _ _ _ _ _ (SI.zero t) (Nat.le_refl 0) (Nat.zero_le _) e1
    exact ⟨I, I.w2 hl (by omega) ho⟩
  · cases e2
/-- an answer of the reference -/
def oM (q : Option Int32) (S' : MS) (o : xO) : Prop := match q with
  | none => S'.1 0 = 1 ∧ ∃ v : Int32, o = .inl (some (.int v))
  | some v => S'.1 0 = 0 ∧ o = .inl (some (.int v))
section
variable {l : Launch} {D : xD} {h0 : xH} {M : MA} {S : MS}
set_option maxRecDepth 20000 in
theorem c_source2 {A : AS} (hM : mok M) (R : mR S A) (rA : AOk A) : xMet l D 5 y_Mo_source [.ref M.1] (mH h0 M S) 0 0 (fun o h' => ∃ S', h' = mH h0 M S' ∧ oM (aSource A).1 S' o ∧ mR S' (aSource A).2) := by
  obtain ⟨rT, rO, rF, rP, rS, rY, rss⟩ := id R
  obtain ⟨⟨s10, s44, s39⟩, ⟨sts, slen, s8192⟩, ⟨sel, sps⟩, sop, ⟨sj, sS⟩, sI⟩ := id rS
  obtain ⟨⟨tl, tb⟩, rA2⟩ := id rA
  refine m_Mo_source (Nat.le_of_ble_eq_true rfl) fun X hl hD hP hA => ?_
  subst hl hD
  have k30 : ∀ S1 : MS, gF [] (fun k _ => k = 41) S S1 → (∀ k, k < A.ts.length → S1.2 41 k = S.2 7 k) → ∀ v : Int32, xG X 30 [(2, .int v), (1, .int (nI A.ts.length)), (0, .ref M.1)] [] (mH h0 M S1) 0 0 := by
    intro S1 g1 hsp v
    have T1 := rT.gf g1 (by rfl) (fun i z => by omega)
    refine xgo [55] 60 hA ?_
    refine xcV (mH_m _ _ _) (c_Mo_take (b := 0) hM T1 tb (by decide)) (by rfl) (by rfl) (by rfl) (Nat.zero_le _) (Nat.zero_le _) ?_
    rintro o h' ⟨S2, rfl, rfl, f2, X2, T2, hf2, hk2⟩
    refine ya (by rfl) ?_
    refine ys (i := 8192) hM (by rfl) rfl (by decide) ?_
    refine ya (by rfl) ?_
    refine ys (i := 8193) hM (by rfl) rfl (by decide) ?_
    obtain ⟨S3, hS3⟩ : ∃ S3, S3 = s2 (s2 S2 7 8192 60) 7 8193 38 := ⟨_, rfl⟩
    have e60 : S3.2 7 8192 = 60 := by rw [hS3]; simp [s2]
    have e38 : S3.2 7 8193 = 38 := by rw [hS3]; simp [s2]
    have g2 : gF [2, 6, 8, 9] (fun k i => k = 7 ∧ i < A.tp.length) S1 S2 := ⟨f2.1, fun k i h => by
      by_cases z : k = 7
      · subst z
        exact hk2 i (Or.inr (by
          have : ¬ i < A.tp.length := fun y => h ⟨rfl, y⟩
          omega))
      · rw [f2.2 k (by simpa using z)]⟩
    have g3 : gF [] (fun k i => k = 7 ∧ (i = 8192 ∨ i = 8193)) S2 S3 := by rw [hS3]; exact ((gF.refl _ _ _).s ⟨rfl, Or.inl rfl⟩).s ⟨rfl, Or.inr rfl⟩
    have gg : gF [2, 6, 8, 9] (fun k i => k = 41 ∨ (k = 7 ∧ i < 8194)) S S3 := ((g1.wk (by simp) (fun k i z => Or.inl z)).tr g2 (by simp) (fun k i z => by omega)).tr g3 (by simp) (fun k i z => by omega)
    have X3 : tx S3 0 A.tp := X2.gf g3 (by decide) (fun i _ hi => by omega)
    have T3 := T2.gf g3 (by rfl) (fun i z => by omega)
    suffices this : xG X 55 [(1, .int (nI A.ts.length)), (0, .ref M.1)] [] (mH h0 M S3) 0 0 by
      rw [hS3] at this
      exact this.locs (by simp)
    refine xgo [76] 90 hA ?_
    refine xcV (mH_m _ _ _) (c_readSource2 hM X3 (by rw [g3.1 6 (by simp)]; exact hf2)) (by rfl) (by rfl) (by rfl) (Nat.zero_le _) (Nat.zero_le _) ?_
    rintro o h' ⟨S4, rfl, rfl, g4, r4⟩
    have g4' := gg.wk (L := [2, 6, 8, 9, 11, 32, 37, 38, 39, 40]) (P := fun k i => k = 41 ∨ (k = 7 ∧ i < 8194) ∨ (12 ≤ k ∧ k ≤ 36)) (by decide) (fun k i z => by omega)
    have gg4 := g4'.tr g4 (by decide) (fun k i z => by unfold soP at z; omega)
    have T4 := T3.gf g4 (by rfl) (fun i z => by unfold soP at z; omega)
    refine yg (by rfl) ?_
    refine yp (by rfl) ?_
    refine yg (by rfl) ?_
    cases hq : sSrc A.tp with
    | ok q =>
      obtain ⟨s, j⟩ := q
      rw [hq] at r4
      obtain ⟨q1, ⟨q2, q3, q4⟩, ⟨q5, q6, q7, q8, q9⟩, q10, q11, q12, q13⟩ := r4
      refine xt (by show S4.1 6 < 0; rw [q2]; decide) ?_
      refine yp (by rfl) ?_
      refine yg (by rfl) ?_
      refine yp (by rfl) ?_
      refine yg (by rfl) ?_
      refine yp (by rfl) ?_
      refine yp (by rfl) ?_
      refine yg (by rfl) ?_
      obtain ⟨S5, hS5⟩ : ∃ S5, S5 = s1 (s1 (s1 (s1 (s1 S4 5 (S4.1 6)) 0 0) 44 (S4.1 9)) 10 (S4.1 11)) 42 0 := ⟨_, rfl⟩
      have g5 : gF [0, 5, 10, 42, 44] (fun _ _ => False) S4 S5 := by
        rw [hS5]
        exact (((((gF.refl _ _ _).p (by decide)).p (by decide)).p (by decide)).p (by decide)).p (by decide)
      have gg5 := (gg4.wk (L := [0, 2, 5, 6, 8, 9, 10, 11, 32, 37, 38, 39, 40, 42, 44]) (by decide) (fun _ _ z => z)).tr g5 (by decide) (fun k i z => z.elim)
      have hA2 : aSource A = (some (nI s.n), A.wTk.wSo A.tp s) := by unfold aSource; rw [hq]
      have e9 : S4.1 9 = nI A.tp.length := q1.2.1
      have hI : SI A.tp s ∧ srcW A.tp s := sSrc_W hq tl
      refine xP hP ⟨S5, by rw [hS5]; rfl, ?_, ?_⟩
      · rw [hA2]
        refine ⟨by rw [hS5]; rfl, ?_⟩
        show Sum.inl (some (Value.int (S4.1 11))) = _
        rw [q5]
      · rw [hA2]
        refine ⟨T4.gf g5 (by rfl) (fun i z => z), rO.gf gg5 (by rfl) (fun i z => by omega), ⟨by rw [hS5]; rfl, fun i k hk => (by cases hk), by rw [gg5.1 84 (by decide)]; exact rF.2.2⟩, by rw [hS5]; show S4.1 6 = plI none; rw [q2]; rfl, ⟨⟨by rw [hS5]; exact q5, by rw [hS5]; exact e9, by rw [g5.1 39 (by decide)]; exact q8⟩, ⟨(sg_tx (q1.gf g5 (by decide) (fun i _ _ z => z))), tl, fun _ => ?_⟩, ⟨fun k hk => (q10 k hk).eq (fun j i _ => g5.2 j i (fun z => z)), q11.eq (fun j i _ _ _ => g5.2 j i (fun z => z))⟩, ?_, ⟨j, hq⟩, hI.1⟩, rY.gf gg5 (by rfl) (by rfl) (fun k i _ _ z => by omega) (fun i _ _ z => by omega), rss⟩
        · rw [g5.2 7 _ (fun z => z), g5.2 7 _ (fun z => z), g4.2 7 _ (fun z => by unfold soP at z; omega), g4.2 7 _ (fun z => by unfold soP at z; omega)]
          exact ⟨e60, e38⟩
        · exact hI.2.2.1
    | error w =>
      rw [hq] at r4
      obtain ⟨q1, q2, q3⟩ := r4
      have hA2 : aSource A = (none, A.wTk.wPl (some w)) := by unfold aSource; rw [hq]
      refine xf (by show ¬ S4.1 6 < 0; rw [q2]; exact nI_neg (by omega)) ?_
      -- the old text comes back
      obtain ⟨S5, hS5⟩ : ∃ S5, S5 = s1 S4 5 (S4.1 6) := ⟨_, rfl⟩
      have g5 : gF [5] (fun _ _ => False) S4 S5 := by rw [hS5]; exact (gF.refl _ _ _).p (by decide)
      have back : ∀ x : Nat, (x ≤ A.ts.length) → ∀ S6 : MS, gF [] (fun k i => k = 7 ∧ i < A.ts.length) S5 S6 → (∀ k, k < x → S6.2 7 k = S.2 7 k) → xG X 76 [(2, .int (nI x)), (1, .int (nI A.ts.length)), (0, .ref M.1)] [] (mH h0 M S6) 0 0 := by
        refine xind _ _ (fun x => A.ts.length - x) (fun x hx ih => ?_)
        intro S6 g6 hb
        refine xgo [76, 99] 60 hA ?_
        refine xb (fun c => ?_) (fun c => ?_)
        · have hxe : x = A.ts.length := Nat.le_antisymm hx ((nI_leI (a := A.ts.length) (b := x) (by omega) (by omega)).mp c)
          subst hxe
          show xG X 99 _ [] _ _ _
          refine xgo [] 60 hA ?_
          refine yp (by rfl) ?_
          refine yp (by rfl) ?_
          refine yp (by rfl) ?_
          obtain ⟨S7, hS7⟩ : ∃ S7, S7 = s1 (s1 (s1 S6 8 0) 9 (nI A.ts.length)) 6 (-1) := ⟨_, rfl⟩
          have g7 : gF [6, 8, 9] (fun _ _ => False) S6 S7 := by
            rw [hS7]
            exact ((((gF.refl _ _ _).p (by decide)).p (by decide)).p (by decide))
          have gg7 : gF [2, 5, 6, 8, 9, 11, 32, 37, 38, 39, 40] (fun k i => k = 41 ∨ (k = 7 ∧ i < 8194) ∨ (12 ≤ k ∧ k ≤ 36)) S S7 := (((gg4.wk (by decide) (fun _ _ z => z)).tr g5 (by decide) (fun k i z => z.elim)).tr g6 (by simp) (fun k i z => by omega)).tr g7 (by decide) (fun k i z => z.elim)
          have h7 : ∀ k, k < A.ts.length → S7.2 7 k = S.2 7 k := fun k hk => by rw [g7.2 7 k (fun z => z)]; exact hb k hk
          have X7 : tx S7 0 A.ts := ⟨by rw [hS7]; rfl, by rw [hS7]; rfl, fun k hk => by rw [Nat.zero_add, h7 k hk]; have := sts.1 k hk; rw [Nat.zero_add] at this; exact this, by decide, slen, sts.2.2⟩
          rw [← hS7]
          refine xcV (mH_m _ _ _) (c_readSource2 hM X7 (by rw [hS7]; rfl)) (by rfl) (by rfl) (by rfl) (Nat.zero_le _) (Nat.zero_le _) ?_
          rintro o h' ⟨S8, rfl, rfl, g8, r8⟩
          rw [sS] at r8
          obtain ⟨u1, ⟨u2, u3, u4⟩, ⟨u5, u6, u7, u8, u9⟩, u10, u11, u12, u13⟩ := r8
          refine xcV (mH_m _ _ _) (c_Mo_refuse) (by rfl) (by rfl) (by rfl) (Nat.zero_le _) (Nat.zero_le _) ?_
          rintro o h' ⟨rfl, rfl⟩
          have g9 : gF [0] (fun _ _ => False) S8 (s1 S8 0 1) := (gF.refl _ _ _).p (by decide)
          have gg9 : gF [0, 2, 5, 6, 8, 9, 11, 32, 37, 38, 39, 40] (fun k i => k = 41 ∨ (k = 7 ∧ i < 8194) ∨ (12 ≤ k ∧ k ≤ 36)) S (s1 S8 0 1) := ((gg7.wk (by decide) (fun _ _ z => z)).tr g8 (by decide) (fun k i z => by unfold soP at z; omega)).tr g9 (by decide) (fun k i z => z.elim)
          refine xP hP ⟨_, rfl, ?_, ?_⟩
          · rw [hA2]
            exact ⟨rfl, _, rfl⟩
          · rw [hA2]
            have T9 : tpR (s1 S8 0 1) [] := ((((T4.gf g5 (by rfl) (fun i z => z)).gf g6 (by rfl) (fun i z => by omega)).gf g7 (by rfl) (fun i z => z)).gf g8 (by rfl) (fun i z => by unfold soP at z; omega)).gf g9 (by rfl) (fun i z => z)
            refine ⟨T9, rO.gf gg9 (by rfl) (fun i z => by omega), rF.gf gg9 (by rfl) (fun i z => by omega), ?_, ⟨⟨by rw [gg9.1 10 (by decide)]; exact s10, by rw [gg9.1 44 (by decide)]; exact s44, by rw [g9.1 39 (by decide)]; exact u8⟩, ⟨(sg_tx (u1.gf g9 (by decide) (fun i _ _ z => z))), slen, fun _ => ?_⟩, ⟨fun k hk => (u10 k hk).eq (fun j i _ => g9.2 j i (fun z => z)), u11.eq (fun j i _ _ _ => g9.2 j i (fun z => z))⟩, sop, ⟨sj, sS⟩, sI⟩, rY.gf gg9 (by rfl) (by rfl) (fun k i _ _ z => by omega) (fun i _ _ z => by omega), rss⟩
            · rw [g9.1 5 (by decide), g8.1 5 (by decide), g7.1 5 (by decide), g6.1 5 (by simp), hS5]
              show S4.1 6 = plI (some w)
              rw [q2]; rfl
            · have e : ∀ i, (i = 8192 ∨ i = 8193) → (s1 S8 0 1).2 7 i = S3.2 7 i := fun i hi => by
                rw [g9.2 7 _ (fun z => z), g8.2 7 _ (fun z => by unfold soP at z; omega), g7.2 7 _ (fun z => z), g6.2 7 _ (fun z => by omega), g5.2 7 _ (fun z => z), g4.2 7 _ (fun z => by unfold soP at z; omega)]
              rw [e 8192 (Or.inl rfl), e 8193 (Or.inr rfl)]
              exact ⟨e60, e38⟩
        · have c1 : x < A.ts.length := Nat.lt_of_not_le fun z => c (nI_le z (by omega))
          refine ya (by rfl) ?_
          refine ya (by rfl) ?_
          refine yl (i := x) hM (by rfl) rfl (by show x < 8192; omega) ?_
          refine ys (i := x) hM (by rfl) rfl (by show x < 50000; omega) ?_
          have e41 : S6.2 41 x = S.2 7 x := by
            rw [g6.2 41 x (by omega), g5.2 41 x (fun z => z), g4.2 41 x (fun z => by unfold soP at z; omega), g3.2 41 x (by omega), g2.2 41 x (by omega)]
            exact hsp x c1
          rw [e41]
          have q := ih (x + 1) c1 (by omega) (s2 S6 7 x (S.2 7 x)) (g6.s ⟨rfl, c1⟩) (fun k hk => by
            by_cases z : k = x
            · rw [z, s2_eq]
            · rw [s2_ne _ _ z]; exact hb k (by omega))
          rw [← nI_1] at q
          exact q
      have q := back 0 (Nat.zero_le _) S5 (gF.refl _ _ _) (fun k hk => absurd hk (Nat.not_lt_zero _))
      rw [hS5] at q
      exact q.locs (by simp; rfl)
  have key : ∀ x : Nat, (x ≤ A.ts.length) → ∀ S1 : MS, gF [] (fun k _ => k = 41) S S1 → (∀ k, k < x → S1.2 41 k = S.2 7 k) → xG X 7 [(2, .int (nI x)), (1, .int (nI A.ts.length)), (0, .ref M.1)] [] (mH h0 M S1) 0 0 := by
    refine xind _ _ (fun x => A.ts.length - x) (fun x hx ih => ?_)
    intro S1 g1 hb
    refine xgo [7, 30] 60 hA ?_
    refine xb (fun c => ?_) (fun c => ?_)
    · have hxe : x = A.ts.length := Nat.le_antisymm hx ((nI_leI (a := A.ts.length) (b := x) (by omega) (by omega)).mp c)
      subst hxe
      exact k30 S1 g1 hb _
    · have c1 : x < A.ts.length := Nat.lt_of_not_le fun z => c (nI_le z (by omega))
      refine ya (by rfl) ?_
      refine ya (by rfl) ?_
      refine yl (i := x) hM (by rfl) rfl (by show x < 50000; omega) ?_
      refine ys (i := x) hM (by rfl) rfl (by show x < 8192; omega) ?_
      rw [g1.2 7 x (by omega)]
      have q := ih (x + 1) c1 (by omega) (s2 S1 41 x (S.2 7 x)) (g1.s rfl) (fun k hk => by
        by_cases z : k = x
        · rw [z, s2_eq]
        · rw [s2_ne _ _ z]; exact hb k (by omega))
      rw [← nI_1] at q
      exact q
  refine xgo [7] 20 hA ?_
  refine yg (by rfl) ?_
  rw [s44]
  exact key 0 (Nat.zero_le _) S (gF.refl _ _ _) (fun k hk => absurd hk (Nat.not_lt_zero _))
end
