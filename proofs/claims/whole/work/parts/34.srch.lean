/-! CONTRACTS, 14: a new source -/
theorem isL_nil {D : xD} {h : xH} {A e : Nat} {m : Int32} (hA : h A = some (12, [.int m, .ref e, .int 0])) (h1 : D.sv 1 = .ref e) (h2 : h e = some (204, [])) : isL D h A e [] := ⟨Nat.le_refl _, by decide, ⟨m, hA⟩, Or.inl ⟨rfl, h1, h2⟩⟩
theorem isS.kn {B : Nat → Prop} {h : xH} {s kn f : Nat} {w : List Nat} (hs : h s = some (2, [.ref kn, .int (nI f), .int (nI w.length)])) (hk : h kn = some (201, txv knB)) (hB : B kn) (hf : f + w.length ≤ 7) (hw : ∀ k, k < w.length → ch knB (f + k) = ch w k) : isS B h s w := ⟨kn, f, knB, hs, Or.inr hk, hf, hw, by decide, by unfold bytesOk; decide, hB⟩
set_option maxRecDepth 20000 in
theorem c_So_init {B : Nat → Prop} {l : Launch} {D : xD} {h : xH} {so kn : Nat} (E : env D h) (hkn : D.sv 0 = .ref kn) (hB : B kn) (hso : h so = some (5, [.null, .null, .null, .null, .null])) (t : List Nat) : xMet l D 7 y_So_init [.ref so] h 16 64 (fun o h' => o = .inl none ∧ fr [so] h h' ∧ kp h h' ∧ ∃ G, srcR D B h' so t SS0 G ∧ ∀ h0 : xH, (∀ q, h q = none → h0 q = none) → h0 so = none → srcP h0 so SS0 G) := by
  obtain ⟨e0, he1, he2⟩ := E.2.1
  obtain ⟨kn', hk1, hk2⟩ := E.1
  have : kn' = kn := by rw [hkn] at hk1; cases hk1; rfl
  subst this
  refine m_So_init (Nat.le_of_ble_eq_true rfl) fun X hl hD hP hA => ?_
  subst hl hD
  refine xgo [41, 71, 110] 80 hA ?_
  -- three lists
  refine xn (by omega) (by omega) fun le hle => ?_
  have n1 : so ≠ le := xnn hso hle
  refine xcI (c_AL_init (E.kept ((kp.refl _).new hle)) (xset_same _ _ _)) (by rfl) (by rfl) (by rfl) (Nat.zero_le _) (Nat.zero_le _) ?_
  rintro o h1 ⟨e, hl1, rfl, rfl⟩
  have ee : e = e0 := by
    rcases hl1.2.2.2 with ⟨-, z, -⟩ | ⟨z, -⟩
    · rw [he1] at z; cases z; rfl
    · exact absurd z (Nat.lt_irrefl _)
  subst ee
  rw [xset_set]
  refine xp (xst2 n1 hso) rfl rfl ?_ -- 12 f5.0
  obtain ⟨h3, hh3⟩ : ∃ h3, h3 = xset (xset h le (12, [.int 0, .ref e, .int 0])) so (5, [.null, .null, .null, .null, .null].set 0 (.ref le)) := ⟨_, rfl⟩
  rw [← hh3]
  have f3 : fr [so] h h3 := by rw [hh3]; exact ((fr.refl _ _).put (Or.inr hle)).put (Or.inl (by simp))
  have k3 : kp h h3 := f3.im1 hso rfl
  have so3 : h3 so = some (5, [.ref le, .null, .null, .null, .null]) := by rw [hh3]; exact xset_same _ _ _
  have le3 : h3 le = some (12, [.int 0, .ref e, .int 0]) := by rw [hh3]; exact xst2 (Ne.symm n1) (xset_same _ _ _)
  clear hh3 hl1
  refine xn (by omega) (by omega) fun lt hlt => ?_
  have n2 : so ≠ lt := xnn so3 hlt
  refine xcI (c_AL_init ((E.kept k3).kept ((kp.refl _).new hlt)) (xset_same _ _ _)) (by rfl) (by rfl) (by rfl) (Nat.zero_le _) (Nat.zero_le _) ?_
  rintro o h4 ⟨e', hl1, rfl, rfl⟩
  have ee : e' = e := by
    rcases hl1.2.2.2 with ⟨-, z, -⟩ | ⟨z, -⟩
    · rw [he1] at z; cases z; rfl
    · exact absurd z (Nat.lt_irrefl _)
  subst ee
  rw [xset_set]
  refine xp (xst2 n2 so3) rfl rfl ?_ -- 23 f5.1
  obtain ⟨h5, hh5⟩ : ∃ h5, h5 = xset (xset h3 lt (12, [.int 0, .ref e', .int 0])) so (5, [.ref le, .null, .null, .null, .null].set 1 (.ref lt)) := ⟨_, rfl⟩
  rw [← hh5]
  have f35 : fr [so] h3 h5 := by rw [hh5]; exact ((fr.refl _ _).put (Or.inr hlt)).put (Or.inl (by simp))
  have f5 := f3.tr f35
  have k5 : kp h h5 := f5.im1 hso rfl
  have so5 : h5 so = some (5, [.ref le, .ref lt, .null, .null, .null]) := by rw [hh5]; exact xset_same _ _ _
  have lt5 : h5 lt = some (12, [.int 0, .ref e', .int 0]) := by rw [hh5]; exact xst2 (Ne.symm n2) (xset_same _ _ _)
  clear hh5 hl1
  refine xn (by omega) (by omega) fun ln hln => ?_
  have n3 : so ≠ ln := xnn so5 hln
  refine xcI (c_AL_init ((E.kept k5).kept ((kp.refl _).new hln)) (xset_same _ _ _)) (by rfl) (by rfl) (by rfl) (Nat.zero_le _) (Nat.zero_le _) ?_
  rintro o h6 ⟨e, hl1, rfl, rfl⟩
  have ee : e = e' := by
    rcases hl1.2.2.2 with ⟨-, z, -⟩ | ⟨z, -⟩
    · rw [he1] at z; cases z; rfl
    · exact absurd z (Nat.lt_irrefl _)
  subst ee
  rw [xset_set]
  refine xp (xst2 n3 so5) rfl rfl ?_ -- 34 f5.2
  obtain ⟨h7, hh7⟩ : ∃ h7, h7 = xset (xset h5 ln (12, [.int 0, .ref e, .int 0])) so (5, [.ref le, .ref lt, .null, .null, .null].set 2 (.ref ln)) := ⟨_, rfl⟩
  rw [← hh7]
  have f57 : fr [so] h5 h7 := by rw [hh7]; exact ((fr.refl _ _).put (Or.inr hln)).put (Or.inl (by simp))
  have f7 := f5.tr f57
  have k7 : kp h h7 := f7.im1 hso rfl
  have so7 : h7 so = some (5, [.ref le, .ref lt, .ref ln, .null, .null]) := by rw [hh7]; exact xset_same _ _ _
  have ln7 : h7 ln = some (12, [.int 0, .ref e, .int 0]) := by rw [hh7]; exact xst2 (Ne.symm n3) (xset_same _ _ _)
  clear hh7 hl1
  -- the root
  refine xn (by omega) (by omega) fun ro hro => ?_
  show xG X 41 [(0, .ref so)] [.ref ro, .ref so] _ _ _
  have n4 : so ≠ ro := xnn so7 hro
  refine xgo [49] 40 hA ?_
  refine xn (by omega) (by omega) fun rn hrn => ?_
  have n5 : ro ≠ rn := fun z => by rw [← z, xset_same] at hrn; cases hrn
  have hrn7 : h7 rn = none := by rw [xset_ne _ _ (Ne.symm n5)] at hrn; exact hrn
  show xG X 49 [(0, .ref so)] [X.D.sv 0, .ref rn, .ref rn, .ref ro, .ref ro, .ref so] _ _ _
  rw [hkn]
  refine xgo [71] 40 hA ?_
  refine xcI (c_Sl_init (xset_same _ _ _) rfl) (by rfl) (by rfl) (by rfl) (Nat.zero_le _) (Nat.zero_le _) ?_
  rintro o h8 ⟨rfl, rfl⟩
  rw [xset_set]
  have k8 : kp h7 (xset (xset h7 ro (4, elZ)) rn (2, [.ref kn', .int 0, .int 0])) := ((kp.refl _).new hro).new hrn7
  refine xcI (c_El_init0 ((E.kept k7).kept k8) (xst2 n5 (xset_same _ _ _))) (by rfl) (by rfl) (by rfl) (by omega) (by omega) ?_
  rintro o h9 ⟨rf, e', hrf, hl9, rfl, rfl⟩
  have n6 : so ≠ rn := xnn so7 hrn7
  have n7 : rf ≠ ro := fun z => by rw [z, xset_ne _ _ n5, xset_same] at hrf; cases hrf
  have n8 : rf ≠ rn := fun z => by rw [z, xset_same] at hrf; cases hrf
  have hrf7 : h7 rf = none := by rw [xset_ne _ _ n8, xset_ne _ _ n7] at hrf; exact hrf
  have n9 : so ≠ rf := xnn so7 hrf7
  have cell : xset (xset (xset (xset h7 ro (4, elZ)) rn (2, [.ref kn', .int 0, .int 0])) rf (12, [.int 0, .ref e', .int 0])) ro (4, [.ref rn, .null, .null, .int (-1), .int 0, .int (-1), .int 0, .ref rf, .null, .int 0, .int 0, .int 0, .int 0, .int 0, .int 0]) so = some (5, [.ref le, .ref lt, .ref ln, .null, .null]) := xst2 n4 (xst2 n9 (xst2 n6 (xst2 n4 so7)))
  refine xp cell rfl rfl ?_ -- 60 f5.3
  refine xg (xset_same _ _ _) (by rfl) ?_ -- 65 f5.3
  refine xp (xset_same _ _ _) rfl rfl ?_ -- 68 f5.4
  rw [xset_set]
  obtain ⟨h10, hh10⟩ : ∃ h10, h10 = xset (xset (xset (xset (xset h7 ro (4, elZ)) rn (2, [.ref kn', .int 0, .int 0])) rf (12, [.int 0, .ref e', .int 0])) ro (4, [.ref rn, .null, .null, .int (-1), .int 0, .int (-1), .int 0, .ref rf, .null, .int 0, .int 0, .int 0, .int 0, .int 0, .int 0])) so (5, [.ref le, .ref lt, .ref ln, .ref ro, .ref ro]) := ⟨_, rfl⟩
  have f710 : fr [so] h7 h10 := by rw [hh10]; exact (((((fr.refl _ _).put (Or.inr hro)).put (Or.inr hrn7)).put (Or.inr hrf7)).put (Or.inr hro)).put (Or.inl (by simp))
  have f10 := f7.tr f710
  have k10 : kp h h10 := f10.im1 hso rfl
  have so10 : h10 so = some (5, [.ref le, .ref lt, .ref ln, .ref ro, .ref ro]) := by rw [hh10]; exact xset_same _ _ _
  have ro10 : h10 ro = some (4, [.ref rn, .null, .null, .int (-1), .int 0, .int (-1), .int 0, .ref rf, .null, .int 0, .int 0, .int 0, .int 0, .int 0, .int 0]) := by rw [hh10]; exact xst2 (Ne.symm n4) (xset_same _ _ _)
  have le10 : h10 le = some (12, [.int 0, .ref e, .int 0]) := f710.one (f57.one (f35.one le3 (Ne.symm n1)) (Ne.symm n1)) (Ne.symm n1)
  have lt10 : h10 lt = some (12, [.int 0, .ref e, .int 0]) := f710.one (f57.one lt5 (Ne.symm n2)) (Ne.symm n2)
  have ln10 : h10 ln = some (12, [.int 0, .ref e, .int 0]) := f710.one ln7 (Ne.symm n3)
  have d1 : le ≠ lt := xnn le3 hlt
  have d2 : le ≠ ln := xnn (f35.one le3 (Ne.symm n1)) hln
  have d3 : lt ≠ ln := xnn lt5 hln
  show xG X 71 [(0, .ref so)] [] (xset (xset (xset (xset (xset h7 ro (4, elZ)) rn (2, [.ref kn', .int 0, .int 0])) rf (12, [.int 0, .ref e', .int 0])) ro (4, [.ref rn, .null, .null, .int (-1), .int 0, .int (-1), .int 0, .ref rf, .null, .int 0, .int 0, .int 0, .int 0, .int 0, .int 0])) so (5, [.ref le, .ref lt, .ref ln, .ref ro, .ref ro])) 10 34
  rw [← hh10]
  clear hh10 hl9 cell
  -- lt
  refine xgo [86] 40 hA ?_
  refine xg so10 (by rfl) ?_ -- 72 f5.2
  refine xn (by omega) (by omega) fun x1 hx1 => ?_
  refine xn (by omega) (by omega) fun s1 hs1 => ?_
  have m1 : x1 ≠ s1 := fun z => by rw [← z, xset_same] at hs1; cases hs1
  have hs1' : h10 s1 = none := by rw [xset_ne _ _ (Ne.symm m1)] at hs1; exact hs1
  show xG X 86 [(0, .ref so)] [X.D.sv 0, .ref s1, .ref s1, .ref x1, .ref x1, .ref ln] _ _ _
  rw [hkn]
  refine xgo [98] 40 hA ?_
  refine xcI (c_Sl_init (xset_same _ _ _) rfl) (by rfl) (by rfl) (by rfl) (Nat.zero_le _) (Nat.zero_le _) ?_
  rintro o h11 ⟨rfl, rfl⟩
  rw [xset_set]
  refine xn (by omega) (by omega) fun s2 hs2 => ?_
  have m2 : x1 ≠ s2 := fun z => by rw [← z, xset_ne _ _ m1, xset_same] at hs2; cases hs2
  have m3 : s1 ≠ s2 := fun z => by rw [← z, xset_same] at hs2; cases hs2
  have hs2' : h10 s2 = none := by rw [xset_ne _ _ (Ne.symm m3), xset_ne _ _ (Ne.symm m2)] at hs2; exact hs2
  show xG X 98 [(0, .ref so)] [X.D.sv 0, .ref s2, .ref s2, .ref s1, .ref x1, .ref x1, .ref ln] _ _ _
  rw [hkn]
  refine xgo [110] 40 hA ?_
  refine xcI (c_Sl_init (xset_same _ _ _) rfl) (by rfl) (by rfl) (by rfl) (Nat.zero_le _) (Nat.zero_le _) ?_
  rintro o h12 ⟨rfl, rfl⟩
  rw [xset_set]
  refine xcI (c_Nd_init (xst2 m2 (xst2 m1 (xset_same _ _ _)))) (by rfl) (by rfl) (by rfl) (Nat.zero_le _) (Nat.zero_le _) ?_
  rintro o h13 ⟨rfl, rfl⟩
  obtain ⟨h14, hh14⟩ : ∃ h14, h14 = xset (xset (xset (xset h10 x1 (3, [.null, .null])) s1 (2, [.ref kn', .int 0, .int 2])) s2 (2, [.ref kn', .int 2, .int 1])) x1 (3, [.ref s1, .ref s2]) := ⟨_, rfl⟩
  have f14 : fr [] h10 h14 := by rw [hh14]; exact ((((fr.refl _ _).put (Or.inr hx1)).put (Or.inr hs1')).put (Or.inr hs2')).put (Or.inr hx1)
  have k14 : kp h10 h14 := f14.im fun q hq => by cases hq
  have kn14 : h14 kn' = some (201, txv knB) := k14 _ _ (k10 _ _ hk2 rfl) rfl
  have N1 : isNm B h14 x1 (wLt, [60]) := by
    refine ⟨s1, s2, by rw [hh14]; exact xset_same _ _ _, ?_, ?_⟩
    · exact isS.kn (f := 0) (by rw [hh14]; exact xst2 (Ne.symm m1) (xst2 m3 (xset_same _ _ _))) kn14 hB (by decide) (by decide)
    · exact isS.kn (f := 2) (by rw [hh14]; exact xst2 (Ne.symm m2) (xset_same _ _ _)) kn14 hB (by decide) (by decide)
  have x14 : ∃ v, h14 x1 = some (3, v) := ⟨_, by rw [hh14]; exact xset_same _ _ _⟩
  rw [← hh14]
  clear hh14
  obtain ⟨v14, x14⟩ := x14
  have E14 := (E.kept k10).kept k14
  have L14 : isL X.D h14 ln e [] := isL_nil (f14 _ _ ln10 (by simp)) he1 (k14 _ _ (k10 _ _ he2 rfl) rfl)
  obtain ⟨vl, hvl⟩ := L14.cell
  refine xcV hvl (c_addL E14 L14 x14 rfl (fun y hy => by cases hy) (by decide)) (by rfl) (by rfl) (by rfl) (Nat.le_trans (amc_le _ _) (by decide)) (by decide) ?_
  rintro o h15 ⟨⟨e3, L15, y2⟩, f15, k15, rfl⟩
  have so15 : h15 so = some (5, [.ref le, .ref lt, .ref ln, .ref ro, .ref ro]) := f15 _ _ (f14 _ _ so10 (by simp)) (L14.off (f14 _ _ so10 (by simp)) (by decide) (by decide))
  have he3 : h14 e3 = none := by
    rcases y2 with ⟨z, -⟩ | z
    · exact absurd rfl z
    · exact z
  show xG X 110 [(0, .ref so)] [] h15 6 16
  have E15 := E14.kept k15
  have k015 : kp h h15 := (k10.tr k14).tr k15
  -- amp
  refine xgo [125] 40 hA ?_
  refine xg so15 (by rfl) ?_
  refine xn (by omega) (by omega) fun x2 hx2 => ?_
  refine xn (by omega) (by omega) fun s3 hs3 => ?_
  have m4 : x2 ≠ s3 := fun z => by rw [← z, xset_same] at hs3; cases hs3
  have hs3' : h15 s3 = none := by rw [xset_ne _ _ (Ne.symm m4)] at hs3; exact hs3
  show xG X 125 [(0, .ref so)] [X.D.sv 0, .ref s3, .ref s3, .ref x2, .ref x2, .ref ln] _ _ _
  rw [hkn]
  refine xgo [137] 40 hA ?_
  refine xcI (c_Sl_init (xset_same _ _ _) rfl) (by rfl) (by rfl) (by rfl) (Nat.zero_le _) (Nat.zero_le _) ?_
  rintro o h16 ⟨rfl, rfl⟩
  rw [xset_set]
  refine xn (by omega) (by omega) fun s4 hs4 => ?_
  have m5 : x2 ≠ s4 := fun z => by rw [← z, xset_ne _ _ m4, xset_same] at hs4; cases hs4
  have m6 : s3 ≠ s4 := fun z => by rw [← z, xset_same] at hs4; cases hs4
  have hs4' : h15 s4 = none := by rw [xset_ne _ _ (Ne.symm m6), xset_ne _ _ (Ne.symm m5)] at hs4; exact hs4
  show xG X 137 [(0, .ref so)] [X.D.sv 0, .ref s4, .ref s4, .ref s3, .ref x2, .ref x2, .ref ln] _ _ _
  rw [hkn]
  refine xgo [] 40 hA ?_
  refine xcI (c_Sl_init (xset_same _ _ _) rfl) (by rfl) (by rfl) (by rfl) (Nat.zero_le _) (Nat.zero_le _) ?_
  rintro o h17 ⟨rfl, rfl⟩
  rw [xset_set]
  refine xcI (c_Nd_init (xst2 m5 (xst2 m4 (xset_same _ _ _)))) (by rfl) (by rfl) (by rfl) (Nat.zero_le _) (Nat.zero_le _) ?_
  rintro o h18 ⟨rfl, rfl⟩
  obtain ⟨h19, hh19⟩ : ∃ h19, h19 = xset (xset (xset (xset h15 x2 (3, [.null, .null])) s3 (2, [.ref kn', .int 3, .int 3])) s4 (2, [.ref kn', .int 6, .int 1])) x2 (3, [.ref s3, .ref s4]) := ⟨_, rfl⟩
  have f19 : fr [] h15 h19 := by rw [hh19]; exact ((((fr.refl _ _).put (Or.inr hx2)).put (Or.inr hs3')).put (Or.inr hs4')).put (Or.inr hx2)
  have k19 : kp h15 h19 := f19.im fun q hq => by cases hq
  have kn19 : h19 kn' = some (201, txv knB) := k19 _ _ (k015 _ _ hk2 rfl) rfl
  have N2 : isNm B h19 x2 (wAmp, [38]) := by
    refine ⟨s3, s4, by rw [hh19]; exact xset_same _ _ _, ?_, ?_⟩
    · exact isS.kn (f := 3) (by rw [hh19]; exact xst2 (Ne.symm m4) (xst2 m6 (xset_same _ _ _))) kn19 hB (by decide) (by decide)
    · exact isS.kn (f := 6) (by rw [hh19]; exact xst2 (Ne.symm m5) (xset_same _ _ _)) kn19 hB (by decide) (by decide)
  have x19 : ∃ v, h19 x2 = some (3, v) := ⟨_, by rw [hh19]; exact xset_same _ _ _⟩
  rw [← hh19]
  clear hh19
  obtain ⟨v19, x19⟩ := x19
  have L19 : isL X.D h19 ln e3 [x1] := L15.frm f19 k19 (by simp) (by simp)
  have N1' : isNm B h19 x1 (wLt, [60]) := (N1.kept k15).kept k19
  obtain ⟨vl2, hvl2⟩ := L19.cell
  refine xcV hvl2 (c_addL (E15.kept k19) L19 x19 rfl (fun y hy => by
    rw [List.mem_singleton.mp hy]; exact N1'.ok) (Nat.lt_of_lt_of_le (show 1 < 2 by decide) (by decide))) (by rfl) (by rfl) (by rfl) (Nat.le_of_ble_eq_true rfl) (Nat.le_of_ble_eq_true rfl) ?_
  rintro o h20 ⟨⟨e4, L20, z2⟩, f20, k20, rfl⟩
  have ee4 : e4 = e3 ∨ h19 e4 = none := z2.elim (fun z => Or.inl z.2) Or.inr
  -- all together
  have off15 : ∀ {q k v}, h10 q = some (k, v) → q ≠ ln → k ≠ 104 → h15 q = some (k, v) := fun {q k v} hq h1 h2 => f15 _ _ (f14 _ _ hq (by simp)) (fun z => by
    rcases List.mem_cons.mp z with z | z
    · exact h1 z
    · cases z)
  have off20 : ∀ {q k v}, h10 q = some (k, v) → q ≠ ln → k ≠ 104 → h20 q = some (k, v) := fun {q k v} hq h1 h2 => f20 _ _ (f19 _ _ (off15 hq h1 h2) (by simp)) (fun z => by
    rcases List.mem_cons.mp z with z | z
    · exact h1 z
    · obtain ⟨z, -⟩ := oL_sub _ _ z
      subst z
      obtain ⟨w, hw⟩ := L19.arr (by simp)
      rw [f19 _ _ (off15 hq h1 h2) (by simp)] at hw
      cases hw
      exact h2 rfl)
  have k020 : kp h h20 := (k015.tr k19).tr k20
  have e20 : h20 e = some (204, []) := k020 _ _ he2 rfl
  have hln0 : h ln = none := by
    cases q : h ln with
    | none => rfl
    | some c => rw [f5.one q (Ne.symm n3)] at hln; cases hln
  have hlt0 : h lt = none := by
    cases q : h lt with
    | none => rfl
    | some c => rw [f3.one q (Ne.symm n2)] at hlt; cases hlt
  have hro0 : h ro = none := by
    cases q : h ro with
    | none => rfl
    | some c => rw [f7.one q (Ne.symm n4)] at hro; cases hro
  have f014 : fr [so] h h14 := f10.trans f14 fun q hq => by cases hq
  have nso : ∀ q, h14 q = none → h q = none := fun q hq => by
    cases y : h q with
    | none => rfl
    | some c =>
      have : q ≠ so := fun z => by rw [z, f14 _ _ so10 (by simp)] at hq; cases hq
      rw [f014.one y this] at hq; cases hq
  have he30 : h e3 = none := nso e3 he3
  have f015 : fr [so] h h15 := f014.trans f15 fun q hq => by
    rcases List.mem_cons.mp hq with z | z
    · rw [z]; exact Or.inr hln0
    · cases z
  have f019 : fr [so] h h19 := f015.trans f19 fun q hq => by cases hq
  have f020 : fr [so] h h20 := f019.trans f20 fun q hq => by
    rcases List.mem_cons.mp hq with z | z
    · rw [z]; exact Or.inr hln0
    · obtain ⟨z, -⟩ := oL_sub _ _ z
      rw [z]; exact Or.inr he30
  have he40 : h e4 = none := by
    rcases ee4 with z | z
    · rw [z]; exact he30
    · cases y : h e4 with
      | none => rfl
      | some c =>
        have : e4 ≠ so := fun w => by rw [w, f19 _ _ so15 (by simp)] at z; cases z
        rw [f019.one y this] at z; cases z
  refine xP hP ⟨rfl, f020, k020, ((ro, le, lt, ln), (e, e, e4), (rn, rf), (fun _ => 0, fun _ => 0, fun _ => 0, fun _ => 0, fun _ => []), [], [x1, x2]), ?_, ?_⟩
  · refine ⟨?_, ?_, ?_, ?_, L20, trivial, ⟨N1'.kept k20, N2.kept k20, trivial⟩, fun i hi => absurd hi (Nat.not_lt_zero _)⟩
    · exact off20 so10 n3 (by decide)
    · exact off20 ro10 (xne' ro10 ln10 (by decide)) (by decide)
    · exact isL_nil (off20 le10 d2 (by decide)) he1 e20
    · exact isL_nil (off20 lt10 d3 (by decide)) he1 e20
  · intro h0 hh hso0
    refine ⟨⟨hso0, hh _ hro0, hh _ hle, hh _ hlt0, hh _ hln0⟩, ⟨fun z => absurd rfl z, fun z => absurd rfl z, fun _ => hh _ he40⟩, ⟨d1, d2, d3⟩, ⟨fun z => absurd rfl z, fun z => absurd rfl z, fun z => absurd rfl z⟩, fun i hi => absurd hi (Nat.not_lt_zero _), fun i hi => absurd hi (Nat.not_lt_zero _)⟩
