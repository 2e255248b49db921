/-! CONTRACTS, 12: the begin of an element is read -/
theorem srcR.opc {B : Nat → Prop} {D : xD} {h : xH} {so : Nat} {t : List Nat} {S : SS} {G : SG} (R : srcR D B h so t S G) (hop : S.op ≤ S.n) : ∃ (p0 p1 p2 p3 p4 p6 p7 p10 p11 p12 p13 p14 : Value) (dp cn : Int32), h (pad G.ad G.ro S.op) = some (4, [p0, p1, p2, p3, p4, .int dp, p6, p7, rfn G.ad (nBef S), .int cn, p10, p11, p12, p13, p14]) ∧ dp + 1 = nI (nDep S) ∧ cn + 1 = nI (nNum S) := by
  unfold nBef nDep nNum
  cases e : S.op with
  | zero =>
    rw [if_pos rfl, if_pos rfl, if_pos rfl]
    exact ⟨_, _, _, _, _, _, _, _, _, _, _, _, -1, nI S.tm, R.2.1, rfl, nI_1 _⟩
  | succ k =>
    rw [if_neg (by omega), if_neg (by omega), if_neg (by omega), Nat.add_sub_cancel]
    exact ⟨_, _, _, _, _, _, _, _, _, _, _, _, nI (S.F 5 k), nI (S.F 8 k), (R.2.2.2.2.2.2.2 k (by omega)).1, nI_1 _, nI_1 _⟩
theorem rfn_or (ad : Nat → Nat) (x : Nat) : rfn ad x = .null ∨ ∃ a : Nat, rfn ad x = .ref a := by
  cases x with
  | zero => exact Or.inl rfl
  | succ k => exact Or.inr ⟨_, rfl⟩
theorem grw_addE (S : SS) (a : Nat × Nat) (bg : Nat) (fs : List PR) (S' : SS) (h1 : S'.n = S.n + 1) (h2 : S'.pc = S.pc) (h3 : S'.en = S.en) : grw S S' = gS (S.n + 1) - gS S.n := by
  unfold grw
  rw [h1, h2, h3]
  omega
theorem sBeg2_gr (t : List Nat) (j : Nat) (S0 S : SS) (h1 : S.n = S0.n + 1) (h2 : S.pc = S0.pc) (h3 : S.en = S0.en) : gS (S0.n + 1) - gS S0.n ≤ gRes S0 (sBeg2 t j S) := by
  unfold sBeg2
  split
  · cases e : pSig 62 t (scan bl t j + 1) with
    | error w => exact Nat.le_trans (Nat.le_add_right _ _) (Nat.le_add_right _ _)
    | ok q => exact Nat.le_of_eq (grw_addE S0 (0, 0) 0 [] _ h1 h2 h3).symm
  · cases e : pSig 62 t (scan bl t j) with
    | error w => exact Nat.le_trans (Nat.le_add_right _ _) (Nat.le_add_right _ _)
    | ok q => exact Nat.le_of_eq (grw_addE S0 (0, 0) 0 [] _ h1 h2 h3).symm
def addE1 (S : SS) (a : Nat × Nat) (bg : Nat) (fs : List PR) : SS := (S.n + 1, nF2 S a bg, (fun i => if i = S.n then fs else S.fd i), (if S.op = 0 then (S.tm + 1, S.n + 1) else (S.tm, S.tl)), (S.ps, S.pc), S.en, S.op)
set_option maxRecDepth 20000 in
theorem c_readBegin {B : Nat → Prop} {l : Launch} {D : xD} {h0 h : xH} {so r b i bg : Nat} {t : List Nat} {S : SS} (I : srcI D B h0 h so r b t i S) (hBb : B b) : xMet l D 9 y_So_readBeginOfElement [.ref so, .ref r, .int (nI bg)] h (cst 4 8 t.length i (sBeg t bg i S)) (cst 30 60 t.length i (sBeg t bg i S) + gRes S (sBeg t bg i S)) (sRes D B h0 so r b t (sBeg t bg i S)) := by
  obtain ⟨G, J0⟩ := I
  have J : srcJ D B h0 h so r b t i S G := J0
  have hc : 4 * 2 ≤ cst 4 8 t.length i (sBeg t bg i S) := cst_ge (sBeg_adv t bg i S) (by decide)
  have hs : 30 * 2 ≤ cst 30 60 t.length i (sBeg t bg i S) := cst_ge (sBeg_adv t bg i S) (by decide)
  generalize hmc : cst 4 8 t.length i (sBeg t bg i S) = mc at hc ⊢
  generalize hms : cst 30 60 t.length i (sBeg t bg i S) = ms at hs ⊢
  refine m_So_readBeginOfElement (Nat.le_of_ble_eq_true rfl) fun X hl hD hP hA => ?_
  subst hl hD
  -- the end of it
  have tail : ∀ (S1 : SS) (G1 : SG) (k el nm : Nat) (h8 : xH) (rc rs : Nat), 0 < S1.n → G1.ad (S1.n - 1) = el → srcJ X.D B h0 h8 so r b t k S1 G1 → sBeg t bg i S = sBeg2 t k S1 → 1 ≤ rc → 6 ≤ rs → xG X 126 [(4, .ref el), (3, .ref nm), (0, .ref so), (1, .ref r), (2, .int (nI bg))] [] h8 rc rs := by
    intro S1 G1 k el nm h8 rc rs hn1 hel J8 eR hrc hrs
    have hsc := scan_ge bl t k
    have H9 := J8.1.mv (br' := -1) (scan_le J8.1.2.2.1 (p := bl))
    have J9 := J8.adv (fr.set _ _ _) H9 hsc
    refine xgo [] 60 hA ?_
    refine xcV J8.1.1 (c_nextSign J8.1) (by rfl) (by rfl) (by rfl) (Nat.zero_le _) (Nat.zero_le _) ?_
    rintro o h9 ⟨rfl, rfl⟩
    refine xb (fun c => ?_) (fun c => ?_)
    · have c1 : ¬ ch t (scan bl t k) = 47 := fun z => c (by rw [z]; rfl)
      have eR2 : sBeg t bg i S = pB (pSig 62 t (scan bl t k)) fun _ m => .ok (opnE S1 S1.n, m) := by rw [eR, sBeg2, if_neg c1]
      refine xcV H9.1 (c_expectSign H9 (c := 62) rfl (by decide)) (by rfl) (by rfl) (by rfl) (by omega) (by omega) ?_
      intro o h10 q
      rcases q.cs with ⟨w, e2, z⟩ | ⟨y, m, e2, H10, f10, rfl⟩
      · obtain ⟨ex, rfl⟩ := z.hr
        exact xP hP (sRes.er (by rw [eR2, pB_er e2]) (z.base J9.2.1))
      have hkm := pSig_adv 62 (by decide) t _ y m e2
      have J10 := J9.adv f10.nil H10 (by omega)
      obtain ⟨-, f05, E5, R5, P5, O5⟩ := J10
      have r51 := R5.1
      refine xp r51 rfl rfl ?_ -- 173 f5.4
      refine xP hP (sRes.ok (by rw [eR2, pB_ok e2]) ?_ rfl)
      have e3 : G1.ad (S1.n - 1) = pad G1.ad G1.ro S1.n := by
        obtain ⟨k', hk'⟩ : ∃ k', S1.n = k' + 1 := ⟨S1.n - 1, by omega⟩
        rw [hk']; rfl
      have R6 := R5.opn (op := S1.n)
      rw [← e3, hel] at R6
      refine ⟨G1, ⟨xst2 (xne' H10.1 r51 (by decide)) H10.1, xst2 (xne' H10.2.1 r51 (by decide)) H10.2.1, H10.2.2⟩, f05.put (Or.inr P5.1.1), E5.kept ((kp.refl _).put r51 rfl), R6, P5, ?_⟩
      obtain ⟨o1, o2, o3, o4, o5⟩ := O5
      exact ⟨Nat.le_refl _, o2, o3, o4, o5⟩
    · have c1 : ch t (scan bl t k) = 47 := (cI_lit (J8.1.2.2.2.2.le _) (by decide)).mp c
      have hlt := ch_lt c1 (by decide)
      have eR2 : sBeg t bg i S = pB (pSig 62 t (scan bl t k + 1)) fun _ m => .ok (finE S1 (S1.n - 1) m, m) := by rw [eR, sBeg2, if_pos c1]
      refine xg H9.1 (by rfl) ?_ -- 137 f1.1
      refine xp H9.1 rfl rfl ?_ -- 142 f1.1
      rw [nI_1]
      have H10 := H9.mv (br' := -1) (j := scan bl t k + 1) hlt
      have J10 := J9.adv (fr.set _ _ _) H10 (by omega)
      refine xcV H10.1 (c_expectSign H10 (c := 62) rfl (by decide)) (by rfl) (by rfl) (by rfl) (by omega) (by omega) ?_
      intro o h11 q
      rcases q.cs with ⟨w, e2, z⟩ | ⟨y, m, e2, H11, f11, rfl⟩
      · obtain ⟨ex, rfl⟩ := z.hr
        exact xP hP (sRes.er (by rw [eR2, pB_er e2]) (z.base J10.2.1))
      have hkm := pSig_adv 62 (by decide) t _ y m e2
      have J11 := J10.adv f11.nil H11 (by omega)
      refine xg H11.1 (by rfl) ?_ -- 155 f1.1
      have cF := c_finish (l := X.l) (j := m) J11 (e := S1.n - 1) (by omega)
      rw [hel] at cF
      refine xcV J11.2.2.2.1.1 cF (by rfl) (by rfl) (by rfl) (Nat.zero_le _) (Nat.zero_le _) ?_
      rintro o h12 ⟨J12, rfl⟩
      exact xP hP (sRes.ok (by rw [eR2, pB_ok e2]) ⟨G1, J12⟩ rfl)
  refine xgo [50, 109, 126] 80 hA ?_
  refine xcV J.1.1 (c_readName J.1) (by rfl) (by rfl) (by rfl) (by omega) (by omega) ?_
  intro o h1 q
  rcases q.cs with ⟨w, e1, z⟩ | ⟨a, j, e1, H1, f1, nm, rfl, hsn, hs1⟩
  · obtain ⟨ex, rfl⟩ := z.hr
    exact xP hP (sRes.er (by rw [sBeg, pB_er e1]) (z.base J.2.1))
  have hij := pName_adv t i a j e1
  obtain ⟨n1, n2, n3, n4, -⟩ := pName_sub e1
  have J1 := J.adv f1.nil H1 (by omega)
  have R1 := J1.2.2.2.1
  have P1 := J1.2.2.2.2.1
  have O1 := J1.2.2.2.2.2
  have E1 := J1.2.2.1
  have f01 := J1.2.1
  have hS1 : isS B h1 nm (sub t a) := isS.of hs1 H1.2.1 (by omega) H1.2.2.2.1 H1.2.2.2.2 hBb
  refine xn (by omega) (by omega) fun el hel => ?_
  have k2 : kp h1 (xset h1 el (4, elZ)) := (kp.refl _).new hel
  have R2 : srcR X.D B (xset h1 el (4, elZ)) so t S G := R1.adv (M := []) (fr.new hel _ _) (fun q hq => by cases hq)
  refine xg R2.1 (by rfl) ?_ -- 11 f5.4
  refine xg R2.1 (by rfl) ?_ -- 15 f5.0
  obtain ⟨v2, hv2⟩ := R2.2.2.1.cell
  refine xcV hv2 (c_AL_size R2.2.2.1) (by rfl) (by rfl) (by rfl) (Nat.zero_le _) (Nat.zero_le _) ?_
  rintro o h2 ⟨rfl, rfl⟩
  have hlen : (elA S G).length = S.n := by simp [elA]
  rw [hlen]
  obtain ⟨p0, p1, p2, p3, p4, p6, p7, p10, p11, p12, p13, p14, dp, cn, hpa, hdp, hcn⟩ := R2.opc O1.1
  obtain ⟨_, _, _, _, _, _, _, _, _, _, _, _, _, _, hpa1, _⟩ := R1.opc O1.1
  refine xcI (c_El_init (E1.kept k2) (xset_same _ _ _) hpa (fun z => by rw [z] at hpa1; rw [hel] at hpa1; cases hpa1) (rfn_or _ _)) (by rfl) (by rfl) (by rfl) (by omega) (by omega) ?_
  rintro o h3 ⟨fl, e0, hfl, hL3, rfl, rfl⟩
  rw [hdp, hcn] at *
  have hfe : fl ≠ el := fun z => by rw [z, xset_same] at hfl; cases hfl
  have hfl1 : h1 fl = none := by rw [xset_ne _ _ hfe] at hfl; exact hfl
  have e3 : xset (xset (xset h1 el (4, elZ)) fl (12, [.int 0, .ref e0, .int 0])) el (4, nwV S G nm fl bg 0) = xset (xset h1 fl (12, [.int 0, .ref e0, .int 0])) el (4, nwV S G nm fl bg 0) := by
    rw [xset_comm _ _ _ (Ne.symm hfe), xset_set]
  generalize hh3 : xset (xset (xset h1 el (4, elZ)) fl (12, [.int 0, .ref e0, .int 0])) el (4, [.ref nm, .ref (pad G.ad G.ro S.op), rfn G.ad (nBef S), .int (nI S.n), .int (nI (nNum S)), .int (nI (nDep S)), .int (nI bg), .ref fl, .null, .int 0, .int 0, .int 0, .int 0, .int 0, .int 0]) = h3 at hL3 ⊢
  have hh3' : h3 = xset (xset h1 fl (12, [.int 0, .ref e0, .int 0])) el (4, nwV S G nm fl bg 0) := by rw [← hh3]; exact e3
  have el3 : h3 el = some (4, nwV S G nm fl bg 0) := by rw [hh3', xset_same]
  have f13 : fr [r] h1 h3 := by rw [hh3']; exact ((fr.refl _ _).put (Or.inr hfl1)).put (Or.inr hel)
  have H3 : rdr h3 r b t j (-1) := H1.fr f13 (by simpa using H1.ne) (by rw [hh3']; exact xst2 (xnn H1.1 hel) (xst2 (xnn H1.1 hfl1) H1.1)) H1.2.2.1
  have J3 := J1.adv f13 H3 (Nat.le_refl _)
  have R3 := J3.2.2.2.1
  have E3 := J3.2.2.1
  have f03 := J3.2.1
  have hel0 : h0 el = none := f01.none H1.1 hel
  have hfl0 : h0 fl = none := f01.none H1.1 hfl1
  have hdep : nDep S ≤ 20 := by
    unfold nDep
    split
    · omega
    · have := (O1.2.2.2.1 (S.op - 1) (by have := O1.1; omega)).2.2.2
      omega
  have bad : (500 ≤ S.n ∨ 20 ≤ nDep S) → ∀ rc rs, 1 ≤ rc → 6 ≤ rs → xG X 50 [(4, .ref el), (3, .ref nm), (0, .ref so), (1, .ref r), (2, .int (nI bg))] [] h3 rc rs := by
    intro hbad rc rs hrc hrs
    have hs3 : h3 nm = some (slc b a) := f13.one hs1 (xne' hs1 H1.1 (by decide))
    refine xgo [] 40 hA ?_
    refine xg hs3 (by rfl) ?_
    refine xfail H3 i (by rw [n1]) rfl (by omega) (by omega) fun e h4 q => xP hP ?_
    exact sRes.er (by rw [sBeg, pB_ok e1, if_pos hbad]) (q.base f03)
  refine xg R3.1 (by rfl) ?_ -- 28 f5.0
  obtain ⟨v3, hv3⟩ := R3.2.2.1.cell
  refine xcV hv3 (c_AL_size R3.2.2.1) (by rfl) (by rfl) (by rfl) (Nat.zero_le _) (Nat.zero_le _) ?_
  rintro o h3' ⟨rfl, rfl⟩
  rw [hlen]
  have hn500 := O1.2.1
  refine xb (fun c => ?_) (fun c => ?_)
  · exact bad (Or.inl ((nI_leI (a := 500) (by omega) (by omega)).mp c)) _ _ (by omega) (by omega)
  have c500 : S.n < 500 := Nat.lt_of_not_le fun z => c (nI_le (a := 500) z (by omega))
  refine xg el3 (by rfl) ?_ -- 42 f4.5
  refine xb (fun c => ?_) (fun c => bad (Or.inr (Nat.le_of_not_lt fun z => c (nI_lt (b := 20) z (by omega)))) _ _ (by omega) (by omega))
  have c20 : nDep S < 20 := (nI_ltI (b := 20) (by omega) (by omega)).mp c
  have hg : ¬ (500 ≤ S.n ∨ 20 ≤ nDep S) := by omega
  have eR : sBeg t bg i S = pB (sFld t 6 j []) fun fs k => sBeg2 t k (addE S a bg fs) := by rw [sBeg, pB_ok e1, if_neg hg]
  have cb1 : cst 4 8 t.length j (sFld t 6 j []) + 4 ≤ mc := by
    rw [← hmc, eR]
    cases e2 : sFld t 6 j [] with
    | error w => rw [pB_er rfl, cst_er rfl, cst_er rfl]; omega
    | ok q =>
      have ha2 := sFld_adv t 6 [] H3.2.2.1 q.1 q.2 e2
      rw [cst_shift (i := i) (j := q.2) (by omega) ha2.2 (show adv t q.2 0 (pB (.ok q) _) from (sBeg2_adv t q.2 _).weak (by decide)), cst_ok rfl]
      omega
  have cb2 : cst 30 60 t.length j (sFld t 6 j []) + 30 ≤ ms := by
    rw [← hms, eR]
    cases e2 : sFld t 6 j [] with
    | error w => rw [pB_er rfl, cst_er rfl, cst_er rfl]; omega
    | ok q =>
      have ha2 := sFld_adv t 6 [] H3.2.2.1 q.1 q.2 e2
      rw [cst_shift (i := i) (j := q.2) (by omega) ha2.2 (show adv t q.2 0 (pB (.ok q) _) from (sBeg2_adv t q.2 _).weak (by decide)), cst_ok rfl]
      omega
  refine xcV R3.1 (c_readFields (B := B) (so := so) E3 H3 el3 rfl hL3 hBb) (by rfl) (by rfl) (by rfl) (by omega) (by omega) ?_
  rintro o h4 ⟨k34, q⟩
  rcases q.cs with ⟨w, e2, z⟩ | ⟨fs, k, e2, H4, f34, rfl, ef, fas, L4, N4, hef⟩
  · obtain ⟨ex, rfl⟩ := z.hr
    exact xP hP (sRes.er (by rw [eR, pB_er e2]) (z.tr f03 fun q hq => Or.inr (by rw [List.mem_singleton.mp hq]; exact hfl0)))
  have hjk := sFld_adv t 6 [] H3.2.2.1 fs k e2
  have eR2 : sBeg t bg i S = sBeg2 t k (addE S a bg fs) := by rw [eR, pB_ok e2]
  have cc1 : cst 4 8 t.length j (sFld t 6 j []) + 8 ≤ mc := by
    have hge : 4 * 1 ≤ cst 4 8 t.length k (sBeg2 t k (addE S a bg fs)) := cst_ge (sBeg2_adv t k _) (by decide)
    rw [← hmc, eR2, cst_shift (i := i) (j := k) (by omega) hjk.2 ((sBeg2_adv t k _).weak (by decide)), cst_ok e2]
    omega
  have cc2 : cst 30 60 t.length j (sFld t 6 j []) + 60 ≤ ms := by
    have hge : 30 * 1 ≤ cst 30 60 t.length k (sBeg2 t k (addE S a bg fs)) := cst_ge (sBeg2_adv t k _) (by decide)
    rw [← hms, eR2, cst_shift (i := i) (j := k) (by omega) hjk.2 ((sBeg2_adv t k _).weak (by decide)), cst_ok e2]
    omega
  have hgr : gS (S.n + 1) - gS S.n ≤ gRes S (sBeg t bg i S) := by
    rw [eR2]
    exact sBeg2_gr t k S _ rfl rfl rfl
  have hn4 : S.n + 1 ≤ 2 ^ 18 := by omega
  have f14 : fr [r] h1 h4 := f13.trans f34 fun q hq => by
    rcases List.mem_cons.mp hq with rfl | hq
    · exact Or.inl (by simp)
    · rw [List.mem_singleton.mp hq]; exact Or.inr hfl1
  have k14 : kp h1 h4 := f14.im1 H1.1 rfl
  have J4 := J1.adv f14 H4 (by omega)
  have R4 := J4.2.2.2.1
  have E4 := J4.2.2.1
  have f04 := J4.2.1
  have hle1 : ∃ v, h1 G.le = some (12, v) := R1.2.2.1.cell
  have hlt1 : ∃ v, h1 G.lt = some (12, v) := R1.2.2.2.1.cell
  have hln1 : ∃ v, h1 G.ln = some (12, v) := R1.2.2.2.2.1.cell
  have helr : el ≠ r := fun z => by rw [z, H1.1] at hel; cases hel
  have el4 : h4 el = some (4, nwV S G nm fl bg 0) := f34 _ _ el3 (by simp [helr, Ne.symm hfe])
  refine xg R4.1 (by rfl) ?_ -- 66 f5.0
  obtain ⟨v4, hv4⟩ := R4.2.2.1.cell
  refine xcV hv4 (c_addL E4 R4.2.2.1 el4 rfl (fun y hy => by
    obtain ⟨q, hq, rfl⟩ := List.mem_map.mp hy
    exact ⟨4, _, (R4.2.2.2.2.2.2.2 q (List.mem_range.mp hq)).1, rfl⟩) (by rw [hlen]; omega)) (by rfl) (by rfl) (by rfl) (Nat.le_trans (amc_le _ _) (by omega)) (by rw [hlen]; omega) ?_
  rintro o h5 ⟨⟨e1', y1, y2⟩, y3, y4, rfl⟩
  have am := amc_le (capN (elA S G).length) (elA S G).length
  have el5 : h5 el = some (4, nwV S G nm fl bg 0) := y3 _ _ el4 (R4.2.2.1.off el4 (by decide) (by decide))
  have r51 := y3 _ _ R4.1 (R4.2.2.1.off R4.1 (by decide) (by decide))
  have L5t := R4.2.2.2.1.ind R4.2.2.1 (Ne.symm P1.2.2.1.1) P1.2.2.2.1.1.sym y3 y4
  refine xg r51 (by rfl) ?_ -- 78 f5.1
  obtain ⟨v5, hv5⟩ := L5t.cell
  refine xcV hv5 (c_AL_size L5t) (by rfl) (by rfl) (by rfl) (Nat.zero_le _) (Nat.zero_le _) ?_
  rintro o h5' ⟨rfl, rfl⟩
  have hts : G.ts.length = S.pc.length := by have := R4.2.2.2.2.2.1.len; rw [List.length_map] at this; exact this
  rw [hts]
  refine xp el5 rfl rfl ?_ -- 84 f4.13
  generalize hG' : gEl G S.n el nm fl ef e1' fas = G'
  have hset : (nwV S G nm fl bg 0).set 13 (.int (nI S.pc.length)) = nwV S G nm fl bg S.pc.length := rfl
  have k56 : kp h5' (xset h5' el (4, nwV S G nm fl bg S.pc.length)) := (kp.refl _).put el5 rfl
  -- the heap without the new one
  have hA'r : ∀ q, (fun q => if q = el then none else h4 q : xH) q = if q = el then none else h4 q := fun _ => rfl
  generalize hhA : (fun q => if q = el then none else h4 q : xH) = hA' at hA'r
  have hAn : ∀ q, q ≠ el → hA' q = h4 q := fun q hq => by rw [hA'r, if_neg hq]
  have fA1 : fr [r] h1 hA' := fun q c e hq => by rw [hAn q (fun z => by rw [z, hel] at e; cases e)]; exact f14 q c e hq
  have RA : srcR X.D B hA' so t S G := R1.adv fA1 fun q hq c e => by rw [List.mem_singleton.mp hq, H1.1] at e; cases e; rfl
  have up4 : ∀ q c, hA' q = some c → q ≠ el ∧ h4 q = some c := fun q c e => by
    rw [hA'r] at e
    split at e
    · cases e
    · exact ⟨by assumption, e⟩
  have fA6 : fr (G.le :: oL (elA S G) G.e1) hA' (xset h5' el (4, nwV S G nm fl bg S.pc.length)) := fun q c e hq => by
    obtain ⟨z1, z2⟩ := up4 q c e
    exact xst2 z1 (y3 q c z2 hq)
  have kA6 : kp hA' (xset h5' el (4, nwV S G nm fl bg S.pc.length)) := fun q c e hk => by
    obtain ⟨z1, z2⟩ := up4 q c e
    exact xst2 z1 (y4 q c z2 hk)
  have dj1 : dj fas ef (elA S G) G.e1 := fun z1 z2 z3 => by
    obtain ⟨v, hv⟩ := R3.2.2.1.arr z2
    rw [← z3, hef z1] at hv; cases hv
  have dj2 : dj fas ef G.ts G.e2 := fun z1 z2 z3 => by
    obtain ⟨v, hv⟩ := R3.2.2.2.1.arr z2
    rw [← z3, hef z1] at hv; cases hv
  have dj3 : dj fas ef G.es G.e3 := fun z1 z2 z3 => by
    obtain ⟨v, hv⟩ := R3.2.2.2.2.1.arr z2
    rw [← z3, hef z1] at hv; cases hv
  have fle : fl ≠ G.le := fun z => by obtain ⟨v, hv⟩ := hle1; rw [← z, hfl1] at hv; cases hv
  have flt : fl ≠ G.lt := fun z => by obtain ⟨v, hv⟩ := hlt1; rw [← z, hfl1] at hv; cases hv
  have fln : fl ≠ G.ln := fun z => by obtain ⟨v, hv⟩ := hln1; rw [← z, hfl1] at hv; cases hv
  have L5f := L4.ind R4.2.2.1 fle dj1 y3 y4
  have L6f : isL X.D (xset h5' el (4, nwV S G nm fl bg S.pc.length)) fl ef fas := L5f.obj el5 (by decide)
  have hnm6 : isS B (xset h5' el (4, nwV S G nm fl bg S.pc.length)) nm (sub t a) := ((hS1.kept k14).kept y4).kept k56
  have N6 := (N4.mono fun a b q => q.kept y4).mono fun a b q => q.kept k56
  have R6 := srcR.el (a := a) (fs := fs) RA P1 O1 (nBef_le O1) fA6 kA6 (y1.obj el5 (by decide)) (xset_same _ _ _) hnm6 L6f N6
  have LfA : isL X.D hA' fl ef fas := by
    obtain ⟨q1, q2, ⟨m, q3⟩, q4⟩ := L4
    refine ⟨q1, q2, ⟨m, by rw [hAn _ hfe]; exact q3⟩, ?_⟩
    rcases q4 with ⟨z1, z2, z3⟩ | ⟨z1, z2, z3⟩
    · exact Or.inl ⟨z1, z2, by rw [hAn _ (xne' z3 el4 (by decide))]; exact z3⟩
    · exact Or.inr ⟨z1, z2, by rw [hAn _ (xne' z3 el4 (by decide))]; exact z3⟩
  have f0A : fr [r] h0 hA' := f01.tr fA1
  have hrA : hA' r = some (rdc b k (-1)) := by rw [hAn _ (Ne.symm helr)]; exact H4.1
  have hzA : (elA S G ≠ [] ∧ e1' = G.e1) ∨ hA' e1' = none := by
    rcases y2 with z | z
    · exact Or.inl z
    · refine Or.inr ?_
      rw [hA'r]
      split
      · rfl
      · exact z
  have P6 := srcP.el (a := a) (bg := bg) (fs := fs) (nm := nm) RA P1 hzA f0A hrA ⟨hel0, (fun z => by have := R1.2.1; rw [← z, hel] at this; cases this), (fun i hi z => by have := (R1.2.2.2.2.2.2.2 i hi).1; rw [z, hel] at this; cases this)⟩ LfA ⟨⟨fle, flt, fln⟩, dj1, dj2, dj3⟩
  rw [hG'] at R6 P6
  have H5 : rdr h5' r b t k (-1) := ⟨y3 _ _ H4.1 (R4.2.2.1.off H4.1 (by decide) (by decide)), y3 _ _ H4.2.1 (R4.2.2.1.off H4.2.1 (by decide) (by decide)), H4.2.2⟩
  have H6 : rdr (xset h5' el (4, nwV S G nm fl bg S.pc.length)) r b t k (-1) := ⟨xst2 (Ne.symm helr) H5.1, xst2 (xne' H5.2.1 el5 (by decide)) H5.2.1, H5.2.2⟩
  have E6 := (E4.kept y4).kept k56
  have f05 : fr [r] h0 h5' := f04.trans y3 fun z hz => by
    rcases List.mem_cons.mp hz with rfl | hz
    · exact Or.inr P1.1.2.2.1
    · obtain ⟨rfl, w⟩ := oL_sub _ _ hz
      exact Or.inr (P1.2.1.1 w)
  have f06 : fr [r] h0 (xset h5' el (4, nwV S G nm fl bg S.pc.length)) := f05.put (Or.inr hel0)
  -- the last steps: who stood before knows that it is followed
  have stage2 : ∀ (h7 : xH) (rc rs : Nat), rdr h7 r b t k (-1) → fr [r] h0 h7 → env X.D h7 → srcR X.D B h7 so t (addE1 S a bg fs) G' → 1 ≤ rc → 6 ≤ rs → xG X 109 [(4, .ref el), (3, .ref nm), (0, .ref so), (1, .ref r), (2, .int (nI bg))] [] h7 rc rs := by
    intro h7 rc rs H7 f07 E7 R7 hrc hrs
    have hOk := SOk.addE (a := a) (bg := bg) (fs := fs) J.2.2.2.2.2 c500 c20 (j := k) (by omega)
    have adn : G'.ad S.n = el := by rw [← hG']; exact un_same _ _ _
    have el7 := (R7.2.2.2.2.2.2.2 S.n (Nat.lt_succ_self _)).1
    rw [adn] at el7
    have e3 : (addE1 S a bg fs).F 3 S.n = nBef S := by
      show nF2 S a bg 3 S.n = nBef S
      have e : nF1 S a bg 3 S.n = nBef S := if_pos rfl
      unfold nF2
      split
      · exact e
      · simp [up]; exact e
    refine xgo [126] 40 hA ?_
    refine xg el7 (by rfl) ?_ -- 111 f4.2
    rw [e3]
    cases hbf : nBef S with
    | zero =>
      refine tail (addE S a bg fs) G' k el nm h7 rc rs (Nat.succ_pos _) adn ⟨H7, f07, E7, ?_, P6, hOk⟩ eR2 hrc hrs
      have : addE S a bg fs = addE1 S a bg fs := by unfold addE addE1 nF3; rw [if_pos hbf]
      rw [this]; exact R7
    | succ m =>
      have hm : m < S.n := by have := nBef_le O1; omega
      have hm' : m < (addE1 S a bg fs).n := Nat.lt_succ_of_lt hm
      have em := (R7.2.2.2.2.2.2.2 m hm').1
      refine xg el7 (by rfl) ?_ -- 119 f4.2
      rw [e3, hbf]
      refine xpz em ⟨rfl, rfl⟩ rfl ?_ -- 123 f4.10
      have inj := P6.2.2.2.2.1
      have R8 := R7.upd (F' := up (nF2 S a bg) 10 m 1) hm' (inj m hm').2.1 (fun i hi z y => z ((inj i hi).2.2 m hm' y)) (fun i hi z a => by simp [up, z]; rfl) (by simp [up]; rfl) (by simp [up]; rfl)
      have eV : (elV G' (addE1 S a bg fs).F m).set 10 (.int 1) = elV G' (up (nF2 S a bg) 10 m 1) m := by
        have e : up (nF2 S a bg) 10 m 1 10 m = 1 := by simp [up]
        simp only [elV, e]
        rfl
      rw [eV]
      have eS : setF (addE1 S a bg fs) (up (nF2 S a bg) 10 m 1) = addE S a bg fs := by
        unfold addE nF3
        rw [if_neg (by omega), hbf]; rfl
      rw [eS] at R8
      exact tail (addE S a bg fs) G' k el nm _ rc rs (Nat.succ_pos _) adn ⟨⟨xst2 (xne' H7.1 em (by decide)) H7.1, xst2 (xne' H7.2.1 em (by decide)) H7.2.1, H7.2.2⟩, f07.put (Or.inr (inj m hm').1), E7.kept ((kp.refl _).put em rfl), R8, P6, hOk⟩ eR2 hrc hrs
  rw [hset]
  have inj := P6.2.2.2.2.1
  have adn : G'.ad S.n = el := by rw [← hG']; exact un_same _ _ _
  have r61 := R6.1
  refine xg r61 (by rfl) ?_ -- 88 f5.4
  cases hop : S.op with
  | zero =>
    have hop' : (addE0 S a bg fs).op = 0 := hop
    rw [hop'] at r61
    have ro6 := R6.2.1
    have sor : so ≠ G'.ro := xne' r61 ro6 (by decide)
    rw [hop']
    refine xp ro6 rfl rfl ?_ -- 93 f4.8
    refine xg (xst2 sor r61) (by rfl) ?_ -- 97 f5.4
    refine xg (xset_same _ _ _) (by rfl) ?_ -- 101 f4.9
    refine xp (xset_same _ _ _) rfl rfl ?_ -- 106 f4.9
    rw [xset_set]
    have R7 := R6.upr (tm := S.tm + 1) (tl := S.n + 1) (fun i hi => (inj i hi).2.1)
    have eV : ((roV G' (addE0 S a bg fs).tm (addE0 S a bg fs).tl).set 8 (.ref el)).set 9 (.int (nI (addE0 S a bg fs).tm + 1)) = roV G' (S.tm + 1) (S.n + 1) := by
      rw [nI_1]
      show [_, _, _, _, _, _, _, _, Value.ref el, _, _, _, _, _, _] = [_, _, _, _, _, _, _, _, Value.ref (G'.ad S.n), _, _, _, _, _, _]
      rw [adn]
      rfl
    rw [eV]
    have eS : setR (addE0 S a bg fs) (S.tm + 1) (S.n + 1) = addE1 S a bg fs := by
      unfold addE1 nF2
      rw [if_pos hop, if_pos hop]; rfl
    rw [eS] at R7
    exact stage2 _ _ _ ⟨xst2 (xne' H6.1 ro6 (by decide)) H6.1, xst2 (xne' H6.2.1 ro6 (by decide)) H6.2.1, H6.2.2⟩ (f06.put (Or.inr P6.1.2.1)) (E6.kept ((kp.refl _).put ro6 rfl)) R7 (by omega) (by rw [hlen]; omega)
  | succ m =>
    have hm : m < S.n := by have := O1.1; omega
    have hm' : m < (addE0 S a bg fs).n := Nat.lt_succ_of_lt hm
    have hop' : (addE0 S a bg fs).op = m + 1 := hop
    rw [hop'] at r61
    have em := (R6.2.2.2.2.2.2.2 m hm').1
    have sor : so ≠ G'.ad m := xne' r61 em (by decide)
    rw [hop']
    refine xp em rfl rfl ?_ -- 93 f4.8
    refine xg (xst2 sor r61) (by rfl) ?_ -- 97 f5.4
    refine xg (xset_same _ _ _) (by rfl) ?_ -- 101 f4.9
    refine xp (xset_same _ _ _) rfl rfl ?_ -- 106 f4.9
    rw [xset_set]
    have e8 : nF1 S a bg 8 m = S.F 8 m := if_neg (by omega)
    have enum : nNum S = S.F 8 m + 1 := by unfold nNum; rw [if_neg (by omega), hop]; rfl
    have R7 := R6.upd (F' := up (up (nF1 S a bg) 8 m (nNum S)) 9 m (S.n + 1)) hm' (inj m hm').2.1 (fun i hi z y => z ((inj i hi).2.2 m hm' y)) (fun i hi z a => by simp [up, z]; rfl) (by simp [up]; rfl) (by simp [up]; rfl)
    have eV : ((elV G' (addE0 S a bg fs).F m).set 8 (.ref el)).set 9 (.int (nI ((addE0 S a bg fs).F 8 m) + 1)) = elV G' (up (up (nF1 S a bg) 8 m (nNum S)) 9 m (S.n + 1)) m := by
      have x8 : up (up (nF1 S a bg) 8 m (nNum S)) 9 m (S.n + 1) 8 m = nNum S := by simp [up]
      have x9 : up (up (nF1 S a bg) 8 m (nNum S)) 9 m (S.n + 1) 9 m = S.n + 1 := by simp [up]
      have y8 : (addE0 S a bg fs).F 8 m = S.F 8 m := e8
      simp only [elV, x8, x9, y8]
      rw [enum, nI_1]
      show [_, _, _, _, _, _, _, _, Value.ref el, _, _, _, _, _, _] = [_, _, _, _, _, _, _, _, Value.ref (G'.ad S.n), _, _, _, _, _, _]
      rw [adn]
      rfl
    rw [eV]
    have eS : setF (addE0 S a bg fs) (up (up (nF1 S a bg) 8 m (nNum S)) 9 m (S.n + 1)) = addE1 S a bg fs := by
      unfold addE1 nF2
      have e : S.op - 1 = m := by omega
      rw [if_neg (by omega), if_neg (by omega), e]; rfl
    rw [eS] at R7
    exact stage2 _ _ _ ⟨xst2 (xne' H6.1 em (by decide)) H6.1, xst2 (xne' H6.2.1 em (by decide)) H6.2.1, H6.2.2⟩ (f06.put (Or.inr (inj m hm').1)) (E6.kept ((kp.refl _).put em rfl)) R7 (by omega) (by rw [hlen]; omega)
