/-! CONTRACTS, 13: a piece of a source; a new source -/
theorem srcI.mv {B : Nat → Prop} {D : xD} {h0 h : xH} {so r b i j : Nat} {t : List Nat} {S : SS} (I : srcI D B h0 h so r b t i S) (hij : i ≤ j) (hj : j ≤ t.length) : srcI D B h0 (xset h r (rdc b j (-1))) so r b t j S := I.adv (fr.set _ _ _) (I.rd.mv hj) hij
theorem srcI.cell {B : Nat → Prop} {D : xD} {h0 h : xH} {so r b i : Nat} {t : List Nat} {S : SS} (I : srcI D B h0 h so r b t i S) : ∃ v, h so = some (5, v) := by
  obtain ⟨G, -, -, -, R, -⟩ := I
  exact ⟨_, R.1⟩
set_option maxRecDepth 20000 in
theorem c_readMarkup {B : Nat → Prop} {l : Launch} {D : xD} {h0 h : xH} {so r b i bg : Nat} {t : List Nat} {S : SS} (I : srcI D B h0 h so r b t i S) (hBb : B b) : xMet l D 10 y_So_readMarkup [.ref so, .ref r, .int (nI bg)] h (cst 4 8 t.length i (sMark t bg i S)) (cst 30 60 t.length i (sMark t bg i S) + gRes S (sMark t bg i S)) (sRes D B h0 so r b t (sMark t bg i S)) := by
  have H := I.rd
  have hi := H.2.2.1
  have hB := H.2.2.2.2
  obtain ⟨vs, hso⟩ := I.cell
  refine m_So_readMarkup (Nat.le_of_ble_eq_true rfl) fun X hl hD hP hA => ?_
  subst hl hD
  refine xgo [] 60 hA ?_
  refine xcV H.1 (c_here H) (by rfl) (by rfl) (by rfl) (Nat.zero_le _) (Nat.zero_le _) ?_
  rintro o h1 ⟨rfl, rfl⟩
  refine xb (fun c => ?_) (fun c => ?_) -- 8 o_icne 19 11
  · have c1 : ¬ ch t i = 47 := fun z => c (by rw [z]; rfl)
    refine xb (fun c => ?_) (fun c => ?_) -- 22 o_iceq 34 25
    · have c2 : ch t i = 33 := (cI_lit (hB.le i) (by decide)).mp c
      have hlt := ch_lt c2 (by decide)
      have eM : sMark t bg i S = if ch t (i + 1) = 45 then sCom t (i + 2) S else sEnt t (i + 1) S := by rw [sMark, if_neg c1, if_pos c2]
      refine xg H.1 (by rfl) ?_ -- 36 f1.1
      refine xp H.1 rfl rfl ?_ -- 41 f1.1
      rw [nI_1]
      have I1 := I.mv (j := i + 1) (by omega) hlt
      have H1 := I1.rd
      refine xcV H1.1 (c_here H1) (by rfl) (by rfl) (by rfl) (Nat.zero_le _) (Nat.zero_le _) ?_
      rintro o h2 ⟨rfl, rfl⟩
      refine xb (fun c => ?_) (fun c => ?_) -- 50 o_icne 76 53
      · have c3 : ¬ ch t (i + 1) = 45 := fun z => c (by rw [z]; rfl)
        have eM2 : sMark t bg i S = sEnt t (i + 1) S := by rw [eM, if_neg c3]
        obtain ⟨v1, hso1⟩ := I1.cell
        rw [eM2] at hP ⊢
        have sh1 := cst_shift (K := 4) (E := 8) (i := i) (j := i + 1) (x := sEnt t (i + 1) S) (by omega) hlt ((sEnt_adv t (i + 1) S).weak (by decide))
        have sh2 := cst_shift (K := 30) (E := 60) (i := i) (j := i + 1) (x := sEnt t (i + 1) S) (by omega) hlt ((sEnt_adv t (i + 1) S).weak (by decide))
        refine xcV hso1 (c_readEntity I1 hBb) (by rfl) (by rfl) (by rfl) (by omega) (by omega) ?_
        intro o h3 q
        cases e : sEnt t (i + 1) S with
        | error w =>
          rw [e] at q
          obtain ⟨ex, rfl⟩ := xEr.hr q
          exact xP hP (by rw [e]; exact q)
        | ok p =>
          rw [e] at q
          obtain ⟨q1, rfl⟩ := q
          exact xP hP (by rw [e]; exact ⟨q1, rfl⟩)
      · have c3 : ch t (i + 1) = 45 := (cI_lit (hB.le _) (by decide)).mp c
        have hlt2 := ch_lt c3 (by decide)
        have eM2 : sMark t bg i S = sCom t (i + 2) S := by rw [eM, if_pos c3]
        have hc : 4 * 2 ≤ cst 4 8 t.length i (sCom t (i + 2) S) := cst_ge ((sCom_adv t (i + 2) S).from (by omega)) (by decide)
        have hs : 30 * 2 ≤ cst 30 60 t.length i (sCom t (i + 2) S) := cst_ge ((sCom_adv t (i + 2) S).from (by omega)) (by decide)
        rw [eM2] at hP ⊢
        refine xg H1.1 (by rfl) ?_ -- 55 f1.1
        refine xp H1.1 rfl rfl ?_ -- 60 f1.1
        rw [nI_1]
        have I2 := I1.mv (j := i + 1 + 1) (by omega) hlt2
        have H2 := I2.rd
        refine xcV H2.1 (c_expect H2 (c := 45) rfl (by decide)) (by rfl) (by rfl) (by rfl) (by omega) (by omega) ?_
        intro o h3 q
        rcases q.cs with ⟨w, e1, z⟩ | ⟨u, j, e1, H3, f3, rfl⟩
        · obtain ⟨ex, rfl⟩ := z.hr
          exact xP hP (sRes.er (by rw [sCom, pB_er e1]) (z.base I2.frm))
        have hj := pExp_adv 45 (by decide) t _ u j e1
        have I3 := I2.adv f3.nil H3 (by omega)
        refine xcV H3.1 (c_skipComment H3) (by rfl) (by rfl) (by rfl) (by omega) (by omega) ?_
        intro o h4 q
        rcases q.cs with ⟨w, e2, z⟩ | ⟨u2, k, e2, H4, f4, rfl⟩
        · obtain ⟨ex, rfl⟩ := z.hr
          exact xP hP (sRes.er (by rw [sCom, pB_ok e1, pB_er e2]) (z.base I3.frm))
        have hk := pCom_adv t j u2 k e2
        exact xP hP (sRes.ok (by rw [sCom, pB_ok e1, pB_ok e2]) (I3.adv f4.nil H4 (by omega)) rfl)
    · have c2 : ¬ ch t i = 33 := fun z => c (by rw [z]; rfl)
      have eM : sMark t bg i S = sBeg t bg i S := by rw [sMark, if_neg c1, if_neg c2]
      rw [eM] at hP ⊢
      refine xcV hso (c_readBegin I hBb) (by rfl) (by rfl) (by rfl) (Nat.le_refl _) (Nat.le_refl _) ?_
      intro o h3 q
      cases e : sBeg t bg i S with
      | error w =>
        rw [e] at q
        obtain ⟨ex, rfl⟩ := xEr.hr q
        exact xP hP (by rw [e]; exact q)
      | ok p =>
        rw [e] at q
        obtain ⟨q1, rfl⟩ := q
        exact xP hP (by rw [e]; exact ⟨q1, rfl⟩)
  · have c1 : ch t i = 47 := (cI_lit (hB.le i) (by decide)).mp c
    have eM : sMark t bg i S = sEnd t i S := by rw [sMark, if_pos c1]
    rw [eM] at hP ⊢
    refine xcV hso (c_readEnd I (ch_lt c1 (by decide)) hBb) (by rfl) (by rfl) (by rfl) (Nat.le_refl _) (Nat.le_refl _) ?_
    intro o h3 q
    cases e : sEnd t i S with
    | error w =>
      rw [e] at q
      obtain ⟨ex, rfl⟩ := xEr.hr q
      exact xP hP (by rw [e]; exact q)
    | ok p =>
      rw [e] at q
      obtain ⟨q1, rfl⟩ := q
      exact xP hP (by rw [e]; exact ⟨q1, rfl⟩)
set_option maxRecDepth 20000 in
theorem c_readPiece {B : Nat → Prop} {l : Launch} {D : xD} {h0 h : xH} {so r b i : Nat} {t : List Nat} {S : SS} (I : srcI D B h0 h so r b t i S) (hBb : B b) : xMet l D 11 y_So_readPiece [.ref so, .ref r] h (cst 4 8 t.length i (sPiece t i S)) (cst 30 60 t.length i (sPiece t i S) + gRes S (sPiece t i S)) (sRes D B h0 so r b t (sPiece t i S)) := by
  have H := I.rd
  have hi := H.2.2.1
  have hB := H.2.2.2.2
  obtain ⟨vs, hso⟩ := I.cell
  refine m_So_readPiece (Nat.le_of_ble_eq_true rfl) fun X hl hD hP hA => ?_
  subst hl hD
  refine xgo [] 60 hA ?_
  refine xg H.1 (by rfl) ?_ -- 1 f1.1
  refine xcV H.1 (c_here H) (by rfl) (by rfl) (by rfl) (Nat.zero_le _) (Nat.zero_le _) ?_
  rintro o h1 ⟨rfl, rfl⟩
  refine xb (fun c => ?_) (fun c => ?_) -- 13 o_icne 35 16
  · have c1 : ¬ ch t i = 60 := fun z => c (by rw [z]; rfl)
    refine xb (fun c => ?_) (fun c => ?_) -- 38 o_icne 59 41
    · have c2 : ¬ ch t i = 38 := fun z => c (by rw [z]; rfl)
      have eM : sPiece t i S = sText t i S := by rw [sPiece, if_neg c1, if_neg c2]
      rw [eM] at hP ⊢
      refine xcV hso (c_readText I hBb) (by rfl) (by rfl) (by rfl) (Nat.le_refl _) (Nat.le_refl _) ?_
      intro o h3 q
      cases e : sText t i S with
      | error w =>
        rw [e] at q
        obtain ⟨ex, rfl⟩ := xEr.hr q
        exact xP hP (by rw [e]; exact q)
      | ok p =>
        rw [e] at q
        obtain ⟨q1, rfl⟩ := q
        exact xP hP (by rw [e]; exact ⟨q1, rfl⟩)
    · have c2 : ch t i = 38 := (cI_lit (hB.le i) (by decide)).mp c
      have hlt := ch_lt c2 (by decide)
      have eM : sPiece t i S = sRef t (i + 1) S := by rw [sPiece, if_neg c1, if_pos c2]
      rw [eM] at hP ⊢
      refine xg H.1 (by rfl) ?_ -- 43 f1.1
      refine xp H.1 rfl rfl ?_ -- 48 f1.1
      rw [nI_1]
      have I1 := I.mv (j := i + 1) (by omega) hlt
      obtain ⟨v1, hso1⟩ := I1.cell
      have sh1 := cst_shift (K := 4) (E := 8) (i := i) (j := i + 1) (x := sRef t (i + 1) S) (by omega) hlt ((sRef_adv t (i + 1) S).weak (by decide))
      have sh2 := cst_shift (K := 30) (E := 60) (i := i) (j := i + 1) (x := sRef t (i + 1) S) (by omega) hlt ((sRef_adv t (i + 1) S).weak (by decide))
      refine xcV hso1 (c_readReference I1 hBb) (by rfl) (by rfl) (by rfl) (by omega) (by omega) ?_
      intro o h3 q
      cases e : sRef t (i + 1) S with
      | error w =>
        rw [e] at q
        obtain ⟨ex, rfl⟩ := xEr.hr q
        exact xP hP (by rw [e]; exact q)
      | ok p =>
        rw [e] at q
        obtain ⟨q1, rfl⟩ := q
        exact xP hP (by rw [e]; exact ⟨q1, rfl⟩)
  · have c1 : ch t i = 60 := (cI_lit (hB.le i) (by decide)).mp c
    have hlt := ch_lt c1 (by decide)
    have eM : sPiece t i S = sMark t i (i + 1) S := by rw [sPiece, if_pos c1]
    rw [eM] at hP ⊢
    refine xg H.1 (by rfl) ?_ -- 18 f1.1
    refine xp H.1 rfl rfl ?_ -- 23 f1.1
    rw [nI_1]
    have I1 := I.mv (j := i + 1) (by omega) hlt
    obtain ⟨v1, hso1⟩ := I1.cell
    have sh1 := cst_shift (K := 4) (E := 8) (i := i) (j := i + 1) (x := sMark t i (i + 1) S) (by omega) hlt ((sMark_adv t i (i + 1) S).weak (by decide))
    have sh2 := cst_shift (K := 30) (E := 60) (i := i) (j := i + 1) (x := sMark t i (i + 1) S) (by omega) hlt ((sMark_adv t i (i + 1) S).weak (by decide))
    refine xcV hso1 (c_readMarkup I1 hBb (bg := i)) (by rfl) (by rfl) (by rfl) (by omega) (by omega) ?_
    intro o h3 q
    cases e : sMark t i (i + 1) S with
    | error w =>
      rw [e] at q
      obtain ⟨ex, rfl⟩ := xEr.hr q
      exact xP hP (by rw [e]; exact q)
    | ok p =>
      rw [e] at q
      obtain ⟨q1, rfl⟩ := q
      exact xP hP (by rw [e]; exact ⟨q1, rfl⟩)
