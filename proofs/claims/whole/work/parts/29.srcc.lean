/-! CONTRACTS, 9: text, references, entities, ends -/
def srcJ (D : xD) (B : Nat → Prop) (h0 h : xH) (so r b : Nat) (t : List Nat) (i : Nat) (S : SS) (G : SG) : Prop := rdr h r b t i (-1) ∧ fr [r] h0 h ∧ env D h ∧ srcR D B h so t S G ∧ srcP h0 so S G ∧ SOk t i S
theorem srcJ.adv {B : Nat → Prop} {D : xD} {h0 h h' : xH} {so r b i j : Nat} {t : List Nat} {S : SS} {G : SG} (I : srcJ D B h0 h so r b t i S G) (f : fr [r] h h') (H : rdr h' r b t j (-1)) (hij : i ≤ j) : srcJ D B h0 h' so r b t j S G := by
  obtain ⟨a, b, c, d, e, g⟩ := I
  have hM : ∀ q ∈ [r], ∀ c, h q = some c → c.1 = 1 := fun q hq c e => by rw [List.mem_singleton.mp hq, a.1] at e; cases e; rfl
  refine ⟨H, b.tr f, c.kept (f.im fun q hq c e => by rw [hM q hq c e]; rfl), d.adv f hM, e, ?_⟩
  obtain ⟨g1, g2, g3, g4, g5, g6, g7, g8, g9⟩ := g
  exact ⟨g1, g2, g3, g4, g5, g6, by omega, by omega, g9⟩
theorem srcJ.ks {B : Nat → Prop} {D : xD} {h0 h h' : xH} {so r b i : Nat} {t : List Nat} {S : SS} {G : SG} (I : srcJ D B h0 h so r b t i S G) (f : fr [r] h h') : kp h h' := f.im1 I.1.1 rfl
theorem fr.nil {r : Nat} {h h' : xH} (f : fr (r :: []) h h') : fr [r] h h' := f
theorem pby_in {t : List Nat} {p : Nat × Nat} (h : p.1 < t.length) (ht : t.length ≤ 8192) : pby t p = sub t p := by
  unfold pby
  rw [if_neg (by omega), if_neg (by omega)]
theorem grw_addP (S : SS) (p : Nat × Nat) : grw S (addP S p) = gS (addP S p).pc.length - gS S.pc.length := by
  unfold grw addP
  split
  · show (gS S.n - gS S.n) + _ + _ = _; omega
  · split
    · show (gS S.n - gS S.n) + (gS S.pc.length - gS S.pc.length) + (gS (S.en.length + 2) - gS (S.en.length + 2)) = gS S.pc.length - gS S.pc.length; omega
    · show (gS S.n - gS S.n) + (gS (S.pc ++ [p]).length - gS S.pc.length) + (gS (S.en.length + 2) - gS (S.en.length + 2)) = gS (S.pc ++ [p]).length - gS S.pc.length; omega
set_option maxRecDepth 20000 in
theorem c_readText {B : Nat → Prop} {l : Launch} {D : xD} {h0 h : xH} {so r b i : Nat} {t : List Nat} {S : SS} (I : srcI D B h0 h so r b t i S) (hBb : B b) : xMet l D 8 y_So_readText [.ref so, .ref r] h (cst 4 8 t.length i (sText t i S)) (cst 30 60 t.length i (sText t i S) + gRes S (sText t i S)) (sRes D B h0 so r b t (sText t i S)) := by
  have I' := I
  obtain ⟨G, ⟨hr, hb, hi, ht, hB⟩, q2, q3, R, P, O⟩ := I
  have H' := I'.rd
  have hbr := H'.ne
  have ht8 := O.2.2.2.2.2.2.2.2
  have hc : 4 * 1 ≤ cst 4 8 t.length i (sText t i S) := cst_ge (sText_adv t S hi) (by decide)
  have hs : 30 * 1 ≤ cst 30 60 t.length i (sText t i S) := cst_ge (sText_adv t S hi) (by decide)
  generalize hmc : cst 4 8 t.length i (sText t i S) = mc at hc ⊢
  generalize hms : cst 30 60 t.length i (sText t i S) = ms at hs ⊢
  refine m_So_readText (Nat.le_of_ble_eq_true rfl) fun X hl hD hP hA => ?_
  subst hl hD
  have tail : ∀ s : Nat, i ≤ s → s ≤ t.length → scan txc t i = s → xG X 45 [(2, .int (nI i)), (0, .ref so), (1, .ref r)] [] (xset h r (rdc b s (-1))) mc (ms + gRes S (sText t i S)) := by
    intro s hge hs' he
    have H2 := H'.mv (br' := -1) hs'
    have I2 := I'.adv (fr.set _ _ _) H2 hge
    refine xgo [] 40 hA ?_
    refine xg H2.1 (by rfl) ?_
    refine xb (fun c => ?_) (fun c => ?_)
    · have c1 : ¬ s = i := fun z => c (by rw [z])
      have eR : sText t i S = .ok (addP S (i, s - i), s) := by rw [sText, he, if_neg c1]
      refine xn (by omega) (by omega) fun a ha => ?_
      have hra : r ≠ a := xnn H2.1 ha
      refine xg (xst2 hra H2.1) (by rfl) ?_
      refine xg (xst2 hra H2.1) (by rfl) ?_
      refine xcI (c_Sl_init (xset_same _ _ _) rfl) (by rfl) (by rfl) (by rfl) (Nat.zero_le _) (Nat.zero_le _) ?_
      rintro o h1 ⟨rfl, rfl⟩
      rw [xset_set, nI_sub hge]
      have I3 := I2.new (c := slc b (i, s - i)) ha
      have hw : pby t (i, s - i) = sub t (i, s - i) := pby_in (show i < t.length by omega) ht8
      have hS : isS B (xset (xset h r (rdc b s (-1))) a (slc b (i, s - i))) a (pby t (i, s - i)) := by
        rw [hw]
        exact isS.of (xset_same _ _ _) (xst2 (xnn H2.2.1 ha) H2.2.1) (show i + (s - i) ≤ t.length by omega) ht hB hBb
      have I3' := I3
      obtain ⟨G3, -, -, -, R3, -⟩ := I3'
      refine xcV R3.1 (c_addText I3 hS (by rw [hw, sub_len (show i + (s - i) ≤ t.length by omega)]) (by have := O.2.2.2.2.2.2.1; omega)) (by rfl) (by rfl) (by rfl) (by omega) (by rw [gRes_ok eR, grw_addP]; omega) ?_
      rintro o h1 ⟨y1, rfl⟩
      exact xP hP (sRes.ok eR y1 rfl)
    · have c1 : s = i := (nI_eq (by omega) (by omega)).mp c
      refine xfail H2 i (by rfl) rfl (by omega) (by omega) fun e h1 q => xP hP ?_
      exact sRes.er (by rw [sText, he, if_pos c1]) (q.base I2.frm)
  have key : ∀ s : Nat, (i ≤ s ∧ s ≤ t.length ∧ scan txc t i = scan txc t s) → xG X 5 [(2, .int (nI i)), (0, .ref so), (1, .ref r)] [] (xset h r (rdc b s (-1))) mc (ms + gRes S (sText t i S)) := by
    refine xind _ _ (fun s => t.length - s) (fun s hs ih => ?_)
    obtain ⟨hge, hs, he⟩ := hs
    have hb1 : xset h r (rdc b s (-1)) b = some (101, txv t) := xst2 hbr hb
    refine xgo [5, 45] 40 hA ?_
    refine xg (by first | assumption | exact xset_same _ _ _ | exact xst2 (by first | assumption | exact Ne.symm (by assumption)) (by first | assumption | exact xset_same _ _ _ | exact xst2 (by first | assumption | exact Ne.symm (by assumption)) (by first | assumption | exact xset_same _ _ _ | exact xst2 (by first | assumption | exact Ne.symm (by assumption)) (by first | assumption | exact xset_same _ _ _ | exact xst2 (by first | assumption | exact Ne.symm (by assumption)) (by first | assumption | exact xset_same _ _ _ | exact xst2 (by first | assumption | exact Ne.symm (by assumption)) (by first | assumption | exact xset_same _ _ _ | exact xst2 (by first | assumption | exact Ne.symm (by assumption)) (by first | assumption | exact xset_same _ _ _))))))) (by rfl) ?_
    refine xg (by first | assumption | exact xset_same _ _ _ | exact xst2 (by first | assumption | exact Ne.symm (by assumption)) (by first | assumption | exact xset_same _ _ _ | exact xst2 (by first | assumption | exact Ne.symm (by assumption)) (by first | assumption | exact xset_same _ _ _ | exact xst2 (by first | assumption | exact Ne.symm (by assumption)) (by first | assumption | exact xset_same _ _ _ | exact xst2 (by first | assumption | exact Ne.symm (by assumption)) (by first | assumption | exact xset_same _ _ _ | exact xst2 (by first | assumption | exact Ne.symm (by assumption)) (by first | assumption | exact xset_same _ _ _ | exact xst2 (by first | assumption | exact Ne.symm (by assumption)) (by first | assumption | exact xset_same _ _ _))))))) (by rfl) ?_
    refine xln (t := 1) (Or.inl hb1) (by decide) ?_
    rw [txv_len]
    refine xb (fun c => ?_) (fun c => ?_)
    · exact tail s hge hs (by rw [he, scan_stop (fun z => absurd c (nI_ge z (by omega)))])
    · have hlt : s < t.length := Nat.lt_of_not_le fun z => c (nI_le z (by omega))
      refine xg (by first | assumption | exact xset_same _ _ _ | exact xst2 (by first | assumption | exact Ne.symm (by assumption)) (by first | assumption | exact xset_same _ _ _ | exact xst2 (by first | assumption | exact Ne.symm (by assumption)) (by first | assumption | exact xset_same _ _ _ | exact xst2 (by first | assumption | exact Ne.symm (by assumption)) (by first | assumption | exact xset_same _ _ _ | exact xst2 (by first | assumption | exact Ne.symm (by assumption)) (by first | assumption | exact xset_same _ _ _ | exact xst2 (by first | assumption | exact Ne.symm (by assumption)) (by first | assumption | exact xset_same _ _ _ | exact xst2 (by first | assumption | exact Ne.symm (by assumption)) (by first | assumption | exact xset_same _ _ _))))))) (by rfl) ?_
      refine xg (by first | assumption | exact xset_same _ _ _ | exact xst2 (by first | assumption | exact Ne.symm (by assumption)) (by first | assumption | exact xset_same _ _ _ | exact xst2 (by first | assumption | exact Ne.symm (by assumption)) (by first | assumption | exact xset_same _ _ _ | exact xst2 (by first | assumption | exact Ne.symm (by assumption)) (by first | assumption | exact xset_same _ _ _ | exact xst2 (by first | assumption | exact Ne.symm (by assumption)) (by first | assumption | exact xset_same _ _ _ | exact xst2 (by first | assumption | exact Ne.symm (by assumption)) (by first | assumption | exact xset_same _ _ _ | exact xst2 (by first | assumption | exact Ne.symm (by assumption)) (by first | assumption | exact xset_same _ _ _))))))) (by rfl) ?_
      refine xld (Or.inl hb1) rfl (txv_at hlt) ?_
      refine xcS (c_isText (hB.lt hlt) _) (by rfl) (by rfl) (by rfl) (Nat.zero_le _) (Nat.zero_le _) ?_
      rintro o h' ⟨rfl, rfl⟩
      refine xb (fun c => ?_) (fun c => ?_)
      · exact tail s hge hs (by rw [he, scan_stop (fun _ => (bI_0 _).mp c)])
      · refine xg (by first | assumption | exact xset_same _ _ _ | exact xst2 (by first | assumption | exact Ne.symm (by assumption)) (by first | assumption | exact xset_same _ _ _ | exact xst2 (by first | assumption | exact Ne.symm (by assumption)) (by first | assumption | exact xset_same _ _ _ | exact xst2 (by first | assumption | exact Ne.symm (by assumption)) (by first | assumption | exact xset_same _ _ _ | exact xst2 (by first | assumption | exact Ne.symm (by assumption)) (by first | assumption | exact xset_same _ _ _ | exact xst2 (by first | assumption | exact Ne.symm (by assumption)) (by first | assumption | exact xset_same _ _ _ | exact xst2 (by first | assumption | exact Ne.symm (by assumption)) (by first | assumption | exact xset_same _ _ _))))))) (by rfl) ?_
        refine xp (by first | assumption | exact xset_same _ _ _ | exact xst2 (by first | assumption | exact Ne.symm (by assumption)) (by first | assumption | exact xset_same _ _ _ | exact xst2 (by first | assumption | exact Ne.symm (by assumption)) (by first | assumption | exact xset_same _ _ _ | exact xst2 (by first | assumption | exact Ne.symm (by assumption)) (by first | assumption | exact xset_same _ _ _ | exact xst2 (by first | assumption | exact Ne.symm (by assumption)) (by first | assumption | exact xset_same _ _ _ | exact xst2 (by first | assumption | exact Ne.symm (by assumption)) (by first | assumption | exact xset_same _ _ _ | exact xst2 (by first | assumption | exact Ne.symm (by assumption)) (by first | assumption | exact xset_same _ _ _))))))) rfl rfl ?_
        rw [xset_set, nI_1]
        exact ih (s + 1) ⟨by omega, hlt, by rw [he, scan_step hlt ((bI_n0 _).mp c)]⟩ (by omega)
  refine xgo [5] 40 hA ?_
  refine xg (by first | assumption | exact xset_same _ _ _ | exact xst2 (by first | assumption | exact Ne.symm (by assumption)) (by first | assumption | exact xset_same _ _ _ | exact xst2 (by first | assumption | exact Ne.symm (by assumption)) (by first | assumption | exact xset_same _ _ _ | exact xst2 (by first | assumption | exact Ne.symm (by assumption)) (by first | assumption | exact xset_same _ _ _ | exact xst2 (by first | assumption | exact Ne.symm (by assumption)) (by first | assumption | exact xset_same _ _ _ | exact xst2 (by first | assumption | exact Ne.symm (by assumption)) (by first | assumption | exact xset_same _ _ _ | exact xst2 (by first | assumption | exact Ne.symm (by assumption)) (by first | assumption | exact xset_same _ _ _))))))) (by rfl) ?_
  have := key i ⟨Nat.le_refl _, hi, rfl⟩
  rw [xset_self hr] at this
  exact this
theorem look_none {t : List Nat} {S : SS} {w : List Nat} (h : (enB t S.en).all (fun q => !decide (q.1 = w)) = true) : look t S w = none := by
  simp only [enB, List.all_cons, Bool.and_eq_true, Bool.not_eq_true', decide_eq_false_iff_not, List.all_map] at h
  unfold look
  rw [if_neg (fun z => h.1 z.symm), if_neg (fun z => h.2.1 z.symm), List.find?_eq_none.mpr]
  · rfl
  · intro q hq z
    have z1 : sub t q.1 = w := of_decide_eq_true z
    have := List.all_eq_true.mp h.2.2 q hq
    simp [nmB, z1] at this
theorem look_some {t : List Nat} {S : SS} {w : List Nat} {k : Nat} (hk : k < (enB t S.en).length) (h1 : (enB t S.en)[k].1 = w) (h2 : ∀ j, ∀ hj : j < k, (enB t S.en)[j].1 ≠ w) (hen : ∀ q ∈ S.en, q.2.1 + q.2.2 < t.length) (ht : t.length ≤ 8192) : ∃ p, look t S w = some p ∧ pby t p = (enB t S.en)[k].2 ∧ (k < 2 → p.2 = 1) ∧ (2 ≤ k → ∃ q ∈ S.en, p = q.2) := by
  unfold look
  match k, hk, h1, h2 with
  | 0, hk, h1, h2 =>
    rw [if_pos (show w = wLt from h1.symm)]
    exact ⟨_, rfl, rfl, fun _ => rfl, fun z => by omega⟩
  | 1, hk, h1, h2 =>
    have z0 : ¬ w = wLt := fun z => h2 0 (by omega) z.symm
    rw [if_neg z0, if_pos (show w = wAmp from h1.symm)]
    exact ⟨_, rfl, rfl, fun _ => rfl, fun z => by omega⟩
  | k + 2, hk, h1, h2 =>
    have z0 : ¬ w = wLt := fun z => h2 0 (by omega) z.symm
    have z1 : ¬ w = wAmp := fun z => h2 1 (by omega) z.symm
    rw [if_neg z0, if_neg z1]
    have hk' : k < S.en.length := by simp [enB] at hk; omega
    have h1' : sub t (S.en[k]).1 = w := by
      have := h1
      simp only [enB, List.getElem_cons_succ, List.getElem_map, nmB] at this
      exact this
    have hf : S.en.find? (fun q => decide (sub t q.1 = w)) = some S.en[k] := by
      rw [List.find?_eq_some_iff_getElem]
      refine ⟨by simpa using h1', k, hk', rfl, fun j hj => ?_⟩
      have := h2 (j + 2) (by omega)
      simp only [enB, List.getElem_cons_succ, List.getElem_map, nmB] at this
      simpa using this
    rw [hf]
    refine ⟨(S.en[k]).2, rfl, ?_, fun z => by omega, fun _ => ⟨_, List.getElem_mem hk', rfl⟩⟩
    rw [pby_in (Nat.lt_of_le_of_lt (Nat.le_add_right _ _) (hen _ (List.getElem_mem hk'))) ht]
    simp [enB, nmB]
set_option maxRecDepth 20000 in
theorem c_readReference {B : Nat → Prop} {l : Launch} {D : xD} {h0 h : xH} {so r b i : Nat} {t : List Nat} {S : SS} (I : srcI D B h0 h so r b t i S) (hBb : B b) : xMet l D 8 y_So_readReference [.ref so, .ref r] h (cst 4 8 t.length i (sRef t i S)) (cst 30 60 t.length i (sRef t i S) + gRes S (sRef t i S)) (sRes D B h0 so r b t (sRef t i S)) := by
  obtain ⟨G, J0⟩ := I
  have J : srcJ D B h0 h so r b t i S G := J0
  have ht8 := J.2.2.2.2.2.2.2.2.2.2.2.2.2
  have hc : 4 * 2 ≤ cst 4 8 t.length i (sRef t i S) := cst_ge (sRef_adv t i S) (by decide)
  have hs : 30 * 2 ≤ cst 30 60 t.length i (sRef t i S) := cst_ge (sRef_adv t i S) (by decide)
  generalize hmc : cst 4 8 t.length i (sRef t i S) = mc at hc ⊢
  generalize hms : cst 30 60 t.length i (sRef t i S) = ms at hs ⊢
  refine m_So_readReference (Nat.le_of_ble_eq_true rfl) fun X hl hD hP hA => ?_
  subst hl hD
  refine xgo [] 40 hA ?_
  refine xcV J.1.1 (c_readName J.1) (by rfl) (by rfl) (by rfl) (by omega) (by omega) ?_
  intro o h1 q
  rcases q.cs with ⟨w, e1, z⟩ | ⟨a, j, e1, H1, f1, s, rfl, hsn, hs1⟩
  · obtain ⟨ex, rfl⟩ := z.hr
    exact xP hP (sRes.er (by rw [sRef, pB_er e1]) (z.base J.2.1))
  · have hij := pName_adv t i a j e1
    obtain ⟨n1, n2, n3, n4, -⟩ := pName_sub e1
    have J1 := J.adv f1.nil H1 (by omega)
    obtain ⟨-, f01, E1, R1, P1, O1⟩ := J1
    have hS : isS B h1 s (sub t a) := isS.of hs1 H1.2.1 (by omega) H1.2.2.2.1 H1.2.2.2.2 hBb
    refine xg R1.1 (by rfl) ?_ -- 6 f5.2
    refine xcS (c_findNamed R1.2.2.2.2.1 R1.2.2.2.2.2.2.1 hS) (by rfl) (by rfl) (by rfl) (Nat.zero_le _) (Nat.zero_le _) ?_
    rintro o h2 ⟨rfl, z⟩
    rcases z with ⟨z, rfl⟩ | ⟨k, k1, k2, k3, k4, rfl⟩
    · refine xg hs1 (by rfl) ?_ -- 20 f2.1
      refine xfail H1 i (by rw [n1]) rfl (by omega) (by omega) fun e h3 q => xP hP ?_
      exact sRes.er (by rw [sRef, pB_ok e1, look_none z]) (q.base f01)
    · obtain ⟨p, p1, p2, p3, p4⟩ := look_some k2 k3 k4 O1.2.2.2.2.1 ht8
      obtain ⟨s1, s2, y1, y2, y3⟩ := R1.2.2.2.2.2.2.1.at k k1 k2
      have eR : sRef t i S = pB (pExp 59 t j) fun _ k => .ok (addP S p, k) := by rw [sRef, pB_ok e1, p1]
      refine xcV H1.1 (c_expect H1 (c := 59) rfl (by decide)) (by rfl) (by rfl) (by rfl) (by omega) (by omega) ?_
      intro o h3 q
      rcases q.cs with ⟨w, e2, z⟩ | ⟨u, m, e2, H3, f3, rfl⟩
      · obtain ⟨ex, rfl⟩ := z.hr
        exact xP hP (sRes.er (by rw [eR, pB_er e2]) (z.base f01))
      · have J1 : srcJ X.D B h0 h2 so r b t j S G := ⟨H1, f01, E1, R1, P1, O1⟩
        have hjm := pExp_adv 59 (by decide) t j u m e2
        have k3' := J1.ks f3.nil
        have J3 := J1.adv f3.nil H3 (by omega)
        have I3 : srcI X.D B h0 h3 so r b t m S := ⟨G, J3⟩
        have eR2 : sRef t i S = .ok (addP S p, m) := by rw [eR, pB_ok e2]
        refine xg (k3' _ _ y1 rfl) (by rfl) ?_ -- 35 f3.1
        have hS2 : isS B h3 s2 (pby t p) := by rw [p2]; exact y3.kept k3'
        have hl : (pby t p).length = p.2 := by
          by_cases hk2 : k < 2
          · rw [p3 hk2, p2]
            match k, hk2 with
            | 0, _ => rfl
            | 1, _ => rfl
          · obtain ⟨q, q1, q2⟩ := p4 (by omega)
            have q3 := O1.2.2.2.2.1 q q1
            rw [q2, pby_in (by omega) ht8, sub_len (by omega)]
        refine xcV J3.2.2.2.1.1 (c_addText I3 hS2 hl (by have := J.2.2.2.2.2.2.2.2.2.2.2.1; omega)) (by rfl) (by rfl) (by rfl) (by omega) (by rw [gRes_ok eR2, grw_addP]; omega) ?_
        rintro o h4 ⟨y4, rfl⟩
        exact xP hP (sRes.ok eR2 y4 rfl)

set_option maxRecDepth 20000 in
theorem c_readEntity {B : Nat → Prop} {l : Launch} {D : xD} {h0 h : xH} {so r b i : Nat} {t : List Nat} {S : SS} (I : srcI D B h0 h so r b t i S) (hBb : B b) : xMet l D 8 y_So_readEntity [.ref so, .ref r] h (cst 4 8 t.length i (sEnt t i S)) (cst 30 60 t.length i (sEnt t i S) + gRes S (sEnt t i S)) (sRes D B h0 so r b t (sEnt t i S)) := by
  obtain ⟨G, J0⟩ := I
  have J : srcJ D B h0 h so r b t i S G := J0
  have ht8 := J.2.2.2.2.2.2.2.2.2.2.2.2.2
  have hc : 4 * 2 ≤ cst 4 8 t.length i (sEnt t i S) := cst_ge ((sEnt_adv t i S).weak (by decide)) (by decide)
  have hs : 30 * 2 ≤ cst 30 60 t.length i (sEnt t i S) := cst_ge ((sEnt_adv t i S).weak (by decide)) (by decide)
  generalize hmc : cst 4 8 t.length i (sEnt t i S) = mc at hc ⊢
  generalize hms : cst 30 60 t.length i (sEnt t i S) = ms at hs ⊢
  refine m_So_readEntity (Nat.le_of_ble_eq_true rfl) fun X hl hD hP hA => ?_
  subst hl hD
  refine xgo [21, 38, 46, 83] 40 hA ?_
  refine xcV J.1.1 (c_readName J.1) (by rfl) (by rfl) (by rfl) (by omega) (by omega) ?_
  intro o h1 q
  rcases q.cs with ⟨w, e1, z⟩ | ⟨a, j, e1, H1, f1, s, rfl, hsn, hs1⟩
  · obtain ⟨ex, rfl⟩ := z.hr
    exact xP hP (sRes.er (by rw [sEnt, pB_er e1]) (z.base J.2.1))
  have hij := pName_adv t i a j e1
  obtain ⟨n1, n2, n3, n4, -⟩ := pName_sub e1
  have J1 := J.adv f1.nil H1 (by omega)
  have f01 := J1.2.1
  have E1 := J1.2.2.1
  have R1 := J1.2.2.2.1
  have P1 := J1.2.2.2.2.1
  have O1 := J1.2.2.2.2.2
  have hS : isS B h1 s (sub t a) := isS.of hs1 H1.2.1 (by omega) H1.2.2.2.1 H1.2.2.2.2 hBb
  have hel : G.es.length = S.en.length + 2 := by have := R1.2.2.2.2.2.2.1.len; simpa [enB] using this
  have hen40 := O1.2.2.2.2.2.1
  have bad : ∀ v : Int32, (40 ≤ S.en.length ∨ (look t S (sub t a)).isSome = true) → xG X 38 [(3, .int v), (2, .ref s), (0, .ref so), (1, .ref r)] [] h1 (mc - 1) (ms + gRes S (sEnt t i S) - 6) := by
    intro v hbad
    refine xgo [] 40 hA ?_
    refine xg hs1 (by rfl) ?_
    refine xfail H1 i (by rw [n1]) rfl (by omega) (by omega) fun e h3 q => xP hP ?_
    exact sRes.er (by rw [sEnt, pB_ok e1, if_pos hbad]) (q.base f01)
  have good : ¬ (40 ≤ S.en.length ∨ (look t S (sub t a)).isSome = true) → xG X 46 [(3, .int 0), (2, .ref s), (0, .ref so), (1, .ref r)] [] h1 (mc - 1) (ms + gRes S (sEnt t i S) - 6) := by
    intro hg
    have eR : sEnt t i S = pB (pStr t (scan bl t j)) fun b k => if (sub t b).contains 60 = true ∨ (sub t b).contains 38 = true then .error (scan bl t j) else pB (pSig 62 t k) fun _ m => .ok (addN S (a, b), m) := by rw [sEnt, pB_ok e1, if_neg hg]
    have hj := scan_ge bl t j
    refine xgo [83] 40 hA ?_
    refine xcV H1.1 (c_nextSign H1) (by rfl) (by rfl) (by rfl) (Nat.zero_le _) (Nat.zero_le _) ?_
    rintro o h2 ⟨rfl, rfl⟩
    have H2 := H1.mv (br' := -1) (scan_le H1.2.2.1 (p := bl))
    have J2 := J1.adv (fr.set _ _ _) H2 hj
    refine xg H2.1 (by rfl) ?_
    refine xcV H2.1 (c_readString H2) (by rfl) (by rfl) (by rfl) (by omega) (by omega) ?_
    intro o h3 q
    rcases q.cs with ⟨w, e2, z⟩ | ⟨u, k, e2, H3, f3, s3, rfl, -, hs3⟩
    · obtain ⟨ex, rfl⟩ := z.hr
      exact xP hP (sRes.er (by rw [eR, pB_er e2]) (z.base J2.2.1))
    have hjk := pStr_adv t _ u k e2
    obtain ⟨m1, m2, m3, m4, m5⟩ := pStr_sub e2
    have J3 := J2.adv f3.nil H3 (by omega)
    have hS3 : isS B h3 s3 (sub t u) := isS.of hs3 H3.2.1 (by omega) H3.2.2.2.1 H3.2.2.2.2 hBb
    have hSn : isS B h3 s (sub t a) := (hS.kept (J1.ks (fr.set _ _ _))).kept (J2.ks f3.nil)
    have eR2 : sEnt t i S = if (sub t u).contains 60 = true ∨ (sub t u).contains 38 = true then .error (scan bl t j) else pB (pSig 62 t k) fun _ m => .ok (addN S (a, u), m) := by rw [eR, pB_ok e2]
    have bad2 : ((sub t u).contains 60 = true ∨ (sub t u).contains 38 = true) → xG X 83 [(5, .ref s3), (4, .int (nI (scan bl t j))), (3, .int 0), (2, .ref s), (0, .ref so), (1, .ref r)] [] h3 (mc - 1 - 1) (ms + gRes S (sEnt t i S) - 6 - 6) := by
      intro hbad
      refine xgo [] 40 hA ?_
      refine xfail H3 (scan bl t j) (by rfl) rfl (by omega) (by omega) fun e h3 q => xP hP ?_
      exact sRes.er (by rw [eR2, if_pos hbad]) (q.base J3.2.1)
    refine xcV hs3 (c_holds hS3 (c0 := 60) (by decide)) (by rfl) (by rfl) (by rfl) (Nat.zero_le _) (Nat.zero_le _) ?_
    rintro o h4 ⟨rfl, rfl⟩
    refine xb (fun c => ?_) (fun c => ?_)
    · exact bad2 (Or.inl ((bI_n0 _).mp c))
    have c1 := (bI_0 _).mp c
    refine xcV hs3 (c_holds hS3 (c0 := 38) (by decide)) (by rfl) (by rfl) (by rfl) (Nat.zero_le _) (Nat.zero_le _) ?_
    rintro o h5 ⟨rfl, rfl⟩
    refine xb (fun c => ?_) (fun c => ?_)
    · have c2 := (bI_0 _).mp c
      have eR3 : sEnt t i S = pB (pSig 62 t k) fun _ m => .ok (addN S (a, u), m) := by rw [eR2, if_neg (by rw [c1, c2]; decide)]
      refine xcV H3.1 (c_expectSign H3 (c := 62) rfl (by decide)) (by rfl) (by rfl) (by rfl) (by omega) (by omega) ?_
      intro o h6 q
      rcases q.cs with ⟨w, e4, z⟩ | ⟨y, m, e4, H6, f6, rfl⟩
      · obtain ⟨ex, rfl⟩ := z.hr
        exact xP hP (sRes.er (by rw [eR3, pB_er e4]) (z.base J3.2.1))
      have hkm := pSig_adv 62 (by decide) t k y m e4
      have J6 := J3.adv f6.nil H6 (by omega)
      have k6 := J3.ks f6.nil
      have eR4 : sEnt t i S = .ok (addN S (a, u), m) := by rw [eR3, pB_ok e4]
      have hgr : gRes S (sEnt t i S) = gS (S.en.length + 3) - gS (S.en.length + 2) := by
        rw [gRes_ok eR4]
        show (gS S.n - gS S.n) + (gS S.pc.length - gS S.pc.length) + (gS ((S.en ++ [(a, u)]).length + 2) - gS (S.en.length + 2)) = _
        rw [List.length_append]
        show _ + _ + (gS (S.en.length + 3) - _) = _
        omega
      obtain ⟨-, f06, E6, R6, P6, O6⟩ := J6
      refine xg R6.1 (by rfl) ?_
      refine xn (by omega) (by omega) fun x hx => ?_
      refine xcI (c_Nd_init (xset_same _ _ _)) (by rfl) (by rfl) (by rfl) (Nat.zero_le _) (Nat.zero_le _) ?_
      rintro o h7 ⟨rfl, rfl⟩
      rw [xset_set]
      have k7 : kp h6 (xset h6 x (3, [.ref s, .ref s3])) := (kp.refl _).new hx
      have R7 : srcR X.D B (xset h6 x (3, [.ref s, .ref s3])) so t S G := R6.adv (M := []) (fr.new hx _ _) (fun q hq => by cases hq)
      have hN : isNm B (xset h6 x (3, [.ref s, .ref s3])) x (nmB t (a, u)) := ⟨s, s3, xset_same _ _ _, (hSn.kept k6).kept k7, (hS3.kept k6).kept k7⟩
      obtain ⟨vl, hvl⟩ := R7.2.2.2.2.1.cell
      have H7 : rdr (xset h6 x (3, [.ref s, .ref s3])) r b t m (-1) := H6.new hx
      have f07 : fr [r] h0 (xset h6 x (3, [.ref s, .ref s3])) := f06.put (Or.inr (f06.none H6.1 hx))
      refine xcV hvl (c_addL (E6.kept k7) R7.2.2.2.2.1 (xset_same _ _ _) rfl (fun y hy => by
        obtain ⟨w, -, hw⟩ := R7.2.2.2.2.2.2.1.mem y hy
        exact hw.ok) (by omega)) (by rfl) (by rfl) (by rfl) (Nat.le_trans (amc_le _ _) (by omega)) (by rw [hgr, hel]; show gS (S.en.length + 3) - _ ≤ _; omega) ?_
      rintro o h8 ⟨⟨e3, y1, y2⟩, y3, y4, rfl⟩
      refine xP hP (sRes.ok eR4 ⟨gEn G e3 (G.es ++ [x]), ?_, ?_, (E6.kept k7).kept y4, R7.en P6 y3 y4 y1 hN, srcP.en R7 P6 y2 f07 H7.1, ?_⟩ rfl)
      · exact ⟨y3 _ _ H7.1 (R7.2.2.2.2.1.off H7.1 (by decide) (by decide)), y3 _ _ H7.2.1 (R7.2.2.2.2.1.off H7.2.1 (by decide) (by decide)), H7.2.2⟩
      · refine f07.trans y3 fun z hz => ?_
        rcases List.mem_cons.mp hz with rfl | hz
        · exact Or.inr P6.1.2.2.2.2
        · obtain ⟨rfl, w⟩ := oL_sub _ _ hz
          exact Or.inr (P6.2.1.2.2 w)
      · obtain ⟨o1, o2, o3, o4, o5, o6, o7, o8, o9⟩ := O6
        refine ⟨o1, o2, o3, o4, fun q hq => ?_, ?_, o7, o8, o9⟩
        · rcases List.mem_append.mp hq with z | z
          · exact o5 q z
          · rw [List.mem_singleton.mp z]; show u.1 + u.2 < t.length; omega
        · show (S.en ++ [(a, u)]).length ≤ 40
          rw [List.length_append]
          have : ¬ 40 ≤ S.en.length := fun z => hg (Or.inl z)
          simp; omega
    · exact bad2 (Or.inr ((bI_n0 _).mp c))
  obtain ⟨ve, hve⟩ := R1.2.2.2.2.1.cell
  refine xg R1.1 (by rfl) ?_ -- 6 f5.2
  refine xcV hve (c_AL_size R1.2.2.2.2.1) (by rfl) (by rfl) (by rfl) (Nat.zero_le _) (Nat.zero_le _) ?_
  rintro o h2 ⟨rfl, rfl⟩
  rw [hel]
  refine xb (fun c => ?_) (fun c => ?_)
  · have c1 : S.en.length + 2 < 42 := (nI_ltI (b := 42) (by omega) (by omega)).mp c
    refine xgo [38, 46] 40 hA ?_
    refine xfn rfl ?_
    refine xg R1.1 (by rfl) ?_
    refine xcS (c_findNamed R1.2.2.2.2.1 R1.2.2.2.2.2.2.1 hS) (by rfl) (by rfl) (by rfl) (Nat.zero_le _) (Nat.zero_le _) ?_
    rintro o h3 ⟨rfl, z⟩
    rcases z with ⟨z, rfl⟩ | ⟨k, k1, k2, k3, k4, rfl⟩
    · refine good ?_
      rw [look_none z]
      intro y
      rcases y with y | y
      · omega
      · cases y
    · obtain ⟨p, p1, -⟩ := look_some k2 k3 k4 O1.2.2.2.2.1 ht8
      exact bad 0 (Or.inr (by rw [p1]; rfl))
  · have c1 : ¬ S.en.length + 2 < 42 := fun z => c (nI_lt (b := 42) z (by omega))
    refine xtn (a := (1 : Int32) = 0) (by decide) ?_
    exact bad 1 (Or.inl (by omega))
