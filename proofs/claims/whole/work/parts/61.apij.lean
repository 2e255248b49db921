/-! THE CLASS, 10: the tape is taken; what readings keep to -/
section
variable {Zh : xH}
abbrev AS.wPl (A : AS) (p : Option Nat) : AS := ((A.tp, A.ou, A.fo, A.aw, p), A.2)
abbrev AS.wTk (A : AS) : AS := (([], A.ou, A.fo, A.aw, none), A.2)
theorem scQ.rd {D : xD} {h h' : xH} {sc r so sy : Nat} {K : CK} {A : AS} {G : SG} {v0 v1 : Value} {p : Option Nat} (Q : scQ Zh D h sc K A r so sy G) (f : fr [r] h h') (hr : h' r = some (1, [v0, v1, .int (plI p)])) : scQ Zh D h' sc K (A.wPl p) r so sy G := by
  obtain ⟨T, O, fv, rv, hv', w0, w1, r1, ⟨r2, r3⟩, ⟨r4, r5⟩, ⟨r6, r7⟩, r8, ⟨r9, r10⟩, ⟨r11, r12⟩, r13, r14, r15, r16, r17⟩ := Q
  obtain ⟨⟨n1, n2, n3, n4, n5, n6⟩, ⟨n7, n8, n9, n10⟩, ⟨n11, n12, n13, n14⟩, ⟨n15, n16⟩, ⟨n17, n18⟩, n19⟩ := sc_ne r1 r2 r4 r6 r8 r9 r11
  have k : gk (bK K) h h' := f.gk fun q hq c e => by
    rw [List.mem_singleton.mp hq, r8] at e; cases e; exact ng0 (Or.inr (Or.inl rfl))
  exact scQ.of k r14 r15 r16 (f.one r1 (Ne.symm n4)) ⟨f.one r2 (Ne.symm n8), r3⟩ ⟨f.one r4 (Ne.symm n12), r5⟩ ⟨f.one r6 (Ne.symm n15), r7⟩ hr ⟨f.one r9 (Ne.symm n17), r10⟩ ⟨f.one r11 (Ne.symm n18), r12⟩ r13 r17
theorem scQ.rk {D : xD} {h h' : xH} {sc r so sy : Nat} {K : CK} {A : AS} {G : SG} (Q : scQ Zh D h sc K A r so sy G) (f : fr [r] h h') : gk (bK K) h h' := by
  obtain ⟨T, O, fv, rv, hv', w0, w1, -, -, -, -, r8, -⟩ := Q
  exact f.gk fun q hq c e => by
    rw [List.mem_singleton.mp hq, r8] at e; cases e; exact ng0 (Or.inr (Or.inl rfl))
set_option maxRecDepth 20000 in
theorem c_takeTape {l : Launch} {D : xD} {h : xH} {sc rd so sy : Nat} {K : CK} {A : AS} {G : SG} (Q : scQ Zh D h sc K A rd so sy G) : xMet l D 3 y_Sc_takeTape [.ref sc] h 2 (3 + A.tp.length) (fun o h' => ∃ r b, o = .inl (some (.ref r)) ∧ rdr h' r b A.tp 0 (-1) ∧ bK K b ∧ scQ Zh D h' sc K A.wTk r so sy G) := by
  obtain ⟨T, O, fv, rv, hv', v0, v1, r1, ⟨r2, r3, r3'⟩, ⟨r4, r5⟩, ⟨r6, r7⟩, r8, ⟨r9, r10⟩, ⟨r11, r12⟩, r13, r14, r15, r16, r17⟩ := id Q
  refine m_Sc_takeTape (Nat.le_of_ble_eq_true rfl) fun X hl hD hP hA => ?_
  subst hl hD
  refine xgo [] 60 hA ?_
  refine xn (by omega) (by omega) fun r hr => ?_
  have n1 : sc ≠ r := xnn r1 hr
  have n2 : K.1 ≠ r := xnn r2 hr
  refine xg (xst2 n1 r1) (by rfl) ?_
  refine xg (xst2 n1 r1) (by rfl) ?_
  have hTl : (A.tp ++ T).take A.tp.length = A.tp := List.take_left
  refine xcI (c_Rd_init (n := A.tp.length) (xset_same _ _ _) (Or.inl (xst2 n2 r2)) (by rw [List.length_append]; omega) (by rw [r3]; decide) (r17.1.2.app r3')) (by rfl) (by rfl) (by rfl) (by omega) (by omega) ?_
  rintro o h1 ⟨b, hb, rfl, H1, rfl⟩
  rw [hTl] at H1 ⊢
  have hb0 : h b = none := by
    have nb : b ≠ r := H1.ne
    rw [xset_ne _ _ nb] at hb; exact hb
  have n3 : sc ≠ b := xnn r1 hb0
  have nrb : r ≠ b := Ne.symm H1.ne
  have f1 : fr [] h (xset (xset (xset h r (1, [.null, .int 0, .int 0])) b (101, txv A.tp)) r (rdc b 0 (-1))) := (((fr.refl _ _).put (Or.inr hr)).put (Or.inr hb0)).put (Or.inr hr)
  obtain ⟨h2, hh2⟩ : ∃ h2, h2 = xset (xset (xset h r (1, [.null, .int 0, .int 0])) b (101, txv A.tp)) r (rdc b 0 (-1)) := ⟨_, rfl⟩
  rw [← hh2] at H1 f1 ⊢
  have s2 := f1 _ _ r1 (by simp)
  refine xp (fs' := scW K (nI A.tp.length) (nI A.ou.length) (nI A.fo.length) (nI A.aw) r so sy) s2 rfl rfl ?_
  refine xp (fs' := scW K 0 (nI A.ou.length) (nI A.fo.length) (nI A.aw) r so sy) (xset_same _ _ _) rfl rfl ?_
  rw [xset_set]
  refine xg (xset_same _ _ _) (by rfl) ?_
  have k2 : gk (bK K) h h2 := f1.gk fun q hq => by cases hq
  have s2' : h2 sc = some (0, scV K A rd so sy) := s2
  have k3 : gk (bK K) h (xset h2 sc (0, scW K 0 (nI A.ou.length) (nI A.fo.length) (nI A.aw) r so sy)) := k2.put r1 (ng0 (Or.inl rfl))
  obtain ⟨⟨m1, m2, m3, m4, m5, m6⟩, -⟩ := sc_ne r1 r2 r4 r6 r8 r9 r11
  have f : ∀ {q d}, h q = some d → q ≠ sc → xset h2 sc (0, scW K 0 (nI A.ou.length) (nI A.fo.length) (nI A.aw) r so sy) q = some d := fun {q d} e w => xst2 w (f1 _ _ e (by simp))
  refine xP hP ⟨r, b, rfl, ⟨xst2 (Ne.symm n1) H1.1, xst2 (Ne.symm n3) H1.2.1, H1.2.2⟩, ⟨Ne.symm (xnn r2 hb0), Ne.symm (xnn r4 hb0), Ne.symm (xnn r6 hb0), Ne.symm (xnn r11 hb0)⟩, ?_⟩
  exact scQ.of (A := A.wTk) (T := A.tp ++ T) k3 r14 r15 r16 (xset_same _ _ _) ⟨f r2 m1, r3, r17.1.2.app r3'⟩ ⟨f r4 m2, r5⟩ ⟨f r6 m3, r7⟩ (xst2 (Ne.symm n1) H1.1) ⟨f r9 m5, r10⟩ ⟨f r11 m6, r12⟩ r13 ⟨⟨by show 0 ≤ 8192; omega, fun b hb => by cases hb⟩, r17.2⟩
/-! what styles keep to -/
theorem pSteps_lk {t : List Nat} (hB : bytesOk t) : ∀ (n i lk : Nat) (ss l : List ST) (j : Nat), lk ≤ 256 → selOk ss → pSteps t n i lk ss = .ok (l, j) → selOk l
  | 0, i, lk, ss, l, j, _, _, h => by cases h
  | n + 1, i, lk, ss, l, j, hlk, hss, h => by
    rw [pSteps] at h
    obtain ⟨s, k, e1, e2⟩ := pB_inv h
    have hs : s.2.1 = lk := by
      unfold pStep at e1
      obtain ⟨nm, k1, -, e3⟩ := pB_inv e1
      obtain ⟨cs, k2, -, e4⟩ := pB_inv e3
      cases e4; rfl
    have hss2 : selOk (ss ++ [s]) := fun q hq => by
      rcases List.mem_append.mp hq with z | z
      · exact hss q z
      · rw [List.mem_singleton.mp z, hs]; exact hlk
    split at e2
    · exact pSteps_lk hB n _ _ _ l j (hB.le _) hss2 e2
    · cases e2; exact hss2
theorem pSel_lk {t : List Nat} (hB : bytesOk t) {i : Nat} {l : List ST} {j : Nat} (h : pSel t i = .ok (l, j)) : selOk l := pSteps_lk hB 8 i 256 [] l j (Nat.le_refl _) (fun q hq => by cases hq) h
theorem pSels_lk {t : List Nat} (hB : bytesOk t) : ∀ (n i c : Nat) (ls r : List (List ST)) (j : Nat), (∀ l ∈ ls, selOk l) → pSels t n i c ls = .ok (r, j) → ∀ l ∈ r, selOk l
  | 0, i, c, ls, r, j, hls, h => by cases h; exact hls
  | n + 1, i, c, ls, r, j, hls, h => by
    rw [pSels] at h
    split at h
    · cases h
    · obtain ⟨l, k, e1, e2⟩ := pB_inv h
      have h2 : ∀ q ∈ ls ++ [l], selOk q := fun q hq => by
        rcases List.mem_append.mp hq with z | z
        · exact hls q z
        · rw [List.mem_singleton.mp z]; exact pSel_lk hB e1
      split at e2
      · exact pSels_lk hB n _ _ _ r j h2 e2
      · cases e2; exact h2
theorem addNm_pre (t : List Nat) (ns : List (Nat × Nat)) (a : Nat × Nat) : ns.length ≤ (addNm t ns a).length ∧ fndN t ns (sub t a) < (addNm t ns a).length := by
  have hl : fndN t ns (sub t a) ≤ ns.length := List.findIdx_le_length
  unfold addNm
  split
  · rename_i h; exact ⟨Nat.le_refl _, h⟩
  · rw [List.length_append]; show ns.length ≤ ns.length + 1 ∧ _ < ns.length + 1; omega
def tdW (nn : Nat) (d : TD) : Prop := d.1 < nn ∧ 1 ≤ d.2.1 ∧ d.2.1 ≤ 3
theorem pTold_W {t : List Nat} {i cnt j : Nat} {ns : List (Nat × Nat)} {q : TD × List (Nat × Nat)} (h : pTold t i ns cnt = .ok (q, j)) : ns.length ≤ q.2.length ∧ tdW q.2.length q.1 := by
  unfold pTold at h
  obtain ⟨a, k, e1, e2⟩ := pB_inv h
  split at e2
  · cases e2
  · obtain ⟨u, k2, -, e3⟩ := pB_inv e2
    obtain ⟨v, k3, e4, e5⟩ := pB_inv e3
    obtain ⟨u2, k4, -, e6⟩ := pB_inv e5
    cases e6
    obtain ⟨p1, p2⟩ := addNm_pre t ns a
    refine ⟨p1, p2, ?_⟩
    unfold pVal2 at e4
    obtain ⟨w, k5, e7, e8⟩ := pB_inv e4
    have hw : 1 ≤ w.1 ∧ w.1 ≤ 3 := by
      unfold pVal at e7
      split at e7
      · obtain ⟨b, k6, -, e9⟩ := pB_inv e7
        cases e9; exact ⟨by show 1 ≤ 3; decide, by show 3 ≤ 3; decide⟩
      · split at e7
        · obtain ⟨b, k6, -, e9⟩ := pB_inv e7
          cases e9; exact ⟨by show 1 ≤ 2; decide, by show 2 ≤ 3; decide⟩
        · obtain ⟨b, k6, -, e9⟩ := pB_inv e7
          cases e9; exact ⟨by show 1 ≤ 1; decide, by show 1 ≤ 3; decide⟩
    split at e8
    · cases e8; exact hw
    · cases e8; exact hw
theorem tdW.mono {n m : Nat} {d : TD} (h : tdW n d) (hm : n ≤ m) : tdW m d := ⟨Nat.lt_of_lt_of_le h.1 hm, h.2⟩
theorem pBody_W {t : List Nat} : ∀ (n i : Nat) (ds : List TD) (ns : List (Nat × Nat)) (cnt : Nat) (q : List TD × List (Nat × Nat)) (j : Nat), (∀ d ∈ ds, tdW ns.length d) → pBody t n i ds ns cnt = .ok (q, j) → ns.length ≤ q.2.length ∧ ∀ d ∈ q.1, tdW q.2.length d
  | 0, i, ds, ns, cnt, q, j, h, e => by cases e; exact ⟨Nat.le_refl _, h⟩
  | n + 1, i, ds, ns, cnt, q, j, h, e => by
    rw [pBody] at e
    split at e
    · cases e; exact ⟨Nat.le_refl _, h⟩
    · obtain ⟨d, k, e1, e2⟩ := pB_inv e
      obtain ⟨w1, w2⟩ := pTold_W e1
      have := pBody_W n k _ d.2 _ q j (fun x hx => by
        rcases List.mem_append.mp hx with z | z
        · exact (h x z).mono w1
        · rw [List.mem_singleton.mp z]; exact w2) e2
      exact ⟨by omega, this.2⟩
theorem bR_W {t : List Nat} {i cnt j : Nat} {ns : List (Nat × Nat)} {q : List TD × List (Nat × Nat)} (e : bR t i ns cnt = .ok (q, j)) : ns.length ≤ q.2.length ∧ ∀ d ∈ q.1, tdW q.2.length d := by
  unfold bR at e
  obtain ⟨u, k, -, e1⟩ := pB_inv e
  unfold bL at e1
  obtain ⟨p, m, e2, e3⟩ := pB_inv e1
  obtain ⟨u2, k2, -, e4⟩ := pB_inv e3
  cases e4
  exact pBody_W 601 k [] ns cnt _ m (fun x hx => by cases hx) e2
theorem sY.sty {D : xD} {B : Nat → Prop} {h0 h : xH} {r b i sy : Nat} {t O : List Nat} {G : Nat → LG} {rs : List RU} {ss : List (List ST)} {ns : List (Nat × Nat)} (W : sY D B h0 h r b t i O sy G rs ss ns (tcs rs)) : styR D B h sy t rs ss ns := by
  obtain ⟨C, Ls, ⟨s1, s2⟩, A0, A1, A2⟩ := W
  have z := zz_le h0 O h
  exact ⟨_, _, _, _, _, _, _, _, _, s2, (Ls.1 0 (by decide)).1, (Ls.1 1 (by decide)).1, (Ls.1 2 (by decide)).1, A0.mono fun a b q => q.ext z, A1.mono fun a b q => q.ext z, A2.mono fun a b q => q.ext z⟩
end
