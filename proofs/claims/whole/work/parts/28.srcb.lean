/-! CONTRACTS, 8: changes of a source that is held -/
theorem isL.obj {D : xD} {h : xH} {A e q k : Nat} {xs : List Nat} {v : List Value} {c : xC} (H : isL D h A e xs) (hq : h q = some (k, v)) (h1 : k < 12) : isL D (xset h q c) A e xs := by
  obtain ⟨q1, q2, ⟨m, q3⟩, q4⟩ := H
  refine ⟨q1, q2, ⟨m, xst2 (xne' q3 hq (by omega)) q3⟩, ?_⟩
  rcases q4 with ⟨z1, z2, z3⟩ | ⟨z1, z2, z3⟩
  · exact Or.inl ⟨z1, z2, xst2 (xne' z3 hq (by omega)) z3⟩
  · exact Or.inr ⟨z1, z2, xst2 (xne' z3 hq (by omega)) z3⟩
def setF (S : SS) (F : SF) : SS := (S.n, F, S.fd, (S.tm, S.tl), (S.ps, S.pc), S.en, S.op)
def setR (S : SS) (tm tl : Nat) : SS := (S.n, S.F, S.fd, (tm, tl), (S.ps, S.pc), S.en, S.op)
theorem srcR.upd {B : Nat → Prop} {D : xD} {h : xH} {so k : Nat} {t : List Nat} {S : SS} {G : SG} {F' : SF} (R : srcR D B h so t S G) (hk : k < S.n) (hro : G.ad k ≠ G.ro) (hin : ∀ i, i < S.n → i ≠ k → G.ad i ≠ G.ad k) (hF : ∀ i, i < S.n → i ≠ k → ∀ a, F' a i = S.F a i) (h0 : F' 0 k = S.F 0 k) (h1 : F' 1 k = S.F 1 k) : srcR D B (xset h (G.ad k) (4, elV G F' k)) so t (setF S F') G := by
  obtain ⟨r1, r2, r3, r4, r5, r6, r7, r8⟩ := R
  have hc := (r8 k hk).1
  have kk : kp h (xset h (G.ad k) (4, elV G F' k)) := (kp.refl _).put hc rfl
  refine ⟨xst2 (xne' r1 hc (by decide)) r1, xst2 (Ne.symm hro) r2, r3.obj hc (by decide), r4.obj hc (by decide), r5.obj hc (by decide), r6.mono fun a b q => q.kept kk, r7.mono fun a b q => q.kept kk, fun i hi => ?_⟩
  obtain ⟨a, b, c, d⟩ := r8 i hi
  by_cases z : i = k
  · subst z
    refine ⟨xset_same _ _ _, ?_, c.obj hc (by decide), d.mono fun a b q => q.kept kk⟩
    show isS B _ _ (sub t (F' 0 i, F' 1 i))
    rw [h0, h1]; exact b.kept kk
  · refine ⟨?_, ?_, c.obj hc (by decide), d.mono fun a b q => q.kept kk⟩
    · rw [xset_ne _ _ (hin i hi z), a]
      show some (4, elV G S.F i) = some (4, elV G F' i)
      simp only [elV, hF i hi z]
    · show isS B _ _ (sub t (F' 0 i, F' 1 i))
      rw [hF i hi z, hF i hi z]; exact b.kept kk
theorem srcR.upr {B : Nat → Prop} {D : xD} {h : xH} {so tm tl : Nat} {t : List Nat} {S : SS} {G : SG} (R : srcR D B h so t S G) (hro : ∀ i, i < S.n → G.ad i ≠ G.ro) : srcR D B (xset h G.ro (4, roV G tm tl)) so t (setR S tm tl) G := by
  obtain ⟨r1, r2, r3, r4, r5, r6, r7, r8⟩ := R
  have kk : kp h (xset h G.ro (4, roV G tm tl)) := (kp.refl _).put r2 rfl
  refine ⟨xst2 (xne' r1 r2 (by decide)) r1, xset_same _ _ _, r3.obj r2 (by decide), r4.obj r2 (by decide), r5.obj r2 (by decide), r6.mono fun a b q => q.kept kk, r7.mono fun a b q => q.kept kk, fun i hi => ?_⟩
  obtain ⟨a, b, c, d⟩ := r8 i hi
  exact ⟨xst2 (hro i hi) a, b.kept kk, c.obj r2 (by decide), d.mono fun a b q => q.kept kk⟩
theorem srcR.opn {B : Nat → Prop} {D : xD} {h : xH} {so op : Nat} {t : List Nat} {S : SS} {G : SG} (R : srcR D B h so t S G) : srcR D B (xset h so (5, [.ref G.le, .ref G.lt, .ref G.ln, .ref G.ro, .ref (pad G.ad G.ro op)])) so t (opnE S op) G := by
  obtain ⟨r1, r2, r3, r4, r5, r6, r7, r8⟩ := R
  have kk : kp h (xset h so (5, [.ref G.le, .ref G.lt, .ref G.ln, .ref G.ro, .ref (pad G.ad G.ro op)])) := (kp.refl _).put r1 rfl
  refine ⟨xset_same _ _ _, xst2 (xne' r2 r1 (by decide)) r2, r3.obj r1 (by decide), r4.obj r1 (by decide), r5.obj r1 (by decide), r6.mono fun a b q => q.kept kk, r7.mono fun a b q => q.kept kk, fun i hi => ?_⟩
  obtain ⟨a, b, c, d⟩ := r8 i hi
  exact ⟨xst2 (xne' a r1 (by decide)) a, b.kept kk, c.obj r1 (by decide), d.mono fun a b q => q.kept kk⟩
def gTx (G : SG) (e : Nat) (ts : List Nat) : SG := ((G.ro, G.le, G.lt, G.ln), (G.e1, e, G.e3), (G.rn, G.rf), (G.ad, G.ns, G.fl, G.ef, G.fas), ts, G.es)
def gEn (G : SG) (e : Nat) (es : List Nat) : SG := ((G.ro, G.le, G.lt, G.ln), (G.e1, G.e2, e), (G.rn, G.rf), (G.ad, G.ns, G.fl, G.ef, G.fas), G.ts, es)
def setC (S : SS) (ps pc : List (Nat × Nat)) : SS := (S.n, S.F, S.fd, (S.tm, S.tl), (ps, pc), S.en, S.op)
theorem srcR.tx {B : Nat → Prop} {D : xD} {h0 h h' : xH} {so x e2 : Nat} {t : List Nat} {S : SS} {G : SG} {p : Nat × Nat} {ps : List (Nat × Nat)} (R : srcR D B h so t S G) (P : srcP h0 so S G) (f : fr (G.lt :: oL G.ts G.e2) h h') (k : kp h h') (L : isL D h' G.lt e2 (G.ts ++ [x])) (hx : isS B h x (pby t p)) : srcR D B h' so t (setC S ps (S.pc ++ [p])) (gTx G e2 (G.ts ++ [x])) := by
  obtain ⟨r1, r2, r3, r4, r5, r6, r7, r8⟩ := R
  obtain ⟨p1, p2, p3, p4, p5, p6⟩ := P
  refine ⟨f _ _ r1 (r4.off r1 (by decide) (by decide)), f _ _ r2 (r4.off r2 (by decide) (by decide)), r3.ind r4 p3.1 p4.1 f k, L, r5.ind r4 (Ne.symm p3.2.2) p4.2.2.sym f k, ?_, r7.mono fun a b q => q.kept k, fun i hi => ?_⟩
  · show all2 (isS B h') (G.ts ++ [x]) ((S.pc ++ [p]).map (pby t))
    rw [List.map_append]
    exact all2.snoc (hx.kept k) (r6.mono fun a b q => q.kept k)
  · obtain ⟨a, b, c, d⟩ := r8 i hi
    obtain ⟨q1, q2, q3, q4⟩ := p6 i hi
    exact ⟨f _ _ a (r4.off a (by decide) (by decide)), b.kept k, c.ind r4 q1.2.1 q3 f k, d.mono fun a b q => q.kept k⟩
theorem srcP.tx {B : Nat → Prop} {D : xD} {h0 h : xH} {so r x e2 : Nat} {t : List Nat} {S : SS} {G : SG} {c : xC} {ps pc : List (Nat × Nat)} (R : srcR D B h so t S G) (P : srcP h0 so S G) (hz : (G.ts ≠ [] ∧ e2 = G.e2) ∨ h e2 = none) (f0 : fr [r] h0 h) (hr : h r = some c) : srcP h0 so (setC S ps pc) (gTx G e2 (G.ts ++ [x])) := by
  obtain ⟨r1, r2, r3, r4, r5, r6, r7, r8⟩ := R
  obtain ⟨p1, p2, p3, p4, p5, p6⟩ := P
  refine ⟨p1, ⟨p2.1, fun _ => ?_, p2.2.2⟩, p3, ⟨dj.add (A' := 0) r3 p4.1 hz, p4.2.1, (dj.add (A' := 0) r5 p4.2.2.sym hz).sym⟩, p5, fun i hi => ?_⟩
  · rcases hz with ⟨a, rfl⟩ | a
    · exact p2.2.1 a
    · exact f0.none hr a
  · obtain ⟨q1, q2, q3, q4⟩ := p6 i hi
    exact ⟨q1, q2, dj.add (A' := 0) (r8 i hi).2.2.1 q3 hz, q4⟩
theorem srcR.en {B : Nat → Prop} {D : xD} {h0 h h' : xH} {so x e3 : Nat} {t : List Nat} {S : SS} {G : SG} {q : PR} (R : srcR D B h so t S G) (P : srcP h0 so S G) (f : fr (G.ln :: oL G.es G.e3) h h') (k : kp h h') (L : isL D h' G.ln e3 (G.es ++ [x])) (hx : isNm B h x (nmB t q)) : srcR D B h' so t (addN S q) (gEn G e3 (G.es ++ [x])) := by
  obtain ⟨r1, r2, r3, r4, r5, r6, r7, r8⟩ := R
  obtain ⟨p1, p2, p3, p4, p5, p6⟩ := P
  refine ⟨f _ _ r1 (r5.off r1 (by decide) (by decide)), f _ _ r2 (r5.off r2 (by decide) (by decide)), r3.ind r5 p3.2.1 p4.2.1 f k, r4.ind r5 p3.2.2 p4.2.2 f k, L, r6.mono fun a b q => q.kept k, ?_, fun i hi => ?_⟩
  · show all2 (isNm B h') (G.es ++ [x]) (enB t (S.en ++ [q]))
    have : enB t (S.en ++ [q]) = enB t S.en ++ [nmB t q] := by simp [enB]
    rw [this]
    exact all2.snoc (hx.kept k) (r7.mono fun a b q => q.kept k)
  · obtain ⟨a, b, c, d⟩ := r8 i hi
    obtain ⟨q1, q2, q3, q4⟩ := p6 i hi
    exact ⟨f _ _ a (r5.off a (by decide) (by decide)), b.kept k, c.ind r5 q1.2.2 q4 f k, d.mono fun a b q => q.kept k⟩
theorem srcP.en {B : Nat → Prop} {D : xD} {h0 h : xH} {so r x e3 : Nat} {t : List Nat} {S : SS} {G : SG} {c : xC} {q : PR} (R : srcR D B h so t S G) (P : srcP h0 so S G) (hz : (G.es ≠ [] ∧ e3 = G.e3) ∨ h e3 = none) (f0 : fr [r] h0 h) (hr : h r = some c) : srcP h0 so (addN S q) (gEn G e3 (G.es ++ [x])) := by
  obtain ⟨r1, r2, r3, r4, r5, r6, r7, r8⟩ := R
  obtain ⟨p1, p2, p3, p4, p5, p6⟩ := P
  refine ⟨p1, ⟨p2.1, p2.2.1, fun _ => ?_⟩, p3, ⟨p4.1, dj.add (A' := 0) r3 p4.2.1 hz, dj.add (A' := 0) r4 p4.2.2 hz⟩, p5, fun i hi => ?_⟩
  · rcases hz with ⟨a, rfl⟩ | a
    · exact p2.2.2 a
    · exact f0.none hr a
  · obtain ⟨q1, q2, q3, q4⟩ := p6 i hi
    exact ⟨q1, q2, q3, dj.add (A' := 0) (r8 i hi).2.2.1 q4 hz⟩
set_option maxRecDepth 20000 in
theorem c_isText {l : Launch} {D : xD} {b : Nat} (hb : b < 256) (h : xH) : xMet l D 1 y_So_isText [.int (sb_b b)] h 0 0 (fun o h' => h' = h ∧ o = .inl (some (.int (bI (txc b))))) := by
  refine m_So_isText (Nat.le_of_ble_eq_true rfl) fun X hl hD hP hA => ?_
  subst hl hD
  have f : ∀ k : Nat, k < 128 → (sb_b b = nI k ↔ b = k) := fun k hk => sb_lit hb hk
  refine xgo [] 40 hA ?_
  refine xb (fun c => ?_) (fun c => ?_) -- 3 o_iceq 25 6
  · have := (f 10 (by decide)).mp c
    exact And.intro rfl (xP hP ⟨rfl, by rw [txc, this]; rfl⟩)
  · have c1 : ¬ b = 10 := fun z => c ((f 10 (by decide)).mpr z)
    refine xcS (c_isPrinted (pr_b b hb) _) (by rfl) (by rfl) (by rfl) (Nat.zero_le _) (Nat.zero_le _) ?_
    rintro o h1 ⟨rfl, rfl⟩
    refine xb (fun c => ?_) (fun c => ?_) -- 10 o_ifeq 29 13
    · exact And.intro rfl (xP hP ⟨rfl, by rw [txc, beq_eq_false_iff_ne.mpr c1, (bI_0 _).mp c]; rfl⟩)
    · have c2 := (bI_n0 _).mp c
      refine xb (fun c => ?_) (fun c => ?_) -- 16 o_iceq 29 19
      · have := (f 60 (by decide)).mp c
        exact And.intro rfl (xP hP ⟨rfl, by rw [txc, this]; rfl⟩)
      · have c3 : ¬ b = 60 := fun z => c ((f 60 (by decide)).mpr z)
        refine xb (fun c => ?_) (fun c => ?_) -- 22 o_iceq 29 25
        · have := (f 38 (by decide)).mp c
          exact And.intro rfl (xP hP ⟨rfl, by rw [txc, this]; rfl⟩)
        · have c4 : ¬ b = 38 := fun z => c ((f 38 (by decide)).mpr z)
          exact And.intro rfl (xP hP ⟨rfl, by rw [txc, c2, beq_eq_false_iff_ne.mpr c1, beq_eq_false_iff_ne.mpr c3, beq_eq_false_iff_ne.mpr c4]; rfl⟩)
set_option maxRecDepth 20000 in
theorem c_addText {B : Nat → Prop} {l : Launch} {D : xD} {h0 h : xH} {so r b i x : Nat} {t : List Nat} {S : SS} {p : Nat × Nat} (I : srcI D B h0 h so r b t i S) (hx : isS B h x (pby t p)) (hl : (pby t p).length = p.2) (hpc : S.pc.length < i) : xMet l D 7 y_So_addText [.ref so, .ref x] h 1 (gS (addP S p).pc.length - gS S.pc.length) (fun o h' => srcI D B h0 h' so r b t i (addP S p) ∧ o = .inl none) := by
  have I' := I
  obtain ⟨G, q1, q2, q3, R, P, O⟩ := I
  have R' := R
  obtain ⟨r1, r2, r3, r4, r5, r6, r7, r8⟩ := R
  obtain ⟨a0, f0, T, x1, x2, x3, x4, x5, x6, x7⟩ := hx
  have hx : isS B h x (pby t p) := ⟨a0, f0, T, x1, x2, x3, x4, x5, x6, x7⟩
  have hp2 : p.2 < 2 ^ 20 := by omega
  have hts : G.ts.length = S.pc.length := by have := r6.len; rw [List.length_map] at this; exact this
  have hi20 := q1.2.2.1
  have ht8 := O.2.2.2.2.2.2.2.2
  refine m_So_addText (Nat.le_of_ble_eq_true rfl) fun X hl hD hP hA => ?_
  subst hl hD
  refine xgo [] 40 hA ?_
  refine xg (by first | assumption | exact xset_same _ _ _ | exact xst2 (by first | assumption | exact Ne.symm (by assumption)) (by first | assumption | exact xset_same _ _ _ | exact xst2 (by first | assumption | exact Ne.symm (by assumption)) (by first | assumption | exact xset_same _ _ _ | exact xst2 (by first | assumption | exact Ne.symm (by assumption)) (by first | assumption | exact xset_same _ _ _ | exact xst2 (by first | assumption | exact Ne.symm (by assumption)) (by first | assumption | exact xset_same _ _ _ | exact xst2 (by first | assumption | exact Ne.symm (by assumption)) (by first | assumption | exact xset_same _ _ _ | exact xst2 (by first | assumption | exact Ne.symm (by assumption)) (by first | assumption | exact xset_same _ _ _))))))) (by rfl) ?_ -- 1 f2.2
  rw [hl]
  refine xb (fun c => ?_) (fun c => ?_) -- 4 o_ifle 35 7
  · have c1 : p.2 = 0 := Nat.le_zero.mp ((nI_leI (b := 0) (by omega) (by omega)).mp c)
    exact xP hP ⟨by rw [addP, if_pos c1]; exact I', rfl⟩
  · have c1 : ¬ p.2 = 0 := fun z => c (by rw [z]; decide)
    refine xg (by first | assumption | exact xset_same _ _ _ | exact xst2 (by first | assumption | exact Ne.symm (by assumption)) (by first | assumption | exact xset_same _ _ _ | exact xst2 (by first | assumption | exact Ne.symm (by assumption)) (by first | assumption | exact xset_same _ _ _ | exact xst2 (by first | assumption | exact Ne.symm (by assumption)) (by first | assumption | exact xset_same _ _ _ | exact xst2 (by first | assumption | exact Ne.symm (by assumption)) (by first | assumption | exact xset_same _ _ _ | exact xst2 (by first | assumption | exact Ne.symm (by assumption)) (by first | assumption | exact xset_same _ _ _ | exact xst2 (by first | assumption | exact Ne.symm (by assumption)) (by first | assumption | exact xset_same _ _ _))))))) (by rfl) ?_ -- 8 f5.4
    refine xg (by first | assumption | exact xset_same _ _ _ | exact xst2 (by first | assumption | exact Ne.symm (by assumption)) (by first | assumption | exact xset_same _ _ _ | exact xst2 (by first | assumption | exact Ne.symm (by assumption)) (by first | assumption | exact xset_same _ _ _ | exact xst2 (by first | assumption | exact Ne.symm (by assumption)) (by first | assumption | exact xset_same _ _ _ | exact xst2 (by first | assumption | exact Ne.symm (by assumption)) (by first | assumption | exact xset_same _ _ _ | exact xst2 (by first | assumption | exact Ne.symm (by assumption)) (by first | assumption | exact xset_same _ _ _ | exact xst2 (by first | assumption | exact Ne.symm (by assumption)) (by first | assumption | exact xset_same _ _ _))))))) (by rfl) ?_ -- 12 f5.3
    cases hop : S.op with
    | zero =>
      rw [hop] at r1
      refine xt rfl ?_
      refine xP hP ⟨?_, rfl⟩
      rw [addP, if_neg c1, if_pos hop]
      exact ⟨G, q1, q2, q3, R', P, O⟩
    | succ k =>
      have hk : k < S.n := by have := O.1; omega
      have hne := (P.2.2.2.2.1 k hk).2.1
      have eS : addP S p = setF (setC S (S.ps ++ [p]) (S.pc ++ [p])) (up S.F 11 k 1) := by
        have e : S.op - 1 = k := by omega
        rw [addP, if_neg c1, if_neg (by omega), e]; rfl
      rw [hop] at r1
      refine xf hne ?_
      refine xg (by first | assumption | exact xset_same _ _ _ | exact xst2 (by first | assumption | exact Ne.symm (by assumption)) (by first | assumption | exact xset_same _ _ _ | exact xst2 (by first | assumption | exact Ne.symm (by assumption)) (by first | assumption | exact xset_same _ _ _ | exact xst2 (by first | assumption | exact Ne.symm (by assumption)) (by first | assumption | exact xset_same _ _ _ | exact xst2 (by first | assumption | exact Ne.symm (by assumption)) (by first | assumption | exact xset_same _ _ _ | exact xst2 (by first | assumption | exact Ne.symm (by assumption)) (by first | assumption | exact xset_same _ _ _ | exact xst2 (by first | assumption | exact Ne.symm (by assumption)) (by first | assumption | exact xset_same _ _ _))))))) (by rfl) ?_ -- 19 f5.1
      obtain ⟨vt, ht⟩ := r4.cell
      refine xcV ht (c_addL q3 r4 x1 rfl (fun y hy => by
        obtain ⟨w, -, hw⟩ := r6.mem y hy
        exact hw.ok) (by omega)) (by rfl) (by rfl) (by rfl) (amc_le _ _) (by
          rw [eS]
          show _ ≤ gS (S.pc ++ [p]).length - gS S.pc.length
          rw [List.length_append, hts]; exact Nat.le_refl _) ?_
      rintro o h1 ⟨⟨e2, y1, y2⟩, y3, y4, rfl⟩
      have R1 := srcR.tx (ps := S.ps ++ [p]) R' P y3 y4 y1 hx
      have P1 := srcP.tx (ps := S.ps ++ [p]) (pc := S.pc ++ [p]) (x := x) R' P y2 q2 q1.1
      have z1 : h1 so = some (5, [.ref G.le, .ref G.lt, .ref G.ln, .ref G.ro, .ref (G.ad k)]) := by have := R1.1; rw [show (setC S (S.ps ++ [p]) (S.pc ++ [p])).op = k + 1 from hop] at this; exact this
      have z2 := (R1.2.2.2.2.2.2.2 k hk).1
      refine xg (by first | assumption | exact xset_same _ _ _ | exact xst2 (by first | assumption | exact Ne.symm (by assumption)) (by first | assumption | exact xset_same _ _ _ | exact xst2 (by first | assumption | exact Ne.symm (by assumption)) (by first | assumption | exact xset_same _ _ _ | exact xst2 (by first | assumption | exact Ne.symm (by assumption)) (by first | assumption | exact xset_same _ _ _ | exact xst2 (by first | assumption | exact Ne.symm (by assumption)) (by first | assumption | exact xset_same _ _ _ | exact xst2 (by first | assumption | exact Ne.symm (by assumption)) (by first | assumption | exact xset_same _ _ _ | exact xst2 (by first | assumption | exact Ne.symm (by assumption)) (by first | assumption | exact xset_same _ _ _))))))) (by rfl) ?_ -- 28 f5.4
      refine xpz z2 ⟨rfl, rfl⟩ rfl ?_ -- 32 f4.11
      have R2 := R1.upd (F' := up S.F 11 k 1) hk hne (fun i hi z y => z ((P.2.2.2.2.1 i hi).2.2 k hk y)) (fun i hi z a => by unfold up; rw [if_neg (fun y => z y.2)]; rfl) (by simp [up]; rfl) (by simp [up]; rfl)
      have eV : (elV (gTx G e2 (G.ts ++ [x])) (setC S (S.ps ++ [p]) (S.pc ++ [p])).F k).set 11 (.int 1) = elV (gTx G e2 (G.ts ++ [x])) (up S.F 11 k 1) k := by
        have e : up S.F 11 k 1 11 k = 1 := by simp [up]
        simp only [elV, e]
        rfl
      have f1 : fr [r] h0 h1 := q2.trans y3 fun z hz => by
        rcases List.mem_cons.mp hz with rfl | hz
        · exact Or.inr P.1.2.2.2.1
        · obtain ⟨rfl, w⟩ := oL_sub _ _ hz
          exact Or.inr (P.2.1.2.1 w)
      have hr1 : h1 r = some (rdc b i (-1)) := y3 _ _ q1.1 (r4.off q1.1 (by decide) (by decide))
      have hb1 : h1 b = some (101, txv t) := y3 _ _ q1.2.1 (r4.off q1.2.1 (by decide) (by decide))
      refine xP hP ⟨?_, rfl⟩
      rw [eS]
      refine ⟨gTx G e2 (G.ts ++ [x]), ⟨xst2 (xne' hr1 z2 (by decide)) hr1, xst2 (xne' hb1 z2 (by decide)) hb1, q1.2.2⟩, f1.put (Or.inr (P.2.2.2.2.1 k hk).1), (q3.kept y4).kept ((kp.refl _).put z2 rfl), ?_, P1, ?_⟩
      · have := R2
        rw [← eV] at this
        exact this
      · obtain ⟨o1, o2, o3, o4, o5, o6, o7, o8, o9⟩ := O
        refine ⟨o1, o2, o3, fun k' hk' => ?_, o5, o6, ?_, o8, o9⟩
        · exact o4 k' hk'
        · show (S.pc ++ [p]).length ≤ i
          rw [List.length_append]; exact hpc
