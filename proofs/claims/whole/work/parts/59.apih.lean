/-! THE CLASS, 8: property -/
section
variable {Zh : xH}
theorem ld_mem {wh : Nat} : ∀ (ps : List (TD × Nat)) (b : Option (TD × Nat)) (p : TD × Nat), ps.foldl (ldS wh) b = some p → p ∈ ps ∨ b = some p
  | [], b, p, h => Or.inr h
  | q :: ps, b, p, h => by
    rcases ld_mem ps _ p h with z | z
    · exact Or.inl (List.mem_cons_of_mem _ z)
    · unfold ldS at z
      split at z
      · cases z; exact Or.inl List.mem_cons_self
      · exact Or.inr z
theorem cF_mem {ts ty : List Nat} {S : SS} {e wh : Nat} : ∀ (l : List (Nat × RU)) (b : Option ((TD × Nat) × Nat)) (q : (TD × Nat) × Nat), l.foldl (cS ts ty S e wh) b = some q → (∃ R ∈ l, q.1.1 ∈ R.2.2) ∨ b = some q
  | [], b, q, h => Or.inr h
  | R :: l, b, q, h => by
    rcases cF_mem l _ q h with ⟨R', z1, z2⟩ | z
    · exact Or.inl ⟨R', List.mem_cons_of_mem _ z1, z2⟩
    · have key : ∀ p, ld wh (R.2.2.zipIdx R.1) = some p → p.1 ∈ R.2.2 := fun p hp => by
        rcases ld_mem _ _ p hp with y | y
        · exact List.fst_mem_of_mem_zipIdx y
        · cases y
      unfold cS at z
      split at z
      · exact Or.inr z
      · rename_i p hp
        split at z
        · exact Or.inr z
        · split at z
          · cases z; exact Or.inl ⟨R, List.mem_cons_self, key p hp⟩
          · split at z
            · cases z; exact Or.inl ⟨R, List.mem_cons_self, key p hp⟩
            · exact Or.inr z
/-- what counts for an element one too great; for the root nothing -/
def cfx (A : AS) (wh x : Nat) : Option (TD × Nat) := match x with
  | 0 => none
  | k + 1 => (cF A.ts A.ty A.S k wh A.rs).map (fun q => q.1)
def pvl (A : AS) (wh : Nat) : Nat → Nat → List Nat → Option (TD × Nat) × List Nat
  | 0, x, sh => (cfx A wh x, sh)
  | n + 1, x, sh => match cfx A wh x with
    | none => (none, sh)
    | some p => if lns A.ty p.1 = true then pvl A wh n (A.S.F 2 (x - 1)) (if 0 < p.1.2.2.2.2.1 then sh ++ [p.1.2.2.2.2.1] else sh) else (some p, sh)
theorem cfx_k {A : AS} {wh x : Nat} {p : TD × Nat} (W : styW A.rs A.ss A.ns) (h : cfx A wh x = some p) : 1 ≤ p.1.2.1 ∧ p.1.2.1 ≤ 3 := by
  cases x with
  | zero => cases h
  | succ k =>
    have h : (cF A.ts A.ty A.S k wh A.rs).map (fun q => q.1) = some p := h
    cases hc : cF A.ts A.ty A.S k wh A.rs with
    | none => rw [hc] at h; cases h
    | some q =>
      rw [hc] at h
      cases h
      rcases cF_mem _ _ q hc with ⟨R, z1, z2⟩ | z
      · exact (W.1 R.2 (idx_mem _ _ _ z1)).2 _ z2
      · cases z
theorem scQ.share {D : xD} {h : xH} {sc rd so sy : Nat} {K : CK} {A : AS} {G : SG} {vs : List Value} (Q : scQ Zh D h sc K A rd so sy G) (hv : vs.length = 20) : scQ Zh D (xset h K.2.2.2.2 (100, vs)) sc K A rd so sy G ∧ gk (bK K) h (xset h K.2.2.2.2 (100, vs)) := by
  obtain ⟨T, O, fv, rv, hv', v0, v1, r1, ⟨r2, r3⟩, ⟨r4, r5⟩, ⟨r6, r7⟩, r8, ⟨r9, r10⟩, ⟨r11, r12⟩, r13, r14, r15, r16, r17⟩ := Q
  obtain ⟨⟨n1, n2, n3, n4, n5, n6⟩, ⟨n7, n8, n9, n10⟩, ⟨n11, n12, n13, n14⟩, ⟨n15, n16⟩, ⟨n17, n18⟩, n19⟩ := sc_ne r1 r2 r4 r6 r8 r9 r11
  have k : gk (bK K) h (xset h K.2.2.2.2 (100, vs)) := (gk.refl _ _).put r11 (ng0 (Or.inr (Or.inr (Or.inl ⟨rfl, fun z => z.2.2.2 rfl⟩))))
  have f : ∀ {q d}, h q = some d → q ≠ K.2.2.2.2 → xset h K.2.2.2.2 (100, vs) q = some d := fun {q d} e w => xst2 w e
  exact ⟨scQ.of k r14 r15 r16 (f r1 (Ne.symm n6)) ⟨f r2 (Ne.symm n10), r3⟩ ⟨f r4 (Ne.symm n14), r5⟩ ⟨f r6 r13.2, r7⟩ (f r8 n18) ⟨f r9 (Ne.symm n19), r10⟩ ⟨xset_same _ _ _, hv⟩ r13 r17, k⟩
theorem tdO.gd {B : Nat → Prop} {h h' : xH} {ty : List Nat} {v : Value} {q : Option (TD × Nat)} (H : tdO B h ty v q) (k : gk B h h') : tdO B h' ty v q := by
  cases q with
  | none => exact H
  | some p =>
    obtain ⟨y, h1, h2⟩ := H
    exact ⟨y, h1, h2.gd k⟩
set_option maxRecDepth 20000 in
theorem c_countingRoot {l : Launch} {D : xD} {h : xH} {sy ro rc : Nat} {wv : Int32} {v0 v2 v3 v4 v5 v6 v7 v8 v9 v10 v11 v12 v13 v14 : Value} (hr : h ro = some (4, [v0, .null, v2, v3, v4, v5, v6, v7, v8, v9, v10, v11, v12, v13, v14])) : xMet l D 8 y_Sy_countingFor [.ref sy, .ref ro, .int wv, .ref rc] h 0 0 (fun o h' => h' = h ∧ o = .inl (some .null)) := by
  refine m_Sy_countingFor (Nat.le_of_ble_eq_true rfl) fun X hl hD hP hA => ?_
  subst hl hD
  refine xgo [] 60 hA ?_
  refine xg hr (by rfl) ?_
  exact xP hP ⟨rfl, rfl⟩
set_option maxRecDepth 20000 in
theorem c_counting {l : Launch} {D : xD} {h : xH} {sc rd so sy x : Nat} {K : CK} {A : AS} {G : SG} {wv : Int32} {wh : Nat} (Q : scQ Zh D h sc K A rd so sy G) (hx : x ≤ A.S.n) (hw : ∀ d, d < A.ns.length → (nI d = wv ↔ d = wh)) : xMet l D 8 y_Sy_countingFor [.ref sy, .ref (pad G.ad G.ro x), .int wv, .ref K.2.2.2.1] h 0 0 (fun o h' => scQ Zh D h' sc K A rd so sy G ∧ (∃ vs, (h' = h ∨ (h' = xset h K.2.2.2.1 (105, vs) ∧ vs.length = 20))) ∧ ∃ v, o = .inl (some v) ∧ tdO (bK K) h' A.ty v (cfx A wh x)) := by
  obtain ⟨vs, q1, q2, Z, q4, r1, r17⟩ := Q.z
  have hW : styW A.rs A.ss A.ns := r17.2.2.2.2.2
  cases x with
  | zero =>
    obtain ⟨-, -, -, -, -, -, -, -, -, -, -, -, -, -, -, -, r15, -⟩ := id Q
    refine (c_countingRoot r15.2.1).mono ?_
    rintro o h' ⟨rfl, rfl⟩
    exact ⟨Q, ⟨[], Or.inl rfl⟩, .null, rfl, rfl⟩
  | succ k =>
    refine (c_countingFor (wh := wh) (wv := wv) Z q4 (show k < A.S.n by omega) q1 q2 (nn := A.ns.length) (fun R hR => (hW.1 R hR).1) hW.2.1 hw).mono ?_
    rintro o h' ⟨⟨vs2, rfl, hv2⟩, v, rfl, hT⟩
    exact ⟨Q.reach hv2, ⟨vs2, Or.inr ⟨rfl, hv2⟩⟩, v, rfl, hT.ext (Z.put (c := (105, vs2))).1⟩
def aProp (A : AS) (e : Int32) : Option Int32 × AS := match elK A.S e with
  | none => (none, A.wTp [])
  | some k => (some (nI (vlO A.ty (pvl A (aWh A) 20 (k + 1) []).1 (pvl A (aWh A) 20 (k + 1) []).2).1), (A.wTp []).wOu (vlO A.ty (pvl A (aWh A) 20 (k + 1) []).1 (pvl A (aWh A) 20 (k + 1) []).2).2)
set_option maxRecDepth 20000 in
theorem c_property {l : Launch} {D : xD} {h : xH} {sc : Nat} {K : CK} {A : AS} {e : Int32} (R : scR Zh D h sc K A) : xMet l D 9 y_Sc_property [.ref sc, .int e] h 2 9 (fun o h' => oI 15 (aProp A e).1 o ∧ scR Zh D h' sc K (aProp A e).2) := by
  obtain ⟨rd, so, sy, G, Q⟩ := R
  obtain ⟨T, O, fv, rv, hv', v0, v1, r1, -⟩ := id Q
  refine m_Sc_property (Nat.le_of_ble_eq_true rfl) fun X hl hD hP hA => ?_
  subst hl hD
  have main : ∀ (k : Nat), aProp A e = (some (nI (vlO A.ty (pvl A (aWh A) 20 (k + 1) []).1 (pvl A (aWh A) 20 (k + 1) []).2).1), (A.wTp []).wOu (vlO A.ty (pvl A (aWh A) 20 (k + 1) []).1 (pvl A (aWh A) 20 (k + 1) []).2).2) → k < A.S.n → ∀ (n L x : Nat) (v : Value) (shs : List Nat) (hv : List Value) (h1 : xH) (rc rs : Nat) (ls : xL), L + n = 20 → x ≤ A.S.n → scQ Zh X.D h1 sc K (A.wTp []) rd so sy G → tdO (bK K) h1 A.ty v (cfx A (aWh A) x) → h1 K.2.2.2.2 = some (100, hv) → hv.length = 20 → (∀ j, ∀ hj : j < shs.length, hv[j]? = some (.int (nI shs[j]))) → (∀ s ∈ shs, s ≤ 1000) → shs.length ≤ L → pvl A (aWh A) n x shs = pvl A (aWh A) 20 (k + 1) [] → (∀ p ∈ [(7, Value.int (nI L)), (6, v), (5, .int (nI shs.length)), (4, .int (aWv A)), (3, .ref (pad G.ad G.ro x)), (0, .ref sc)], p ∈ ls) → xG X 43 ls [] h1 rc rs := by
    intro k ea hk n
    rw [ea] at hP
    have done : ∀ (q : Option (TD × Nat)) (v : Value) (shs : List Nat) (hv : List Value) (h1 : xH) (rc rs : Nat) (ls : xL), pvl A (aWh A) 20 (k + 1) [] = (q, shs) → scQ Zh X.D h1 sc K (A.wTp []) rd so sy G → tdO (bK K) h1 A.ty v q → (∀ p, q = some p → 1 ≤ p.1.2.1 ∧ p.1.2.1 ≤ 3) → h1 K.2.2.2.2 = some (100, hv) → (∀ j, ∀ hj : j < shs.length, hv[j]? = some (.int (nI shs[j]))) → (∀ s ∈ shs, s ≤ 1000) → shs.length ≤ 20 → (∀ p ∈ [(6, v), (5, .int (nI shs.length)), (0, .ref sc)], p ∈ ls) → xG X 113 ls [] h1 rc rs := by
      intro q v shs hv h1 rc rs ls e1 Q1 T1 hk1 s1 s2 s3 s4 hls
      refine xG.locs ?_ hls
      rw [e1] at hP
      obtain ⟨_, _, _, _, _, _, _, p1, -⟩ := id Q1
      have c := c_putValue (l := X.l) (q := q) Q1 T1 s1 s2 s3 s4 hk1
      rcases T1.nr with hv1 | ⟨y, hv1⟩
      · subst hv1
        refine xgo [] 60 hA ?_
        refine xcV p1 c (by rfl) (by rfl) (by rfl) (Nat.zero_le _) (Nat.zero_le _) ?_
        rintro o h' ⟨rfl, Q2⟩
        exact xP hP ⟨rfl, rd, so, sy, G, Q2⟩
      · subst hv1
        refine xgo [] 60 hA ?_
        refine xcV p1 c (by rfl) (by rfl) (by rfl) (Nat.zero_le _) (Nat.zero_le _) ?_
        rintro o h' ⟨rfl, Q2⟩
        exact xP hP ⟨rfl, rd, so, sy, G, Q2⟩
    induction n with
    | zero =>
      intro L x v shs hv h1 rc rs ls hL hx Q1 T1 s1 s5 s2 s3 s4 e1 hls
      refine xG.locs ?_ hls
      have hL : L = 20 := by omega
      subst hL
      have W : styW A.rs A.ss A.ns := by
        obtain ⟨-, -, -, -, -, -, -, -, -, -, -, -, -, -, -, -, -, -, r17⟩ := id Q1
        exact r17.2.2.2.2.2
      have fin := done (cfx A (aWh A) x) v shs hv h1 rc rs [(6, v), (5, .int (nI shs.length)), (0, .ref sc)] e1.symm Q1 T1 (fun p hp => cfx_k W hp) s1 s2 s3 s4 (by simp)
      rcases T1.nr with hv1 | ⟨y, hv1⟩
      · subst hv1
        refine xgo [113] 60 hA ?_
        refine xt (by decide) ?_
        exact fin.locs (by simp)
      · subst hv1
        refine xgo [113] 60 hA ?_
        refine xt (by decide) ?_
        exact fin.locs (by simp)
    | succ n ih =>
      intro L x v shs hv h1 rc rs ls hL hx Q1 T1 s1 s5 s2 s3 s4 e1 hls
      refine xG.locs ?_ hls
      obtain ⟨T', O', fv', rv', hv'', v0', v1', p1, -, -, -, -, -, -, -, E1, p15, -, r17⟩ := id Q1
      have W : styW A.rs A.ss A.ns := r17.2.2.2.2.2
      have SWs : SW A.S := r17.2.2.2.2.1.1
      have hnlt : ¬ (20 : Int32) ≤ nI L := fun y => by have := (nI_leI (a := 20) (b := L) (by omega) (by omega)).mp y; omega
      cases hc : cfx A (aWh A) x with
      | none =>
        rw [hc] at T1
        have T1 : v = .null := T1
        subst T1
        have e2 : pvl A (aWh A) (n + 1) x shs = (none, shs) := by rw [pvl, hc]
        refine xgo [113] 60 hA ?_
        refine xf hnlt ?_
        exact (done none .null shs hv h1 rc rs [(6, .null), (5, .int (nI shs.length)), (0, .ref sc)] (by rw [← e1, e2]) Q1 rfl (fun p hp => by cases hp) s1 s2 s3 (by omega) (by simp)).locs (by simp)
      | some p =>
        have hkp := cfx_k W hc
        rw [hc] at T1
        obtain ⟨y, rfl, Td⟩ := T1
        obtain ⟨tv, t1, -, -, t4⟩ := id Td
        obtain ⟨k', rfl⟩ : ∃ k', x = k' + 1 := by
          cases x with
          | zero => cases hc
          | succ k' => exact ⟨k', rfl⟩
        have hk' : k' < A.S.n := by omega
        have hF2 := (SWs.2 k' hk').1.1
        refine xgo [113, 86] 80 hA ?_
        refine xf hnlt ?_
        refine xcV t1 (c_leansOnOuter E1.1 Td hkp.2) (by rfl) (by rfl) (by rfl) (Nat.zero_le _) (Nat.zero_le _) ?_
        rintro o h' ⟨rfl, rfl⟩
        refine xb (fun c => ?_) (fun c => ?_)
        · have c1 := (bI_0 _).mp c
          have e2 : pvl A (aWh A) (n + 1) (k' + 1) shs = (some p, shs) := by
            rw [pvl, hc]; simp only []; rw [if_neg (by rw [c1]; decide)]
          exact (done (some p) (.ref y) shs hv h' rc rs [(6, .ref y), (5, .int (nI shs.length)), (0, .ref sc)] (by rw [← e1, e2]) Q1 ⟨y, rfl, Td⟩ (fun q hq => by cases hq; exact hkp) s1 s2 s3 (by omega) (by simp)).locs (by simp)
        · have c1 := (bI_n0 _).mp c
          have e2 : pvl A (aWh A) (n + 1) (k' + 1) shs = pvl A (aWh A) n (A.S.F 2 k') (if 0 < p.1.2.2.2.2.1 then shs ++ [p.1.2.2.2.2.1] else shs) := by
            rw [pvl, hc]; simp only []; rw [if_pos c1]; rfl
          -- outwards
          have go : ∀ (shs2 : List Nat) (hv2 : List Value) (h2 : xH) (ls : xL), scQ Zh X.D h2 sc K (A.wTp []) rd so sy G → h2 (G.ad k') = some (4, elV G A.S.F k') → h2 K.2.2.2.2 = some (100, hv2) → hv2.length = 20 → (∀ j, ∀ hj : j < shs2.length, hv2[j]? = some (.int (nI shs2[j]))) → (∀ s ∈ shs2, s ≤ 1000) → shs2.length ≤ L + 1 → (if 0 < p.1.2.2.2.2.1 then shs ++ [p.1.2.2.2.2.1] else shs) = shs2 → (∀ q ∈ [(7, Value.int (nI L)), (6, .ref y), (5, .int (nI shs2.length)), (4, .int (aWv A)), (3, .ref (pad G.ad G.ro (k' + 1))), (0, .ref sc)], q ∈ ls) → xG X 86 ls [] h2 rc rs := by
            intro shs2 hv2 h2 ls Q2 g1 a1 a2 a3 a4 a5 a6 hls
            refine xG.locs ?_ hls
            obtain ⟨_, _, _, _, _, _, _, w1, -⟩ := id Q2
            have r16' : styR X.D (bK K) h2 sy A.ty A.rs A.ss A.ns := by
              obtain ⟨-, -, -, -, -, -, -, -, -, -, -, -, -, -, -, -, -, r16, -⟩ := id Q2
              exact r16
            obtain ⟨lr, er, ls', es, ln, en, xr, xs, xn, y1, -⟩ := r16'
            refine xgo [105] 80 hA ?_
            refine xg g1 (by rfl) ?_
            refine xg w1 (by rfl) ?_
            refine xg w1 (by rfl) ?_
            refine xcV y1 (c_counting (A := A.wTp []) (wh := aWh A) (wv := aWv A) Q2 (x := A.S.F 2 k') (by show A.S.F 2 k' ≤ A.S.n; omega) (aWv_iff W.2.2.2.2.1)) (by rfl) (by rfl) (by rfl) (Nat.zero_le _) (Nat.zero_le _) ?_
            rintro o h3 ⟨Q3, ⟨vs3, hh3⟩, v3, rfl, T3⟩
            have n19 : K.2.2.2.2 ≠ K.2.2.2.1 := by
              obtain ⟨vs, z1, -⟩ := Q2.z
              exact xne' a1 z1 (by decide)
            have a1' : h3 K.2.2.2.2 = some (100, hv2) := by
              rcases hh3 with z | ⟨z, -⟩
              · rw [z]; exact a1
              · rw [z]; exact xst2 n19 a1
            have nxt := fun ls hls => ih (L + 1) (A.S.F 2 k') v3 shs2 hv2 h3 rc rs ls (by omega) (by omega) Q3 T3 a1' a2 a3 a4 a5 (by rw [← a6, ← e2, e1]) hls
            rcases T3.nr with hv3 | ⟨y3, hv3⟩
            · subst hv3
              refine xgo [43] 60 hA ?_
              exact nxt _ (by rw [← nI_1]; simp)
            · subst hv3
              refine xgo [43] 60 hA ?_
              exact nxt _ (by rw [← nI_1]; simp)
          have g1 := (p15.2.2.2.2.2.2.2 k' hk').1
          refine xg t1 (by rfl) ?_
          refine xb (fun c2 => ?_) (fun c2 => ?_)
          · have c3 : ¬ 0 < p.1.2.2.2.2.1 := fun z => by have := (nI_leI (b := 0) (by omega) (by omega)).mp c2; omega
            exact go shs hv h' _ Q1 g1 s1 s5 s2 s3 (by omega) (if_neg c3) (by simp)
          · have c3 : 0 < p.1.2.2.2.2.1 := Nat.lt_of_not_le fun z => c2 ((nI_leI (b := 0) (by omega) (by omega)).mpr z)
            refine xg p1 (by rfl) ?_
            refine xg t1 (by rfl) ?_
            refine xsi (j := shs.length) s1 (by rfl) (by omega) ?_
            obtain ⟨Q2, k2⟩ := Q1.share (vs := hv.set shs.length (.int (nI p.1.2.2.2.2.1))) (by rw [List.length_set]; exact s5)
            refine go (shs ++ [p.1.2.2.2.2.1]) (hv.set shs.length (.int (nI p.1.2.2.2.2.1))) _ _ Q2 (k2 _ _ g1 (gd.k rfl)) (xset_same _ _ _) (by rw [List.length_set]; exact s5) (fun j hj => ?_) (fun s hs => ?_) (by rw [List.length_append]; show shs.length + 1 ≤ L + 1; omega) (if_pos c3) (by rw [List.length_append, show [p.1.2.2.2.2.1].length = 1 from rfl, ← nI_1]; simp)
            · by_cases z : j = shs.length
              · subst z
                rw [List.getElem?_set_self (by omega)]
                simp
              · rw [List.length_append] at hj
                have hj' : j < shs.length := by
                  have : [p.1.2.2.2.2.1].length = 1 := rfl
                  omega
                rw [List.getElem?_set_ne (fun w => z w.symm), s2 j hj', List.getElem_append_left hj']
            · rcases List.mem_append.mp hs with z | z
              · exact s3 s z
              · rw [List.mem_singleton.mp z]; exact t4
  refine xgo [38] 80 hA ?_
  refine xcV r1 (c_takeName Q) (by rfl) (by rfl) (by rfl) (by omega) (by omega) ?_
  rintro o h1 ⟨s, rfl, S1, Q1⟩
  obtain ⟨T1', O1, fv1, rv1, hv1, w0, w1, r1', -, -, -, -, -, ⟨rs1, rs2⟩, -, -, r15, r16, r17⟩ := id Q1
  have hn : A.S.n ≤ 500 := r17.2.2.2.2.1.1.1
  have hW : styW A.rs A.ss A.ns := r17.2.2.2.2.2
  refine xcV r1' (c_elementAt Q1) (by rfl) (by rfl) (by rfl) (by omega) (by omega) ?_
  rintro o h2 (⟨p1, ⟨x, rfl⟩, p3⟩ | ⟨k, hk, rfl, rfl, rfl⟩)
  · have ea : aProp A e = (none, A.wTp []) := by unfold aProp; rw [elK_none (S := A.S) p1]
    rw [ea] at hP
    exact xP hP ⟨⟨x, rfl⟩, rd, so, sy, G, p3⟩
  have hk : k < A.S.n := hk
  have ea : aProp A (nI k) = (some (nI (vlO A.ty (pvl A (aWh A) 20 (k + 1) []).1 (pvl A (aWh A) 20 (k + 1) []).2).1), (A.wTp []).wOu (vlO A.ty (pvl A (aWh A) 20 (k + 1) []).1 (pvl A (aWh A) 20 (k + 1) []).2).2) := by unfold aProp; rw [elK_some (S := A.S) hn hk]
  obtain ⟨lr, er, ls, es, ln, en, xr, xs, xn, y1, y2, y3, y4, y5, y6, y7⟩ := id r16
  have N1 : all2 (isS (bK K) h2) xn (A.ns.map (sub A.ty)) := y7.mapR
  refine xg r1' (by rfl) ?_
  refine xcV y1 (c_numberOfName y1 y4 N1 S1 (by rw [List.length_map]; have := hW.2.2.2.2.1; omega)) (by rfl) (by rfl) (by rfl) (Nat.zero_le _) (Nat.zero_le _) ?_
  rintro o h3 ⟨rfl, rfl⟩
  have ewv : (if (A.ns.map (sub A.ty)).findIdx (fun v => decide (v = A.tp)) < (A.ns.map (sub A.ty)).length then nI ((A.ns.map (sub A.ty)).findIdx (fun v => decide (v = A.tp))) else -1) = aWv A := by
    rw [fndN_ws, List.length_map]; rfl
  rw [ewv]
  refine xg r1' (by rfl) ?_
  refine xg r1' (by rfl) ?_
  refine xcV y1 (c_counting (A := A.wTp []) (wh := aWh A) (wv := aWv A) Q1 (x := k + 1) hk (aWv_iff hW.2.2.2.2.1)) (by rfl) (by rfl) (by rfl) (Nat.zero_le _) (Nat.zero_le _) ?_
  rintro o h4 ⟨Q4, -, v4, rfl, T4⟩
  obtain ⟨_, _, _, _, hv4, _, _, _, -, -, -, -, -, ⟨b1, b2⟩, -⟩ := id Q4
  have nxt := fun ls hls => main k ea hk 20 0 (k + 1) v4 [] hv4 h4 (2 - 1 - 1) (9 - 3 - 6) ls rfl (by omega) Q4 T4 b1 b2 (fun j hj => absurd hj (Nat.not_lt_zero _)) (fun s hs => by cases hs) (Nat.le_refl _) rfl hls
  rcases T4.nr with hv | ⟨y, hv⟩
  · subst hv
    refine xgo [43] 60 hA ?_
    exact nxt _ (by simp [nI_0, pad])
  · subst hv
    refine xgo [43] 60 hA ?_
    exact nxt _ (by simp [nI_0, pad])
end
