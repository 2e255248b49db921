/-! THE CLASS, 5: fits, by -/
section
variable {Zh : xH}
theorem scQ.reach {D : xD} {h : xH} {sc rd so sy : Nat} {K : CK} {A : AS} {G : SG} {vs : List Value} (Q : scQ Zh D h sc K A rd so sy G) (hv : vs.length = 20) : scQ Zh D (xset h K.2.2.2.1 (105, vs)) sc K A rd so sy G := by
  obtain ⟨T, O, fv, rv, hv', v0, v1, r1, ⟨r2, r3⟩, ⟨r4, r5⟩, ⟨r6, r7⟩, r8, ⟨r9, r10⟩, ⟨r11, r12⟩, r13, r14, r15, r16, r17⟩ := Q
  obtain ⟨⟨n1, n2, n3, n4, n5, n6⟩, ⟨n7, n8, n9, n10⟩, ⟨n11, n12, n13, n14⟩, ⟨n15, n16⟩, ⟨n17, n18⟩, n19⟩ := sc_ne r1 r2 r4 r6 r8 r9 r11
  have k : gk (bK K) h (xset h K.2.2.2.1 (105, vs)) := (gk.refl _ _).put r9 (ng0 (Or.inr (Or.inr (Or.inr (Or.inl rfl)))))
  have f : ∀ {q d}, h q = some d → q ≠ K.2.2.2.1 → xset h K.2.2.2.1 (105, vs) q = some d := fun {q d} e w => xst2 w e
  exact scQ.of k r14 r15 r16 (f r1 (Ne.symm n5)) ⟨f r2 (Ne.symm n9), r3⟩ ⟨f r4 (Ne.symm n13), r5⟩ ⟨f r6 (Ne.symm n16), r7⟩ (f r8 n17) ⟨xset_same _ _ _, hv⟩ ⟨f r11 n19, r12⟩ r13 r17
/-- elements and style, without the row -/
theorem scQ.z {D : xD} {h : xH} {sc rd so sy : Nat} {K : CK} {A : AS} {G : SG} (Q : scQ Zh D h sc K A rd so sy G) : ∃ vs : List Value, h K.2.2.2.1 = some (105, vs) ∧ vs.length = 20 ∧ zE D (bK K) (hwo h K.2.2.2.1) h A.ts A.S G K.2.2.2.1 ∧ styR D (bK K) (hwo h K.2.2.2.1) sy A.ty A.rs A.ss A.ns ∧ h sc = some (0, scV K A rd so sy) ∧ AOk A := by
  obtain ⟨T, O, fv, rv, hv', v0, v1, r1, ⟨r2, r3⟩, ⟨r4, r5⟩, ⟨r6, r7⟩, r8, ⟨r9, r10⟩, ⟨r11, r12⟩, r13, r14, r15, r16, r17⟩ := Q
  have k : gk (bK K) h (hwo h K.2.2.2.1) := hwo_gk r9 (ng0 (Or.inr (Or.inr (Or.inr (Or.inl rfl)))))
  have k15 := r15.gd k
  exact ⟨rv, r9, r10, ⟨hwo_le _ _, hwo_no _ _, fun i hi => k15.2.2.2.2.2.2.2 i hi, r17.2.2.2.2.1.1⟩, r16.gd k, r1, r17⟩
/-- the selector that a number names -/
def slK (ss : List (List ST)) (s : Int32) : Option (List ST) := (List.range ss.length).find? (fun k => decide (s = nI k)) |>.map (fun k => ss.getD k [])
theorem slK_some {ss : List (List ST)} {k : Nat} (hn : ss.length ≤ 120) (h : k < ss.length) : slK ss (nI k) = some ss[k] := by
  unfold slK
  have : (List.range ss.length).find? (fun j => decide (nI k = nI j)) = some k := by
    rw [List.find?_eq_some_iff_getElem]
    refine ⟨by simp, k, by simpa using h, by simp, fun j hj => ?_⟩
    simp only [List.getElem_range, Bool.not_eq_true', decide_eq_false_iff_not]
    intro z
    have := (nI_eq (by omega) (by omega)).mp z
    omega
  rw [this]
  simp [h]
theorem slK_none {ss : List (List ST)} {s : Int32} (h : ∀ k, k < ss.length → s ≠ nI k) : slK ss s = none := by
  unfold slK
  rw [List.find?_eq_none.mpr]
  · rfl
  · intro k hk
    simpa using h k (List.mem_range.mp hk)
def aFits (A : AS) (s e : Int32) : Option Int32 := (slK A.ss s).bind (fun l => (elK A.S e).map (fun k => bI (mt A.ts A.ty A.S l k)))
set_option maxRecDepth 20000 in
theorem c_fits {l : Launch} {D : xD} {h : xH} {sc : Nat} {K : CK} {A : AS} {s e : Int32} (R : scR Zh D h sc K A) : xMet l D 7 y_Sc_fits [.ref sc, .int s, .int e] h 1 6 (fun o h' => oI 15 (aFits A s e) o ∧ scR Zh D h' sc K A) := by
  have R' := R
  obtain ⟨rd, so, sy, G, Q⟩ := R
  obtain ⟨T, O, fv, rv, hv, v0, v1, r1, -, -, -, -, -, -, -, -, -, r16, -⟩ := id Q
  obtain ⟨lr, er, ls, es, ln, en, xr, xs, xn, y1, y2, y3, y4, y5, y6, y7⟩ := r16
  obtain ⟨lv, hlv⟩ := y3.cell
  have hls := y6.len
  obtain ⟨vs, q1, q2, Z, q4, -, r17⟩ := Q.z
  have hsl : A.ss.length ≤ 120 := r17.2.2.2.2.2.2.2.2.1
  have hn : A.S.n ≤ 500 := Z.2.2.2.1
  refine m_Sc_fits (Nat.le_of_ble_eq_true rfl) fun X hl hD hP hA => ?_
  subst hl hD
  rcases pk_ix s (n := A.ss.length) (by omega) with z | z | ⟨j, hj, rfl⟩
  · have ea : aFits A s e = none := by unfold aFits; rw [slK_none (fun k hk y => by rw [y] at z; exact nI_neg (by omega) z)]; rfl
    rw [ea] at hP
    refine xgo [] 60 hA ?_
    refine xt z ?_
    refine xth (K := fun _ _ _ _ _ _ => True) (ls := []) (st := []) rfl (by omega) (by omega) fun w hw => xP hP ⟨⟨w, rfl⟩, R'.new hw⟩
  · have z0 : ¬ s < 0 := fun y => absurd (Int32.lt_of_le_of_lt z y) (nI_neg (by omega))
    have z2 : ¬ s < nI A.ss.length := fun y => Int32.lt_irrefl (Int32.lt_of_lt_of_le y z)
    have ea : aFits A s e = none := by unfold aFits; rw [slK_none (fun k hk y => by rw [y] at z2; exact z2 (nI_lt hk (by omega)))]; rfl
    rw [ea] at hP
    refine xgo [] 60 hA ?_
    refine xf z0 ?_
    refine xg r1 (by rfl) ?_
    refine xg y1 (by rfl) ?_
    refine xcV hlv (c_AL_size y3) (by rfl) (by rfl) (by rfl) (Nat.zero_le _) (Nat.zero_le _) ?_
    rintro o h' ⟨rfl, rfl⟩
    rw [hls]
    refine xf z2 ?_
    refine xth (K := fun _ _ _ _ _ _ => True) (ls := []) (st := []) rfl (by omega) (by omega) fun w hw => xP hP ⟨⟨w, rfl⟩, R'.new hw⟩
  · refine xgo [] 80 hA ?_
    refine xf (nI_neg (by omega)) ?_
    refine xg r1 (by rfl) ?_
    refine xg y1 (by rfl) ?_
    refine xcV hlv (c_AL_size y3) (by rfl) (by rfl) (by rfl) (Nat.zero_le _) (Nat.zero_le _) ?_
    rintro o h' ⟨rfl, rfl⟩
    rw [hls]
    refine xt (nI_lt hj (by omega)) ?_
    refine xcV r1 (c_elementAt Q) (by rfl) (by rfl) (by rfl) (by omega) (by omega) ?_
    rintro o h2 (⟨p1, ⟨x, rfl⟩, p3⟩ | ⟨k, hk, rfl, rfl, rfl⟩)
    · have ea : aFits A (nI j) e = none := by unfold aFits; rw [slK_some hsl hj]; show (elK A.S e).map _ = none; rw [elK_none p1]; rfl
      rw [ea] at hP
      exact xP hP ⟨⟨x, rfl⟩, rd, so, sy, G, p3⟩
    have ea : aFits A (nI j) (nI k) = some (bI (mt A.ts A.ty A.S A.ss[j] k)) := by unfold aFits; rw [slK_some hsl hj]; show (elK A.S (nI k)).map _ = _; rw [elK_some hn hk]; rfl
    rw [ea] at hP
    refine xg r1 (by rfl) ?_
    refine xg y1 (by rfl) ?_
    have c3 : j < xs.length := by omega
    refine xcV hlv (c_AL_get y3 c3) (by rfl) (by rfl) (by rfl) (Nat.zero_le _) (Nat.zero_le _) ?_
    rintro o h3 ⟨rfl, rfl⟩
    have Ij := y6.at j c3 hj
    obtain ⟨_, _, _, p1, -⟩ := id Ij
    refine xct p1 rfl ?_
    refine xg r1 (by rfl) ?_
    refine xcV p1 (c_Se_matches Z (Ij.gd (hwo_gk q1 (ng0 (Or.inr (Or.inr (Or.inr (Or.inl rfl))))))) hk q1 q2 (r17.2.2.2.2.2.2.2.1 _ (List.getElem_mem hj))) (by rfl) (by rfl) (by rfl) (Nat.zero_le _) (Nat.zero_le _) ?_
    rintro o h4 ⟨⟨vs2, rfl, hv2⟩, rfl⟩
    refine xb (fun c => ?_) (fun c => ?_)
    · exact xP hP ⟨by rw [(bI_0 _).mp c]; rfl, rd, so, sy, G, Q.reach hv2⟩
    · exact xP hP ⟨by rw [(bI_n0 _).mp c]; rfl, rd, so, sy, G, Q.reach hv2⟩
set_option maxRecDepth 20000 in
theorem c_takeName {l : Launch} {D : xD} {h : xH} {sc rd so sy : Nat} {K : CK} {A : AS} {G : SG} (Q : scQ Zh D h sc K A rd so sy G) : xMet l D 2 y_Sc_takeName [.ref sc] h 1 3 (fun o h' => ∃ s, o = .inl (some (.ref s)) ∧ isS (fun _ => True) h' s A.tp ∧ scQ Zh D h' sc K (A.wTp []) rd so sy G) := by
  obtain ⟨T, O, fv, rv, hv', v0, v1, r1, ⟨r2, r3, r3'⟩, ⟨r4, r5⟩, ⟨r6, r7⟩, r8, ⟨r9, r10⟩, ⟨r11, r12⟩, r13, r14, r15, r16, r17⟩ := id Q
  refine m_Sc_takeName (Nat.le_of_ble_eq_true rfl) fun X hl hD hP hA => ?_
  subst hl hD
  refine xgo [] 60 hA ?_
  refine xn (by omega) (by omega) fun s hs => ?_
  have n1 : sc ≠ s := xnn r1 hs
  refine xg (xst2 n1 r1) (by rfl) ?_
  refine xg (xst2 n1 r1) (by rfl) ?_
  refine xcI (c_Sl_init (xset_same _ _ _) rfl) (by rfl) (by rfl) (by rfl) (Nat.zero_le _) (Nat.zero_le _) ?_
  rintro o h1 ⟨rfl, rfl⟩
  rw [xset_set]
  refine xp (fs' := scW K 0 (nI A.ou.length) (nI A.fo.length) (nI A.aw) rd so sy) (xst2 n1 r1) rfl rfl ?_
  have Q1 := Q.new (c := (2, [.ref K.1, .int 0, .int (nI A.tp.length)])) hs
  have Q2 := Q1.set (A' := A.wTp []) rfl rfl (by show [] ++ A.tp.drop 0 = A.tp; simp) (by show A.ou ++ A.ou.drop A.ou.length = A.ou; simp) (by show A.fo ++ A.fo.drop A.fo.length = A.fo; simp) ⟨⟨by show 0 ≤ 8192; omega, fun b hb => by cases hb⟩, r17.2⟩
  refine xP hP ⟨s, rfl, ?_, Q2⟩
  have n2 : K.1 ≠ sc := xne' r2 r1 (by decide)
  have n3 : K.1 ≠ s := xnn r2 hs
  refine ⟨K.1, 0, A.tp ++ T, ?_, Or.inl ?_, by rw [List.length_append]; omega, fun k hk => ?_, by rw [r3]; decide, r17.1.2.app r3', trivial⟩
  · exact xst2 (Ne.symm n1) (xset_same _ _ _)
  · exact xst2 n2 (xst2 n3 r2)
  · rw [Nat.zero_add, ch_in (by rw [List.length_append]; omega), ch_in hk, List.getElem_append_left hk]
/-- the number of the name that is asked for -/
def aWh (A : AS) : Nat := fndN A.ty A.ns A.tp
def aWv (A : AS) : Int32 := if aWh A < A.ns.length then nI (aWh A) else -1
theorem aWv_iff {A : AS} (hn : A.ns.length ≤ 30) (d : Nat) (hd : d < A.ns.length) : nI d = aWv A ↔ d = aWh A := by
  have hl : aWh A ≤ A.ns.length := List.findIdx_le_length
  unfold aWv
  by_cases h : aWh A < A.ns.length
  · rw [if_pos h]; exact nI_eq (by omega) (by omega)
  · rw [if_neg h]
    constructor
    · intro z
      have : nI d < (0 : Int32) := by rw [z]; decide
      exact absurd this (nI_neg (by omega))
    · intro z; omega
def aBy (A : AS) (e : Int32) : Option Int32 := (elK A.S e).map (fun k => match cF A.ts A.ty A.S k (aWh A) A.rs with
  | none => -1
  | some q => nI q.1.2)
set_option maxRecDepth 20000 in
theorem c_by {l : Launch} {D : xD} {h : xH} {sc : Nat} {K : CK} {A : AS} {e : Int32} (R : scR Zh D h sc K A) : xMet l D 9 y_Sc_by [.ref sc, .int e] h 2 9 (fun o h' => oI 15 (aBy A e) o ∧ scR Zh D h' sc K (A.wTp [])) := by
  obtain ⟨rd, so, sy, G, Q⟩ := R
  obtain ⟨T, O, fv, rv, hv', v0, v1, r1, -⟩ := id Q
  refine m_Sc_by (Nat.le_of_ble_eq_true rfl) fun X hl hD hP hA => ?_
  subst hl hD
  refine xgo [21] 80 hA ?_
  refine xcV r1 (c_takeName Q) (by rfl) (by rfl) (by rfl) (by omega) (by omega) ?_
  rintro o h1 ⟨s, rfl, S1, Q1⟩
  obtain ⟨vs, q1, q2, Z, q4, r1', r17⟩ := Q1.z
  have hn : A.S.n ≤ 500 := Z.2.2.2.1
  have hW : styW A.rs A.ss A.ns := r17.2.2.2.2.2
  refine xcV r1' (c_elementAt Q1) (by rfl) (by rfl) (by rfl) (by omega) (by omega) ?_
  rintro o h2 (⟨p1, ⟨x, rfl⟩, p3⟩ | ⟨k, hk, rfl, rfl, rfl⟩)
  · have ea : aBy A e = none := by unfold aBy; rw [elK_none (S := A.S) p1]; rfl
    rw [ea] at hP
    exact xP hP ⟨⟨x, rfl⟩, rd, so, sy, G, p3⟩
  have ea : aBy A (nI k) = some (match cF A.ts A.ty A.S k (aWh A) A.rs with
    | none => -1
    | some q => nI q.1.2) := by unfold aBy; rw [elK_some (S := A.S) hn hk]; rfl
  rw [ea] at hP
  obtain ⟨-, -, -, -, -, -, -, -, -, -, -, -, -, -, -, -, -, r16, -⟩ := id Q1
  obtain ⟨lr, er, ls, es, ln, en, xr, xs, xn, y1, y2, y3, y4, y5, y6, y7⟩ := r16
  have hk' : k < A.S.n := hk
  have N1 : all2 (isS (bK K) h2) xn (A.ns.map (sub A.ty)) := y7.mapR
  refine xg r1' (by rfl) ?_
  refine xg r1' (by rfl) ?_
  show xG X 21 [(3, .ref (G.ad k)), (2, .ref s), (0, .ref sc), (1, .int (nI k))] [.ref s, .ref sy, .ref (G.ad k), .ref sy] h2 _ _
  refine xgo [] 80 hA ?_
  refine xcV y1 (c_numberOfName y1 y4 N1 S1 (by rw [List.length_map]; have := hW.2.2.2.2.1; omega)) (by rfl) (by rfl) (by rfl) (Nat.zero_le _) (Nat.zero_le _) ?_
  rintro o h3 ⟨rfl, rfl⟩
  have ewv : (if (A.ns.map (sub A.ty)).findIdx (fun v => decide (v = A.tp)) < (A.ns.map (sub A.ty)).length then nI ((A.ns.map (sub A.ty)).findIdx (fun v => decide (v = A.tp))) else -1) = aWv A := by
    rw [fndN_ws, List.length_map]; rfl
  rw [ewv]
  refine xg r1' (by rfl) ?_
  refine xcV y1 (c_countingFor (wh := aWh A) (wv := aWv A) Z q4 hk' q1 q2 (nn := A.ns.length) (fun R hR => (hW.1 R hR).1) hW.2.1 (aWv_iff hW.2.2.2.2.1)) (by rfl) (by rfl) (by rfl) (Nat.zero_le _) (Nat.zero_le _) ?_
  rintro o h4 ⟨⟨vs2, rfl, hv2⟩, v, rfl, hT⟩
  have Q4 := Q1.reach hv2
  cases hc : cF A.ts A.ty A.S k (aWh A) A.rs with
  | none =>
    have hT' : v = .null := by
      have : tdO (bK K) (hwo h3 K.2.2.2.1) A.ty v ((cF A.ts A.ty A.S k (aWh A) A.rs).map (fun q => q.1)) := hT
      rw [hc] at this; exact this
    subst hT'
    rw [hc] at hP
    exact xP hP ⟨rfl, rd, so, sy, G, Q4⟩
  | some q =>
    have hT' : tdO (bK K) (hwo h3 K.2.2.2.1) A.ty v ((cF A.ts A.ty A.S k (aWh A) A.rs).map (fun q => q.1)) := hT
    rw [hc] at hT' hP
    obtain ⟨y, rfl, tv, t1, -⟩ := hT'
    refine xg ((Z.put (c := (105, vs2))).1 _ _ t1 (by simp)) (by rfl) ?_
    exact xP hP ⟨rfl, rd, so, sy, G, Q4⟩
end
