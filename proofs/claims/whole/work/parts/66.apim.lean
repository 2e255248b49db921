/-! THE CLASS, 13: source -/
section
variable {Zh : xH}
theorem SI.zero (t : List Nat) : SI t SS0 := ⟨⟨Nat.zero_le _, Nat.le_refl _, Nat.le_refl _, fun h => absurd rfl h, fun k hk => absurd hk (Nat.not_lt_zero _)⟩, fun k hk => absurd hk (Nat.not_lt_zero _), Nat.le_refl _, fun k hk => absurd hk (Nat.not_lt_zero _)⟩
theorem gS_mono {a b : Nat} (h : a ≤ b) : gS a ≤ gS b := by
  induction h with
  | refl => exact Nat.le_refl _
  | step h ih => rw [gS_succ]; omega
/-- growth that is left -/
def gLft (len : Nat) (S : SS) : Nat := (gS 501 - gS S.n) + (gS (len + 1) - gS S.pc.length) + (gS 43 - gS (S.en.length + 2))
theorem gLft_er {len : Nat} {S : SS} (h1 : S.n ≤ 500) (h2 : S.pc.length ≤ len) (h3 : S.en.length ≤ 40) : grE S ≤ gLft len S := by
  have a := gS_mono (show S.n + 1 ≤ 501 by omega)
  have b := gS_mono (show S.pc.length + 1 ≤ len + 1 by omega)
  have c := gS_mono (show S.en.length + 3 ≤ 43 by omega)
  unfold grE gLft
  omega
theorem gLft_ok {len : Nat} {S S' : SS} (h1 : S'.n ≤ 500) (h2 : S'.pc.length ≤ len) (h3 : S'.en.length ≤ 40) (m1 : S.n ≤ S'.n) (m2 : S.pc.length ≤ S'.pc.length) (m3 : S.en.length ≤ S'.en.length) : grw S S' + gLft len S' = gLft len S := by
  have a := gS_mono (show S'.n ≤ 501 by omega)
  have b := gS_mono (show S'.pc.length ≤ len + 1 by omega)
  have c := gS_mono (show S'.en.length + 2 ≤ 43 by omega)
  have a' := gS_mono m1
  have b' := gS_mono m2
  have c' := gS_mono (show S.en.length + 2 ≤ S'.en.length + 2 by omega)
  unfold grw gLft
  omega
theorem gLft_0 (len : Nat) : gLft len SS0 ≤ 3400 + 6 * len := by
  refine Nat.le_trans (Nat.add_le_add (Nat.add_le_add (Nat.sub_le _ _) (Nat.sub_le _ _)) (Nat.sub_le _ _)) ?_
  refine Nat.le_trans (Nat.add_le_add (Nat.add_le_add (gS_le 501) (gS_le (len + 1))) (gS_le 43)) ?_
  omega
theorem addP_mono (S : SS) (p : Nat × Nat) : S.n ≤ (addP S p).n ∧ S.pc.length ≤ (addP S p).pc.length ∧ S.en.length ≤ (addP S p).en.length ∧ (addP S p).pc.length ≤ S.pc.length + 1 ∧ (S.en.length ≤ 40 → (addP S p).en.length ≤ 40) := by
  unfold addP
  split
  · exact ⟨Nat.le_refl _, Nat.le_refl _, Nat.le_refl _, Nat.le_succ _, fun z => z⟩
  · split
    · exact ⟨Nat.le_refl _, Nat.le_refl _, Nat.le_refl _, Nat.le_succ _, fun z => z⟩
    · have e : (S.pc ++ [p]).length = S.pc.length + 1 := by rw [List.length_append]; rfl
      refine ⟨Nat.le_refl _, ?_, Nat.le_refl _, ?_, fun z => z⟩
      · show _ ≤ (S.pc ++ [p]).length
        omega
      · show (S.pc ++ [p]).length ≤ _
        omega
theorem sPiece_mono {t : List Nat} {S S' : SS} {i k : Nat} (h : sPiece t i S = .ok (S', k)) : S.n ≤ S'.n ∧ S.pc.length ≤ S'.pc.length ∧ S.en.length ≤ S'.en.length ∧ S'.pc.length ≤ S.pc.length + 1 ∧ (S.en.length ≤ 40 → S'.en.length ≤ 40) := by
  unfold sPiece at h
  split at h
  · unfold sMark at h
    split at h
    · unfold sEnd at h
      split at h
      · cases h
      · obtain ⟨a, j, -, e1⟩ := pB_inv h
        split at e1
        · obtain ⟨u, m, e2, e3⟩ := pB_inv e1
          cases e3
          exact ⟨Nat.le_refl _, Nat.le_refl _, Nat.le_refl _, Nat.le_succ _, fun z => z⟩
        · cases e1
    · split at h
      · split at h
        · unfold sCom at h
          obtain ⟨u, j, -, e1⟩ := pB_inv h
          obtain ⟨u2, j2, -, e2⟩ := pB_inv e1
          cases e2; exact ⟨Nat.le_refl _, Nat.le_refl _, Nat.le_refl _, Nat.le_succ _, fun z => z⟩
        · unfold sEnt at h
          obtain ⟨a, j, -, e1⟩ := pB_inv h
          split at e1
          · cases e1
          · rename_i hlim
            obtain ⟨b, j2, -, e2⟩ := pB_inv e1
            split at e2
            · cases e2
            · obtain ⟨u, j3, -, e3⟩ := pB_inv e2
              cases e3
              have e : (S.en ++ [(a, b)]).length = S.en.length + 1 := by rw [List.length_append]; rfl
              refine ⟨Nat.le_refl _, Nat.le_refl _, ?_, Nat.le_succ _, fun z => ?_⟩
              · show _ ≤ (S.en ++ [(a, b)]).length
                omega
              · show (S.en ++ [(a, b)]).length ≤ 40
                have : ¬ 40 ≤ S.en.length := fun y => hlim (Or.inl y)
                omega
      · unfold sBeg at h
        obtain ⟨a, j, e1, e2⟩ := pB_inv h
        split at e2
        · cases e2
        · obtain ⟨fs, j2, e3, e4⟩ := pB_inv e2
          unfold sBeg2 at e4
          split at e4
          · obtain ⟨u, m, -, e5⟩ := pB_inv e4
            cases e5; exact ⟨Nat.le_succ _, Nat.le_refl _, Nat.le_refl _, Nat.le_succ _, fun z => z⟩
          · obtain ⟨u, m, -, e5⟩ := pB_inv e4
            cases e5; exact ⟨Nat.le_succ _, Nat.le_refl _, Nat.le_refl _, Nat.le_succ _, fun z => z⟩
  · split at h
    · unfold sRef at h
      obtain ⟨a, j, -, e1⟩ := pB_inv h
      split at e1
      · cases e1
      · obtain ⟨u, j2, -, e2⟩ := pB_inv e1
        cases e2; exact addP_mono _ _
    · unfold sText at h
      split at h
      · cases h
      · cases h; exact addP_mono _ _
theorem sAll_adv2 (t : List Nat) : ∀ (n : Nat) {i : Nat} (S : SS), i ≤ t.length → adv t i 0 (sAll t n i S)
  | 0, i, S, hi => adv.ok (Nat.le_refl _) hi
  | n + 1, i, S, hi => by
    refine adv.ite (fun _ => adv.ok (Nat.le_refl _) hi) fun _ => ?_
    refine adv.bind ((sPiece_adv t S hi).weak (by decide)) fun S' j e => ?_
    exact sAll_adv2 t n S' (sPiece_adv t S hi S' j e).2
abbrev AS.wSo (A : AS) (ts : List Nat) (S : SS) : AS := ((A.tp, A.ou, [], A.aw, A.pl), (ts, S), A.2.2)
def aSource (A : AS) : Option Int32 × AS := match sSrc A.tp with
  | .error w => (none, A.wTk.wPl (some w))
  | .ok q => (some (nI q.1.n), A.wTk.wSo A.tp q.1)
theorem SI.w {t : List Nat} {S : SS} {i : Nat} (I : SI t S) (O : SOk t i S) (hi : i ≤ t.length) (ho : S.op = 0) : srcW t S := by
  obtain ⟨o1, o2, o3, o4, o5, o6, o7, o8, o9⟩ := O
  obtain ⟨⟨i1, i2, i3, i4, i5⟩, j2, j3, j4⟩ := I
  refine ⟨⟨o2, fun k hk => ?_⟩, ho, o9, by omega, fun k hk => ?_⟩
  · obtain ⟨a1, a2, a3, a4, ⟨a5, a6, a7⟩, -⟩ := i5 k hk
    have a5 : S.F 4 k ≤ S.n := a5
    have a6 : S.F 8 k ≤ S.n := a6
    exact ⟨a1, a2, a3, a4, by omega, by omega, a7, (j2 k hk).2.2.2.2⟩
  · obtain ⟨b1, b2, b3, b4, b5⟩ := j2 k hk
    rcases (j4 k hk).2 with z | z
    · rw [ho] at z
      have := z.zero
      omega
    · exact ⟨z.2.2.1, z.2.2.2.1, b1, by omega, by omega, b4⟩
theorem scQ.src {D : xD} {h : xH} {sc r so so' sy : Nat} {K : CK} {A : AS} {G G' : SG} {ts : List Nat} {S : SS} (Q : scQ Zh D h sc K A r so sy G) (h1 : srcR D (bK K) h so' ts S G') (h2 : srcW ts S) : scQ Zh D (xset h sc (0, scV K (A.wSo ts S) r so' sy)) sc K (A.wSo ts S) r so' sy G' := by
  obtain ⟨T, O, fv, rv, hv', w0, w1, r1, ⟨r2, r3⟩, ⟨r4, r5⟩, ⟨r6, r7⟩, r8, ⟨r9, r10⟩, ⟨r11, r12⟩, r13, r14, r15, r16, r17⟩ := Q
  obtain ⟨⟨n1, n2, n3, n4, n5, n6⟩, -⟩ := sc_ne r1 r2 r4 r6 r8 r9 r11
  have k : gk (bK K) h (xset h sc (0, scV K (A.wSo ts S) r so' sy)) := (gk.refl _ _).put r1 (ng0 (Or.inl rfl))
  exact scQ.of (A := A.wSo ts S) (fv := A.fo.map (fun k => .int (nI k)) ++ fv) k r14 h1 r16 (xset_same _ _ _) ⟨xst2 n1 r2, r3⟩ ⟨xst2 n2 r4, r5⟩ ⟨xst2 n3 r6, by show 0 + _ = 500; rw [List.length_append, List.length_map]; omega⟩ (xst2 n4 r8) ⟨xst2 n5 r9, r10⟩ ⟨xst2 n6 r11, r12⟩ r13 ⟨r17.1, r17.2.1, ⟨by show 0 ≤ 500; omega, fun k hk => by cases hk⟩, r17.2.2.2.1, h2, r17.2.2.2.2.2⟩
set_option maxRecDepth 20000 in
theorem c_source {l : Launch} {D : xD} {h : xH} {sc : Nat} {K : CK} {A : AS} (R : scR Zh D h sc K A) : xMet l D 12 y_Sc_source [.ref sc] h (44 * A.tp.length + 100) (551 * A.tp.length + 3800) (fun o h' => oI 16 (aSource A).1 o ∧ scR Zh D h' sc K (aSource A).2) := by
  obtain ⟨rd, so, sy, G, Q⟩ := R
  obtain ⟨T, O, fv, rv, hv', v0, v1, r1, ⟨r2, r3, r3'⟩, ⟨r4, r5⟩, ⟨r6, r7⟩, r8, ⟨r9, r10⟩, ⟨r11, r12⟩, r13, r14, r15, r16, r17⟩ := id Q
  have htl : A.tp.length ≤ 8192 := r17.1.1
  refine m_Sc_source (Nat.le_of_ble_eq_true rfl) fun X hl hD hP hA => ?_
  subst hl hD
  refine xgo [15] 60 hA ?_
  refine xcV r1 (c_takeTape Q) (by rfl) (by rfl) (by rfl) (by omega) (by omega) ?_
  rintro o h0 ⟨r, b, rfl, H0, hBb, Q0⟩
  obtain ⟨t, ht⟩ : ∃ t, t = A.tp := ⟨_, rfl⟩
  have hpS : aSource A = match sSrc t with
    | .error w => (none, A.wTk.wPl (some w))
    | .ok q => (some (nI q.1.n), A.wTk.wSo t q.1) := by rw [ht]; rfl
  have hlt : A.tp.length = t.length := by rw [ht]
  rw [← ht] at H0
  obtain ⟨T0, O0, _, _, _, _, _, q1, ⟨q2, -⟩, ⟨q4, -⟩, ⟨q6, -⟩, q8, -, ⟨q11, -⟩, -, ⟨E0, -⟩, -⟩ := id Q0
  obtain ⟨kn, hk1, hk2⟩ := E0.1
  have hBk : bK K kn := ⟨xne' hk2 q2 (by decide), xne' hk2 q4 (by decide), xne' hk2 q6 (by decide), xne' hk2 q11 (by decide)⟩
  refine xn (by omega) (by omega) fun so' hs => ?_
  refine xcI (c_So_init (B := bK K) (E0.kept ((kp.refl _).new hs)) hk1 hBk (xset_same _ _ _) t) (by rfl) (by rfl) (by rfl) (by omega) (by omega) ?_
  rintro o h2 ⟨rfl, f2, k2, G2, R2, P2⟩
  have f02 : fr [r] h0 h2 := ((fr.new hs [r] _).trans f2 fun q hq => Or.inr (by rw [List.mem_singleton.mp hq]; exact hs))
  have f02' : fr [] h0 h2 := ((fr.new hs [] _).trans f2 fun q hq => Or.inr (by rw [List.mem_singleton.mp hq]; exact hs))
  have I2 : srcI X.D (bK K) h0 h2 so' r b t 0 SS0 := ⟨G2, ⟨f02' _ _ H0.1 (by simp), f02' _ _ H0.2.1 (by simp), H0.2.2⟩, f02, (E0.kept ((kp.refl _).new hs)).kept k2, R2, P2 h0 (fun q hq => by
      by_cases z : q = so'
      · rw [z]; exact hs
      · rw [xset_ne _ _ z] at hq; exact hq) hs, Nat.le_refl _, Nat.zero_le _, Nat.le_refl _, fun k hk => absurd hk (Nat.not_lt_zero _), fun q hq => (by cases hq), Nat.zero_le _, Nat.le_refl _, Nat.le_refl _, by omega⟩
  have bad : ∀ (w : Nat) (o : xO) (h' : xH), sSrc t = .error w → xEr r b w [] h0 o h' → X.P o h' := by
    intro w o h' e ⟨⟨x, hx⟩, ⟨i', hr⟩, f⟩
    rw [hpS, e] at hP
    exact xP hP ⟨⟨x, hx⟩, r, so, sy, G, Q0.rd (p := some w) f hr⟩
  -- behind the loop
  have done : ∀ (s : Nat) (S : SS) (h1 : xH) (rc rs : Nat) (ls : xL), sAll t t.length 0 SS0 = .ok (S, s) → srcI X.D (bK K) h0 h1 so' r b t s S → SI t S → 1 ≤ rc → 6 ≤ rs → (∀ p ∈ [(2, Value.ref so'), (1, .ref r), (0, .ref sc)], p ∈ ls) → xG X 43 ls [] h1 rc rs := by
    intro s S h1 rc rs ls e I1 J hrc hrs hls
    refine xG.locs ?_ hls
    obtain ⟨G1, H1, f1, E1, R1, P1, O1⟩ := I1
    have s1 := R1.1
    refine xgo [] 80 hA ?_
    refine xg s1 (by rfl) ?_
    refine xg s1 (by rfl) ?_
    by_cases hop : S.op = 0
    · have eS : sSrc t = .ok (S, s) := by rw [sSrc, pB_ok e, if_pos hop]
      rw [hpS, eS] at hP
      refine xt (by rw [hop]; rfl) ?_
      have Q1 := Q0.rd (p := none) f1 H1.1
      obtain ⟨_, _, _, _, _, _, _, w1, -⟩ := id Q1
      refine xp (fs' := scW K (nI 0) (nI A.ou.length) (nI A.fo.length) (nI A.aw) r so' sy) w1 rfl rfl ?_
      refine xp (fs' := scW K (nI 0) (nI A.ou.length) (nI 0) (nI A.aw) r so' sy) (xset_same _ _ _) rfl rfl ?_
      rw [xset_set]
      have Q2 := Q1.src R1 (J.w O1 H1.2.2.1 hop)
      obtain ⟨-, -, -, -, -, -, -, -, -, -, -, -, -, -, -, -, u15, -, -⟩ := id Q2
      obtain ⟨u1, u2, u3, -⟩ := u15
      refine xg u1 (by rfl) ?_
      obtain ⟨ev, hev⟩ := u3.cell
      refine xcV hev (c_AL_size u3) (by rfl) (by rfl) (by rfl) (Nat.zero_le _) (Nat.zero_le _) ?_
      rintro o h5 ⟨rfl, rfl⟩
      rw [elA_len]
      exact xP hP ⟨rfl, r, so', sy, G1, Q2⟩
    · have eS : sSrc t = .error t.length := by rw [sSrc, pB_ok e, if_neg hop]
      refine xf (fun z => ?_) ?_
      · have z : pad G1.ad G1.ro S.op = G1.ro := z
        rw [pad_ne hop] at z
        exact (P1.2.2.2.2.1 (S.op - 1) (by have := O1.1; omega)).2.1 z
      · refine xg H1.1 (by rfl) ?_
        refine xln (t := 1) (Or.inl H1.2.1) (by decide) ?_
        rw [txv_len]
        refine xfail H1 t.length (by rfl) rfl hrc hrs fun e h5 q => bad t.length _ h5 eS (q.tr f1 (fun _ z => absurd z List.not_mem_nil))
  have key : ∀ (n k s : Nat) (S : SS) (h1 : xH) (rc rs : Nat) (ls : xL), k + n = t.length → sAll t t.length 0 SS0 = sAll t n s S → srcI X.D (bK K) h0 h1 so' r b t s S → SI t S → 1 + cst 4 8 t.length s (sAll t n s S) ≤ rc → 6 + cst 30 60 t.length s (sAll t n s S) + gLft t.length S ≤ rs → (∀ p ∈ [(3, Value.int (nI k)), (2, .ref so'), (1, .ref r), (0, .ref sc)], p ∈ ls) → xG X 15 ls [] h1 rc rs := by
    intro n
    induction n with
    | zero =>
      intro k s S h1 rc rs ls hk e I1 J hrc hrs hls
      refine xG.locs ?_ hls
      have H1 := I1.rd
      refine xgo [43] 60 hA ?_
      refine xg H1.1 (by rfl) ?_
      refine xln (t := 1) (Or.inl H1.2.1) (by decide) ?_
      rw [txv_len]
      refine xt (by rw [show k = t.length by omega]; exact Int32.le_refl _) ?_
      exact done s S h1 rc rs _ e I1 J (by omega) (by omega) (by simp)
    | succ n ih =>
      intro k s S h1 rc rs ls hk e I1 J hrc hrs hls
      refine xG.locs ?_ hls
      have H1 := I1.rd
      have hct : ch t s ≤ 256 := H1.2.2.2.2.le _
      have hR1 : ∃ v, h1 so' = some (5, v) := by
        obtain ⟨G1, -, -, -, R1, -⟩ := I1
        exact ⟨_, R1.1⟩
      obtain ⟨sv, hsv⟩ := hR1
      refine xgo [15, 43] 60 hA ?_
      refine xg H1.1 (by rfl) ?_
      refine xln (t := 1) (Or.inl H1.2.1) (by decide) ?_
      rw [txv_len]
      refine xf (fun y => by have := (nI_leI (by omega) (by omega)).mp y; omega) ?_
      refine xcV H1.1 (c_here H1) (by rfl) (by rfl) (by rfl) (Nat.zero_le _) (Nat.zero_le _) ?_
      rintro o h3 ⟨rfl, rfl⟩
      refine xb (fun c => ?_) (fun c => ?_)
      · have c1 := (cI_end hct).mp c
        exact done s S h3 rc rs _ (by rw [e, sAll, if_pos c1]) I1 J (by omega) (by omega) (by simp)
      have c1 : ¬ ch t s = 256 := fun z => c ((cI_end hct).mpr z)
      have hslt : s ≤ t.length := H1.2.2.1
      have O1 : SOk t s S := by
        obtain ⟨G1, -, -, -, -, -, O1⟩ := I1
        exact O1
      rw [sAll, if_neg c1] at hrc hrs e
      have hsa := sPiece_adv t S hslt
      have hcost : cst 4 8 t.length s (sPiece t s S) ≤ rc ∧ cst 30 60 t.length s (sPiece t s S) + gRes S (sPiece t s S) ≤ rs := by
        cases ex : sPiece t s S with
        | error w =>
          rw [ex, pB_er rfl, cst_er rfl] at hrc hrs
          rw [cst_er rfl, cst_er rfl, gRes_er rfl]
          have := gLft_er (len := t.length) O1.2.1 (by have := O1.2.2.2.2.2.2.1; omega) O1.2.2.2.2.2.1
          omega
        | ok q =>
          obtain ⟨S', j⟩ := q
          have hj := hsa S' j ex
          obtain ⟨m1, m2, m3, m4, m5⟩ := sPiece_mono ex
          have J' := J.piece ex
          have hlim := gLft_ok (len := t.length) (S := S) (S' := S') J'.1.1 (by have := O1.2.2.2.2.2.2.1; omega) (m5 O1.2.2.2.2.2.1) m1 m2 m3
          rw [ex, pB_ok rfl, cst_shift (i := s) (j := j) (by omega) hj.2 (sAll_adv2 t n S' hj.2)] at hrc hrs
          rw [cst_ok rfl, cst_ok rfl, gRes_ok rfl]
          omega
      obtain ⟨hc1, hc2⟩ := hcost
      refine xcV hsv (c_readPiece I1 hBb) (by rfl) (by rfl) (by rfl) hc1 hc2 ?_
      intro o h4 q
      cases ex : sPiece t s S with
      | error w =>
        rw [ex] at q e
        have q : xEr r b w [] h0 o h4 := q
        obtain ⟨x, rfl⟩ := q.1
        exact bad w _ h4 (by rw [sSrc, e, pB_er rfl]; rfl) q
      | ok p =>
        obtain ⟨S', j⟩ := p
        rw [ex] at q
        obtain ⟨I4, rfl⟩ := q
        have hj := hsa S' j ex
        obtain ⟨m1, m2, m3, m4, m5⟩ := sPiece_mono ex
        have J' := J.piece ex
        have hlim := gLft_ok (len := t.length) (S := S) (S' := S') J'.1.1 (by have := O1.2.2.2.2.2.2.1; omega) (m5 O1.2.2.2.2.2.1) m1 m2 m3
        rw [ex, pB_ok rfl] at e
        rw [ex, pB_ok rfl, cst_shift (i := s) (j := j) (by omega) hj.2 (sAll_adv2 t n S' hj.2)] at hrc hrs
        rw [cst_ok rfl, cst_ok rfl, gRes_ok rfl]
        have := ih (k + 1) j S' h4 (rc - 4 * (j - s)) (rs - (30 * (j - s) + grw S S')) [(3, .int (nI k + 1)), (2, .ref so'), (1, .ref r), (0, .ref sc)] (by omega) e I4 J' (by omega) (by omega) (by rw [nI_1]; simp)
        exact this.locs (by simp)
  have hcs := sAll_adv2 t t.length SS0 (Nat.zero_le _)
  have hk1 : ∀ K E, cst K E t.length 0 (sAll t t.length 0 SS0) ≤ K * t.length + E := fun K E => by
    cases ex : sAll t t.length 0 SS0 with
    | error w => rw [cst_er rfl, Nat.sub_zero]; exact Nat.le_refl _
    | ok q =>
      have := hcs q.1 q.2 ex
      rw [cst_ok (a := q.1) (j := q.2) rfl]
      have := Nat.mul_le_mul_left K (show q.2 - 0 ≤ t.length by omega)
      omega
  have c1 := hk1 4 8
  have c2 := hk1 30 60
  have c3 := gLft_0 t.length
  exact key t.length 0 0 SS0 h2 _ _ [(3, .int (nI 0)), (2, .ref so'), (1, .ref r), (0, .ref sc)] (by omega) rfl I2 (SI.zero t) (by omega) (by omega) (by simp)
end
