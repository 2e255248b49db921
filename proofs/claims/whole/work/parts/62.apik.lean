/-! THE CLASS, 11: style -/
section
variable {Zh : xH}
abbrev AS.wSt (A : AS) (ty : List Nat) (rs : List RU) (ss : List (List ST)) (ns : List (Nat × Nat)) : AS := (A.1, A.2.1, (ty, rs, ss, ns))
theorem scQ.sty {D : xD} {h : xH} {sc r so sy sy' : Nat} {K : CK} {A : AS} {G : SG} {ty : List Nat} {rs : List RU} {ss : List (List ST)} {ns : List (Nat × Nat)} (Q : scQ Zh D h sc K A r so sy G) (h1 : styR D (bK K) h sy' ty rs ss ns) (h2 : styW rs ss ns) (h3 : ty.length ≤ 8192) : scQ Zh D (xset h sc (0, scV K A r so sy')) sc K (A.wSt ty rs ss ns) r so sy' G := by
  obtain ⟨T, O, fv, rv, hv', w0, w1, r1, ⟨r2, r3⟩, ⟨r4, r5⟩, ⟨r6, r7⟩, r8, ⟨r9, r10⟩, ⟨r11, r12⟩, r13, r14, r15, r16, r17⟩ := Q
  obtain ⟨⟨n1, n2, n3, n4, n5, n6⟩, -⟩ := sc_ne r1 r2 r4 r6 r8 r9 r11
  have k : gk (bK K) h (xset h sc (0, scV K A r so sy')) := (gk.refl _ _).put r1 (ng0 (Or.inl rfl))
  exact scQ.of (A := A.wSt ty rs ss ns) k r14 r15 h1 (xset_same _ _ _) ⟨xst2 n1 r2, r3⟩ ⟨xst2 n2 r4, r5⟩ ⟨xst2 n3 r6, r7⟩ (xst2 n4 r8) ⟨xst2 n5 r9, r10⟩ ⟨xst2 n6 r11, r12⟩ r13 ⟨r17.1, r17.2.1, r17.2.2.1, ⟨r17.2.2.2.1.1, h3⟩, r17.2.2.2.2.1, h2⟩
theorem sY.rd {D : xD} {B : Nat → Prop} {h0 h h' : xH} {r b i j sy tc : Nat} {t O : List Nat} {G : Nat → LG} {rs : List RU} {ss : List (List ST)} {ns : List (Nat × Nat)} (W : sY D B h0 h r b t i O sy G rs ss ns tc) (f : fr [r] h h') (hr : rdr h' r b t j (-1)) : sY D B h0 h' r b t j O sy G rs ss ns tc := by
  obtain ⟨C, Ls, ⟨s1, s2⟩, A0, A1, A2⟩ := W
  obtain ⟨C', z⟩ := C.rd f hr
  exact ⟨C', Ls.kl C f, ⟨s1, f.one s2 (C.ner s1)⟩, A0.mono fun a b q => q.ext z, A1.mono fun a b q => q.ext z, A2.mono fun a b q => q.ext z⟩
def ssOf (rs : List RU) : List (List ST) := (rs.map (fun R => R.1)).flatten
def aStyle (A : AS) : Option Int32 × AS := match pSty A.tp with
  | .error w => (none, A.wTk.wPl (some w))
  | .ok q => (some (nI (ssOf q.1.ru).length), A.wTk.wSt A.tp q.1.ru (ssOf q.1.ru) q.1.ns)
theorem pRules_adv (t : List Nat) : ∀ (n : Nat) {i : Nat} (Y : YS), i ≤ t.length → adv t i 0 (pRules t n i Y)
  | 0, i, Y, hi => adv.ok (Nat.le_refl _) hi
  | n + 1, i, Y, hi => by
    have h0 := scan_ge bl t i
    refine adv.ite (fun _ => adv.ok h0 (scan_le hi)) fun _ => ?_
    refine adv.bind ((pRule_adv t Y (scan_le hi)).from (by omega)) fun Y' j e => ?_
    exact pRules_adv t n Y' (pRule_adv t Y (scan_le hi) Y' j e).2
theorem cst_three {α β γ δ : Type} {K E K' E' d s s' : Nat} {t : List Nat} {x : Except Nat (α × Nat)} {y : α → Nat → Except Nat (β × Nat)} {g : α → β → γ} {F : γ → Nat → Except Nat (δ × Nat)} (hs : s ≤ s') (hx : adv t s' 0 x) (hy : ∀ a j, x = .ok (a, j) → adv t j 2 (y a j)) (hF : ∀ c z, z ≤ t.length → adv t z 0 (F c z)) (hK : K' + d ≤ K) (hE : E' + d ≤ E) :
    d + cst K' E' t.length s' x ≤ cst K E t.length s (pB (pB x fun a j => pB (y a j) fun c z => .ok (g a c, z)) F) ∧ ∀ a j, x = .ok (a, j) → d + K' * (j - s') + cst K' E' t.length j (y a j) ≤ cst K E t.length s (pB (pB x fun a j => pB (y a j) fun c z => .ok (g a c, z)) F) := by
  cases x with
  | error w =>
    rw [pB_er (pB_er rfl), cst_er rfl, cst_er rfl]
    have := Nat.mul_le_mul (show K' ≤ K by omega) (show t.length - s' ≤ t.length - s by omega)
    exact ⟨by omega, fun a j h => by cases h⟩
  | ok q =>
    obtain ⟨a, j⟩ := q
    have h1 := hx a j rfl
    have e1 : pB (.ok (a, j) : Except Nat (α × Nat)) (fun a j => pB (y a j) fun c z => (.ok (g a c, z) : Except Nat (γ × Nat))) = pB (y a j) fun c z => .ok (g a c, z) := rfl
    rw [e1, cst_ok rfl]
    cases hyy : y a j with
    | error w =>
      rw [pB_er (pB_er rfl), cst_er rfl]
      have h2 := Nat.mul_le_mul (show K' ≤ K by omega) (show t.length - s' ≤ t.length - s by omega)
      have h3 : K' * (t.length - s') = K' * (j - s') + K' * (t.length - j) := by rw [← Nat.mul_add]; congr 1; omega
      refine ⟨by omega, fun a' j' h => ?_⟩
      cases h
      rw [hyy, cst_er rfl]
      omega
    | ok p =>
      obtain ⟨c, z⟩ := p
      have h2 := hy a j rfl c z hyy
      have e2 : pB (pB (.ok (c, z) : Except Nat (β × Nat)) fun c z => (.ok (g a c, z) : Except Nat (γ × Nat))) F = F (g a c) z := rfl
      rw [e2, cst_shift (i := s) (j := z) (by omega) h2.2 (hF _ z h2.2)]
      have h3 := Nat.mul_le_mul hK (show z - s' ≤ z - s by omega)
      have h4 : (K' + d) * (z - s') = K' * (z - s') + d * (z - s') := Nat.add_mul _ _ _
      have h5 := Nat.mul_le_mul_left d (show 1 ≤ z - s' by omega)
      have h6 : K' * (z - s') = K' * (j - s') + K' * (z - j) := by rw [← Nat.mul_add]; congr 1; omega
      refine ⟨by omega, fun a' j' h => ?_⟩
      cases h
      rw [hyy, cst_ok rfl]
      omega
theorem tcs_le : ∀ (rs : List RU) (R : RU), R ∈ rs → R.2.length ≤ tcs rs
  | R' :: rs, R, h => by
    rcases List.mem_cons.mp h with rfl | h
    · show _ ≤ _ + _; omega
    · have := tcs_le rs R h
      show _ ≤ _ + _; omega
theorem ssOf_le : ∀ (rs : List RU) (R : RU), R ∈ rs → R.1.length ≤ (ssOf rs).length ∧ ∀ l ∈ R.1, l ∈ ssOf rs
  | R' :: rs, R, h => by
    have e : ssOf (R' :: rs) = R'.1 ++ ssOf rs := by simp [ssOf]
    rcases List.mem_cons.mp h with rfl | h
    · rw [e, List.length_append]
      exact ⟨by omega, fun l hl => List.mem_append_left _ hl⟩
    · have := ssOf_le rs R h
      rw [e, List.length_append]
      exact ⟨by omega, fun l hl => List.mem_append_right _ (this.2 l hl)⟩
theorem ssOf_snoc (rs : List RU) (R : RU) : ssOf (rs ++ [R]) = ssOf rs ++ R.1 := by simp [ssOf]
set_option maxRecDepth 20000 in
theorem c_style {l : Launch} {D : xD} {h : xH} {sc : Nat} {K : CK} {A : AS} (R : scR Zh D h sc K A) : xMet l D 12 y_Sc_style [.ref sc] h (44 * A.tp.length + 100) (551 * A.tp.length + 1200) (fun o h' => oI 16 (aStyle A).1 o ∧ scR Zh D h' sc K (aStyle A).2) := by
  obtain ⟨rd, so, sy, G, Q⟩ := R
  obtain ⟨T, O, fv, rv, hv', v0, v1, r1, ⟨r2, r3, r3'⟩, ⟨r4, r5⟩, ⟨r6, r7⟩, r8, ⟨r9, r10⟩, ⟨r11, r12⟩, r13, r14, r15, r16, r17⟩ := id Q
  have hBt : bytesOk A.tp := r17.1.2
  have htl : A.tp.length ≤ 8192 := r17.1.1
  refine m_Sc_style (Nat.le_of_ble_eq_true rfl) fun X hl hD hP hA => ?_
  subst hl hD
  refine xgo [15] 60 hA ?_
  refine xcV r1 (c_takeTape Q) (by rfl) (by rfl) (by rfl) (by omega) (by omega) ?_
  rintro o h0 ⟨r, b, rfl, H0, hBb, Q0⟩
  obtain ⟨t, ht⟩ : ∃ t, t = A.tp := ⟨_, rfl⟩
  have hpS : aStyle A = match pSty t with
    | .error w => (none, A.wTk.wPl (some w))
    | .ok q => (some (nI (ssOf q.1.ru).length), A.wTk.wSt t q.1.ru (ssOf q.1.ru) q.1.ns) := by rw [ht]; rfl
  rw [← ht] at H0 hBt htl ⊢
  have E0 : env X.D h0 := by
    obtain ⟨-, -, -, -, -, -, -, -, -, -, -, -, -, -, -, E, -⟩ := id Q0
    exact E.1
  have C0 : cx X.D h0 h0 r b t 0 [] := ⟨H0, E0, ⟨⟨_, H0.1⟩, H0.2.1⟩, fr.refl _ _, fun q hq => by cases hq⟩
  refine xn (by omega) (by omega) fun sy' hs => ?_
  obtain ⟨C1, -⟩ := C0.new (c := (11, [.null, .null, .null, .int 0])) hs rfl
  refine xcI (c_Sy_init (B := bK K) C1 List.mem_cons_self (xset_same _ _ _)) (by rfl) (by rfl) (by rfl) (by omega) (by omega) ?_
  rintro o h2 ⟨rfl, -, O2, G2, W2, hO2⟩
  -- a failure
  have bad : ∀ (w : Nat) (o : xO) (h' : xH), pSty t = .error w → xEr r b w [] h0 o h' → X.P o h' := by
    intro w o h' e ⟨⟨x, hx⟩, ⟨i', hr⟩, f⟩
    rw [hpS, e] at hP
    exact xP hP ⟨⟨x, hx⟩, r, so, sy, G, Q0.rd (p := some w) f hr⟩
  have key : ∀ (n k s : Nat) (rs : List RU) (ns : List (Nat × Nat)) (O1 : List Nat) (G1 : Nat → LG) (h1 : xH) (rc rs' : Nat) (ls : xL), k + n = t.length → pSty t = pRules t n s (rs, ns, (ssOf rs).length, tcs rs) → sY X.D (bK K) h0 h1 r b t s O1 sy' G1 rs (ssOf rs) ns (tcs rs) → ns.length ≤ 30 → tcs rs ≤ 600 → rs.length ≤ (ssOf rs).length → (ssOf rs).length ≤ 120 → (∀ R ∈ rs, (∀ l ∈ R.1, selOk l) ∧ ∀ d ∈ R.2, tdW ns.length d) → cst 44 88 t.length s (pRules t n s (rs, ns, (ssOf rs).length, tcs rs)) ≤ rc → cst 550 1100 t.length s (pRules t n s (rs, ns, (ssOf rs).length, tcs rs)) ≤ rs' → (∀ p ∈ [(3, Value.int (nI k)), (2, .ref sy'), (1, .ref r), (0, .ref sc)], p ∈ ls) → xG X 15 ls [] h1 rc rs' := by
    intro n
    -- through
    have done : ∀ (s i : Nat) (rs : List RU) (ns : List (Nat × Nat)) (O1 : List Nat) (G1 : Nat → LG) (h1 : xH) (rc rs' : Nat) (ls : xL), pSty t = .ok ((rs, ns, (ssOf rs).length, tcs rs), i) → sY X.D (bK K) h0 h1 r b t s O1 sy' G1 rs (ssOf rs) ns (tcs rs) → ns.length ≤ 30 → tcs rs ≤ 600 → rs.length ≤ (ssOf rs).length → (ssOf rs).length ≤ 120 → (∀ R ∈ rs, (∀ l ∈ R.1, selOk l) ∧ ∀ d ∈ R.2, tdW ns.length d) → (∀ p ∈ [(2, Value.ref sy'), (0, .ref sc)], p ∈ ls) → xG X 61 ls [] h1 rc rs' := by
      intro s i rs ns O1 G1 h1 rc rs' ls e W1 b1 b2 b3 b4 b5 hls
      refine xG.locs ?_ hls
      rw [hpS, e] at hP
      obtain ⟨C1, Ls1, ⟨s1, s2⟩, -⟩ := id W1
      have Q1 := Q0.rd (p := none) C1.2.2.2.1 C1.1.1
      have SW1 : styW rs (ssOf rs) ns := by
        refine ⟨fun R hR => ⟨⟨(b5 R hR).1, by have := (ssOf_le rs R hR).1; omega, by have := tcs_le rs R hR; omega, fun d hd => ((b5 R hR).2 d hd).1⟩, fun d hd => ((b5 R hR).2 d hd).2⟩, by omega, fun l hl => ?_, b4, b1, b2⟩
        obtain ⟨q, hq, hl⟩ := List.mem_flatten.mp hl
        obtain ⟨R, hR, rfl⟩ := List.mem_map.mp hq
        exact (b5 R hR).1 l hl
      have Q2 := Q1.sty W1.sty SW1 htl
      obtain ⟨_, _, _, _, _, _, _, q1, -⟩ := id Q1
      refine xgo [] 60 hA ?_
      refine xp (fs' := scV K (A.wTk.wPl none) r so sy') q1 rfl rfl ?_
      have n1 : sy' ≠ sc := xne' s2 q1 (by decide)
      refine xg (xst2 n1 s2) (by rfl) ?_
      obtain ⟨-, -, -, -, -, -, -, -, -, -, -, -, -, -, -, -, -, r16', -⟩ := id Q2
      have L1 := (Ls1.1 1 (by decide)).1
      have L1' := L1.gd (B := bK K) ((gk.refl _ h1).put (c := (0, scV K (A.wTk.wPl none) r so sy')) q1 (ng0 (Or.inl rfl)))
      obtain ⟨lv, hlv⟩ := L1'.cell
      refine xcV hlv (c_AL_size L1') (by rfl) (by rfl) (by rfl) (Nat.zero_le _) (Nat.zero_le _) ?_
      rintro o h' ⟨rfl, rfl⟩
      have hl := W1.2.2.2.2.1.len
      rw [hl]
      exact xP hP ⟨rfl, r, so, sy', G, Q2⟩
    induction n with
    | zero =>
      intro k s rs ns O1 G1 h1 rc rs' ls hk e W1 b1 b2 b3 b4 b5 hrc hrs hls
      refine xG.locs ?_ hls
      obtain ⟨C1, -⟩ := id W1
      have hk : k = t.length := by omega
      refine xgo [61] 60 hA ?_
      refine xg C1.1.1 (by rfl) ?_
      refine xln (t := 1) (Or.inl C1.1.2.1) (by decide) ?_
      rw [txv_len]
      refine xt (by rw [hk]; exact Int32.le_refl _) ?_
      exact done s s rs ns O1 G1 h1 rc rs' _ (by rw [e]; rfl) W1 b1 b2 b3 b4 b5 (by simp)
    | succ n ih =>
      intro k s rs ns O1 G1 h1 rc rs' ls hk e W1 b1 b2 b3 b4 b5 hrc hrs hls
      refine xG.locs ?_ hls
      obtain ⟨C1, Ls1, ⟨s1, s2⟩, A0, A1, A2⟩ := id W1
      have hsc := scan_ge bl t s
      have hct : ch t (scan bl t s) ≤ 256 := C1.1.2.2.2.2.le _
      refine xgo [15, 61] 80 hA ?_
      refine xg C1.1.1 (by rfl) ?_
      refine xln (t := 1) (Or.inl C1.1.2.1) (by decide) ?_
      rw [txv_len]
      refine xf (fun y => by have := (nI_leI (by omega) (by omega)).mp y; omega) ?_
      refine xcV C1.1.1 (c_sg C1) (by rfl) (by rfl) (by rfl) (Nat.zero_le _) (Nat.zero_le _) ?_
      rintro o h3 ⟨C3, z3, f3, -, rfl⟩
      have W3 : sY X.D (bK K) h0 h3 r b t (scan bl t s) O1 sy' G1 rs (ssOf rs) ns (tcs rs) := ⟨C3, Ls1.kl C1 f3, ⟨s1, f3.one s2 (C1.ner s1)⟩, A0.mono fun a b q => q.ext z3, A1.mono fun a b q => q.ext z3, A2.mono fun a b q => q.ext z3⟩
      refine xb (fun c => ?_) (fun c => ?_)
      · have c1 := (cI_end hct).mp c
        exact done (scan bl t s) (scan bl t s) rs ns O1 G1 h3 rc rs' _ (by rw [e, pRules, if_pos c1]) W3 b1 b2 b3 b4 b5 (by simp)
      have c1 : ¬ ch t (scan bl t s) = 256 := fun z => c ((cI_end hct).mpr z)
      rw [pRules, if_neg c1] at hrc hrs e
      have hsl := C3.1.2.2.1
      rw [pRule_bR] at hrc hrs e
      -- costs
      have hpa := pSels_adv t 121 (ssOf rs).length [] hsl
      have b1' := cst_three (K := 44) (E := 88) (K' := 40) (E' := 80) (d := 3) hsc hpa (fun l1 j _ => bR_adv t j ns (tcs rs)) (fun Y' z hz => pRules_adv t n Y' hz) (by decide) (by decide) (g := fun ls q => ((rs ++ [(ls, q.1)], q.2, (ssOf rs).length + ls.length, tcs rs + q.1.length) : YS))
      have b2' := cst_three (K := 550) (E := 1100) (K' := 540) (E' := 1080) (d := 8) hsc hpa (fun l1 j _ => bR_adv t j ns (tcs rs)) (fun Y' z hz => pRules_adv t n Y' hz) (by decide) (by decide) (g := fun ls q => ((rs ++ [(ls, q.1)], q.2, (ssOf rs).length + ls.length, tcs rs + q.1.length) : YS))
      have hrc0 : cst 44 88 t.length s (pB (pB (pSels t 121 (scan bl t s) (ssOf rs).length []) fun ls j => pB (bR t j ns (tcs rs)) fun q z => .ok ((rs ++ [(ls, q.1)], q.2, (ssOf rs).length + ls.length, tcs rs + q.1.length), z)) fun Y' j => pRules t n j Y') ≤ rc := hrc
      have hrs0 : cst 550 1100 t.length s (pB (pB (pSels t 121 (scan bl t s) (ssOf rs).length []) fun ls j => pB (bR t j ns (tcs rs)) fun q z => .ok ((rs ++ [(ls, q.1)], q.2, (ssOf rs).length + ls.length, tcs rs + q.1.length), z)) fun Y' j => pRules t n j Y') ≤ rs' := hrs
      have e0 : pSty t = pB (pB (pSels t 121 (scan bl t s) (ssOf rs).length []) fun ls j => pB (bR t j ns (tcs rs)) fun q z => .ok ((rs ++ [(ls, q.1)], q.2, (ssOf rs).length + ls.length, tcs rs + q.1.length), z)) fun Y' j => pRules t n j Y' := e
      have c11 := Nat.le_trans b1'.1 hrc0
      have c21 := Nat.le_trans b2'.1 hrs0
      refine xn (by omega) (by omega) fun ru hru => ?_
      obtain ⟨C4, z4⟩ := C3.new (c := (10, [.null, .null])) hru rfl
      refine xcI (c_Ru_init C4 List.mem_cons_self (xset_same _ _ _)) (by rfl) (by rfl) (by rfl) (by omega) (by omega) ?_
      rintro o h5 ⟨a3, e3, a4, e4, C5, z5, L3, L4, u5, f5, n3, n4, n34, rfl⟩
      have Z5 := W3.rule hru C5 z5 rfl L3 L4 u5 f5 n3 n4 n34
      have sy5 := Z5.2.2.1.2
      refine xcV sy5 (c_readSelectors Z5 b4 hBb) (by rfl) (by rfl) (by rfl) (by omega) (by omega) ?_
      intro o h6 q
      rcases q.cs with ⟨w, e6, z⟩ | ⟨l1, j, e6, H6, f6, rfl, hne, hl6, j', O6, G6, Z6'⟩
      · obtain ⟨ex, rfl⟩ := z.1
        exact bad w _ h6 (by rw [e0, pB_er (pB_er e6)]) z
      have Z6 := Z6'.pos H6
      have c12 := Nat.le_trans (b1'.2 l1 j e6) hrc0
      have c22 := Nat.le_trans (b2'.2 l1 j e6) hrs0
      have hj := hpa l1 j e6
      rw [cst_ok e6, cst_ok e6]
      have sy6 := Z6.2.2.1.2
      have hrl : rs.length < 120 := by
        rw [List.length_append] at hl6
        have := List.length_pos_iff.mpr hne
        omega
      refine xcV sy6 (c_readBody Z6 b1 b2 hrl hBb) (by rfl) (by rfl) (by rfl) (by omega) (by omega) ?_
      intro o h7 q
      rcases q.cs with ⟨w, e7, z⟩ | ⟨q7, j7, e7, H7, f7, rfl, hn7, ht7, j7', O7, G7, W7'⟩
      · obtain ⟨ex, rfl⟩ := z.1
        exact bad w _ h7 (by rw [e0, pB_ok e6, pB_er (pB_er e7)]) z
      have W7 := W7'.rd (fr.refl _ _) H7
      have hj7 := bR_adv t j ns (tcs rs) q7 j7 e7
      have e8 : (pB (pB (pSels t 121 (scan bl t s) (ssOf rs).length []) fun ls j => pB (bR t j ns (tcs rs)) fun q z => .ok (((rs ++ [(ls, q.1)], q.2, (ssOf rs).length + ls.length, tcs rs + q.1.length) : YS), z)) fun Y' j => pRules t n j Y') = pRules t n j7 (rs ++ [(l1, q7.1)], q7.2, (ssOf (rs ++ [(l1, q7.1)])).length, tcs (rs ++ [(l1, q7.1)])) := by
        rw [pB_ok e6, pB_ok (pB_ok e7), ssOf_snoc, List.length_append, tcs_snoc]
      rw [e8] at hrc0 hrs0 e0
      have hpa7 := pRules_adv t n (rs ++ [(l1, q7.1)], q7.2, (ssOf (rs ++ [(l1, q7.1)])).length, tcs (rs ++ [(l1, q7.1)])) hj7.2
      rw [cst_shift (i := s) (j := j7) (by omega) hj7.2 hpa7] at hrc0 hrs0
      obtain ⟨w1, w2⟩ := bR_W e7
      have hlk := pSels_lk hBt 121 _ _ [] l1 j (fun l hl => by cases hl) e6
      have := ih (k + 1) j7 (rs ++ [(l1, q7.1)]) q7.2 O7 G7 h7 (rc - 1 - 2 - 40 * (j - scan bl t s) - cst 40 80 t.length j (bR t j ns (tcs rs))) (rs' - 2 - 6 - 540 * (j - scan bl t s) - cst 540 1080 t.length j (bR t j ns (tcs rs))) [(3, .int (nI k + 1)), (2, .ref sy'), (1, .ref r), (0, .ref sc)] (by omega) e0 (by rw [ssOf_snoc]; exact W7) hn7 ht7 (by
        rw [ssOf_snoc, List.length_append, List.length_append]
        have := List.length_pos_iff.mpr hne
        show rs.length + 1 ≤ _ + l1.length
        omega) (by rw [ssOf_snoc]; exact hl6) (fun R hR => by
        rcases List.mem_append.mp hR with z | z
        · exact ⟨(b5 R z).1, fun d hd => ((b5 R z).2 d hd).mono w1⟩
        · rw [List.mem_singleton.mp z]; exact ⟨hlk, w2⟩) (by rw [cst_ok e7]; omega) (by rw [cst_ok e7]; omega) (by rw [nI_1]; simp)
      exact this.locs (by simp)
  have hcs := pRules_adv t t.length YS0 (Nat.zero_le _)
  have hk1 : ∀ K E, cst K E t.length 0 (pRules t t.length 0 YS0) ≤ K * t.length + E := fun K E => by
    cases ex : pRules t t.length 0 YS0 with
    | error w => rw [cst_er rfl, Nat.sub_zero]; exact Nat.le_refl _
    | ok q =>
      have := hcs q.1 q.2 ex
      rw [cst_ok (a := q.1) (j := q.2) rfl]
      have := Nat.mul_le_mul_left K (show q.2 - 0 ≤ t.length by omega)
      omega
  have c1 := hk1 44 88
  have c2 := hk1 550 1100
  have hlt : A.tp.length = t.length := by rw [ht]
  exact key t.length 0 0 [] [] O2 G2 h2 _ _ [(3, .int (nI 0)), (2, .ref sy'), (1, .ref r), (0, .ref sc)] (by omega) rfl W2 (by decide) (by decide) (by decide) (by decide) (fun R hR => by cases hR) (by show cst 44 88 t.length 0 (pRules t t.length 0 YS0) ≤ _; omega) (by show cst 550 1100 t.length 0 (pRules t t.length 0 YS0) ≤ _; omega) (by simp)
end
