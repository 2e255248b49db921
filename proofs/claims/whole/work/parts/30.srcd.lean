/-! CONTRACTS, 10: ends of elements, fields -/
theorem adv.bnd {α β : Type} {t : List Nat} {i m m' : Nat} {x : Except Nat (α × Nat)} {f : α → Nat → Except Nat (β × Nat)} (h : adv t i m x) (hf : ∀ a j, x = .ok (a, j) → adv t j m' (f a j)) : adv t i (m + m') (pB x f) := by
  intro b k e
  obtain ⟨a, j, e1, e2⟩ := pB_inv e
  have h1 := h a j e1
  have h2 := hf a j e1 b k e2
  exact ⟨by omega, h2.2⟩
theorem cst_shift {α : Type} {K E i j : Nat} {t : List Nat} {x : Except Nat (α × Nat)} (hij : i ≤ j) (hj : j ≤ t.length) (hf : adv t j 0 x) : cst K E t.length i x = K * (j - i) + cst K E t.length j x := by
  cases e : x with
  | error w =>
    show K * (t.length - i) + E = K * (j - i) + (K * (t.length - j) + E)
    rw [← Nat.add_assoc, ← Nat.mul_add]
    congr 2
    omega
  | ok q =>
    have := hf q.1 q.2 e
    show K * (q.2 - i) = K * (j - i) + K * (q.2 - j)
    rw [← Nat.mul_add]
    congr 1
    omega
theorem finE_eq (S : SS) (e j : Nat) : finE S e j = setF S (up (up (up S.F 12 e j) 14 e S.ps.length) 16 e S.pc.length) := rfl
set_option maxRecDepth 20000 in
theorem c_finish {B : Nat → Prop} {l : Launch} {D : xD} {h0 h : xH} {so r b i e j : Nat} {t : List Nat} {S : SS} {G : SG} (J : srcJ D B h0 h so r b t i S G) (he : e < S.n) : xMet l D 1 y_So_finish [.ref so, .ref (G.ad e), .int (nI j)] h 0 0 (fun o h' => srcJ D B h0 h' so r b t i (finE S e j) G ∧ o = .inl none) := by
  obtain ⟨H, f0, E, R, P, O⟩ := J
  have R' := R
  obtain ⟨r1, r2, r3, r4, r5, r6, r7, r8⟩ := R
  have hc := (r8 e he).1
  have hts : G.ts.length = S.pc.length := by have := r6.len; rw [List.length_map] at this; exact this
  refine m_So_finish (Nat.le_of_ble_eq_true rfl) fun X hl hD hP hA => ?_
  subst hl hD
  refine xgo [] 40 hA ?_
  refine xp hc rfl rfl ?_ -- 2 f4.12
  refine xg (xst2 (xne' r1 hc (by decide)) r1) (by rfl) ?_ -- 7 f5.1
  have L1 := r4.obj (c := (4, (elV G S.F e).set 12 (.int (nI j)))) hc (by decide)
  obtain ⟨vl, hvl⟩ := L1.cell
  refine xcV hvl (c_AL_size L1) (by rfl) (by rfl) (by rfl) (Nat.zero_le _) (Nat.zero_le _) ?_
  rintro o h1 ⟨rfl, rfl⟩
  refine xp (xset_same _ _ _) rfl rfl ?_ -- 13 f4.14
  rw [xset_set, hts]
  have R2 := R'.upd (F' := up (up (up S.F 12 e j) 14 e S.ps.length) 16 e S.pc.length) he (P.2.2.2.2.1 e he).2.1 (fun i hi z y => z ((P.2.2.2.2.1 i hi).2.2 e he y)) (fun i hi z a => by simp [up, z]) (by simp [up]) (by simp [up])
  have e12 : up (up (up S.F 12 e j) 14 e S.ps.length) 16 e S.pc.length 12 e = j := by simp [up]
  have e16 : up (up (up S.F 12 e j) 14 e S.ps.length) 16 e S.pc.length 16 e = S.pc.length := by simp [up]
  have eV : ((elV G S.F e).set 12 (.int (nI j))).set 14 (.int (nI S.pc.length)) = elV G (up (up (up S.F 12 e j) 14 e S.ps.length) 16 e S.pc.length) e := by
    simp only [elV, e12, e16]
    rfl
  rw [eV]
  refine xP hP ⟨⟨⟨xst2 (xne' H.1 hc (by decide)) H.1, xst2 (xne' H.2.1 hc (by decide)) H.2.1, H.2.2⟩, f0.put (Or.inr (P.2.2.2.2.1 e he).1), E.kept ((kp.refl _).put hc rfl), R2, P, ?_⟩, rfl⟩
  obtain ⟨o1, o2, o3, o4, o5⟩ := O
  exact ⟨o1, o2, o3, fun k hk => o4 k hk, o5⟩
set_option maxRecDepth 20000 in
theorem c_readEnd {B : Nat → Prop} {l : Launch} {D : xD} {h0 h : xH} {so r b i : Nat} {t : List Nat} {S : SS} (I : srcI D B h0 h so r b t i S) (hlen : i < t.length) (hBb : B b) : xMet l D 8 y_So_readEndOfElement [.ref so, .ref r] h (cst 4 8 t.length i (sEnd t i S)) (cst 30 60 t.length i (sEnd t i S) + gRes S (sEnd t i S)) (sRes D B h0 so r b t (sEnd t i S)) := by
  obtain ⟨G, J0⟩ := I
  have J : srcJ D B h0 h so r b t i S G := J0
  have hc : 4 * 2 ≤ cst 4 8 t.length i (sEnd t i S) := cst_ge ((sEnd_adv t i S).weak (by decide)) (by decide)
  have hs : 30 * 2 ≤ cst 30 60 t.length i (sEnd t i S) := cst_ge ((sEnd_adv t i S).weak (by decide)) (by decide)
  generalize hmc : cst 4 8 t.length i (sEnd t i S) = mc at hc ⊢
  generalize hms : cst 30 60 t.length i (sEnd t i S) = ms at hs ⊢
  have R := J.2.2.2.1
  have P := J.2.2.2.2.1
  have O := J.2.2.2.2.2
  refine m_So_readEndOfElement (Nat.le_of_ble_eq_true rfl) fun X hl hD hP hA => ?_
  subst hl hD
  refine xgo [] 60 hA ?_
  refine xg R.1 (by rfl) ?_ -- 1 f5.4
  refine xg R.1 (by rfl) ?_ -- 5 f5.3
  cases hop : S.op with
  | zero =>
    refine xt rfl ?_
    refine xg J.1.1 (by rfl) ?_ -- 13 f1.1
    refine xfail J.1 i (by rfl) rfl (by omega) (by omega) fun e h1 q => xP hP ?_
    exact sRes.er (by rw [sEnd, if_pos hop]) (q.base J.2.1)
  | succ k =>
    have hk : k < S.n := by have := O.1; omega
    have eop : S.op - 1 = k := by omega
    have hne := (P.2.2.2.2.1 k hk).2.1
    refine xf hne ?_
    refine xg J.1.1 (by rfl) ?_ -- 21 f1.1
    refine xp J.1.1 rfl rfl ?_ -- 26 f1.1
    rw [nI_1]
    have H1 := J.1.mv (br' := -1) (j := i + 1) hlen
    have J1 := J.adv (fr.set _ _ _) H1 (by omega)
    refine xcV H1.1 (c_readName H1) (by rfl) (by rfl) (by rfl) (by omega) (by omega) ?_
    intro o h2 q
    rcases q.cs with ⟨w, e1, z⟩ | ⟨a, j, e1, H2, f2, s, rfl, hsn, hs2⟩
    · obtain ⟨ex, rfl⟩ := z.hr
      exact xP hP (sRes.er (by rw [sEnd, if_neg (by omega), pB_er e1]) (z.base J1.2.1))
    have hij := pName_adv t _ a j e1
    obtain ⟨n1, n2, n3, n4, -⟩ := pName_sub e1
    have J2 := J1.adv f2.nil H2 (by omega)
    have R2 := J2.2.2.2.1
    have hS : isS B h2 s (sub t a) := isS.of hs2 H2.2.1 (by omega) H2.2.2.2.1 H2.2.2.2.2 hBb
    have r21 := R2.1
    rw [hop] at r21
    obtain ⟨q1, q2, q3, q4⟩ := R2.2.2.2.2.2.2.2 k hk
    refine xg r21 (by rfl) ?_ -- 36 f5.4
    refine xg q1 (by rfl) ?_ -- 39 f4.0
    refine xcV hs2 (c_sameAs hS q2) (by rfl) (by rfl) (by rfl) (Nat.zero_le _) (Nat.zero_le _) ?_
    rintro o h3 ⟨rfl, rfl⟩
    refine xb (fun c => ?_) (fun c => ?_)
    · have c1 := of_decide_eq_true ((bI_n0 _).mp c)
      have eR : sEnd t i S = pB (pSig 62 t j) fun _ m => .ok (opnE (finE S (S.op - 1) m) (S.F 2 (S.op - 1)), m) := by rw [sEnd, if_neg (by omega), pB_ok e1, eop, if_pos c1]
      refine xcV H2.1 (c_expectSign H2 (c := 62) rfl (by decide)) (by rfl) (by rfl) (by rfl) (by omega) (by omega) ?_
      intro o h4 q
      rcases q.cs with ⟨w, e2, z⟩ | ⟨y, m, e2, H4, f4, rfl⟩
      · obtain ⟨ex, rfl⟩ := z.hr
        exact xP hP (sRes.er (by rw [eR, pB_er e2]) (z.base J2.2.1))
      have hjm := pSig_adv 62 (by decide) t j y m e2
      have J4 := J2.adv f4.nil H4 (by omega)
      have eR2 : sEnd t i S = .ok (opnE (finE S k m) (S.F 2 k), m) := by rw [eR, pB_ok e2, eop]
      have r41 := J4.2.2.2.1.1
      rw [hop] at r41
      refine xg r41 (by rfl) ?_ -- 64 f5.4
      refine xg H4.1 (by rfl) ?_ -- 68 f1.1
      refine xcV r41 (c_finish J4 hk (j := m)) (by rfl) (by rfl) (by rfl) (Nat.zero_le _) (Nat.zero_le _) ?_
      rintro o h5 ⟨J5, rfl⟩
      obtain ⟨H5, f05, E5, R5, P5, O5⟩ := J5
      have r51 := R5.1
      rw [show (finE S k m).op = k + 1 from hop] at r51
      have q51 := (R5.2.2.2.2.2.2.2 k hk).1
      refine xg r51 (by rfl) ?_ -- 76 f5.4
      refine xg q51 (by rfl) ?_ -- 79 f4.1
      refine xg r51 (by rfl) ?_ -- 93 f5.4
      refine xg q51 (by rfl) ?_ -- 96 f4.1
      refine xp r51 rfl rfl ?_ -- 99 f5.4
      refine xP hP (sRes.ok eR2 ?_ rfl)
      have e2' : (finE S k m).F 2 k = S.F 2 k := rfl
      have R6 := R5.opn (op := S.F 2 k)
      refine ⟨G, ⟨xst2 (xne' H5.1 r51 (by decide)) H5.1, xst2 (xne' H5.2.1 r51 (by decide)) H5.2.1, H5.2.2⟩, f05.put (Or.inr P5.1.1), E5.kept ((kp.refl _).put r51 rfl), R6, P5, ?_⟩
      obtain ⟨o1, o2, o3, o4, o5⟩ := O5
      refine ⟨?_, o2, o3, o4, o5⟩
      have := (o4 k hk).1
      exact Nat.le_trans this (Nat.le_of_lt hk)
    · have c1 := of_decide_eq_false ((bI_0 _).mp c)
      refine xg hs2 (by rfl) ?_ -- 50 f2.1
      refine xfail H2 (i + 1) (by rw [n1]) rfl (by omega) (by omega) fun e h3 q => xP hP ?_
      exact sRes.er (by rw [sEnd, if_neg (by omega), pB_ok e1, eop, if_neg c1]) (q.base J2.2.1)

set_option maxRecDepth 20000 in
theorem c_readFields {B : Nat → Prop} {l : Launch} {D : xD} {h : xH} {so r b i el fl e0 : Nat} {t : List Nat} {ev : List Value} (E : env D h) (H : rdr h r b t i (-1)) (he : h el = some (4, ev)) (hf : ev[7]? = some (.ref fl)) (L : isL D h fl e0 []) (hBb : B b) : xMet l D 8 y_So_readFields [.ref so, .ref r, .ref el] h (cst 4 8 t.length i (sFld t 6 i [])) (cst 30 60 t.length i (sFld t 6 i [])) (fun o h' => kp h h' ∧ xRes r b t [fl] h (sFld t 6 i []) (fun fs o h' => o = .inl none ∧ ∃ ef fas, isL D h' fl ef fas ∧ all2 (isNm B h') fas (fs.map (nmB t)) ∧ (fas ≠ [] → h ef = none)) o h') := by
  have hefl : el ≠ fl := by
    obtain ⟨v, hv⟩ := L.cell
    exact xne' he hv (by decide)
  have hflr : fl ≠ r := by
    obtain ⟨v, hv⟩ := L.cell
    exact xne' hv H.1 (by decide)
  have helr : el ≠ r := xne' he H.1 (by decide)
  refine m_So_readFields (Nat.le_of_ble_eq_true rfl) fun X hl hD hP hA => ?_
  subst hl hD
  have key : ∀ (n k s : Nat) (fs : List PR) (fas : List Nat) (ef rc rs : Nat) (h1 : xH), k + n = 6 → sFld t 6 i [] = sFld t n s fs → fs.length = k → env X.D h1 → rdr h1 r b t s (-1) → fr [r, fl] h h1 → kp h h1 → isL X.D h1 fl ef fas → all2 (isNm B h1) fas (fs.map (nmB t)) → (fas ≠ [] → h ef = none) → cst 4 8 t.length s (sFld t n s fs) ≤ rc → cst 30 60 t.length s (sFld t n s fs) ≤ rs → xG X 2 [(3, .int (nI k)), (0, .ref so), (1, .ref r), (2, .ref el)] [] h1 rc rs := by
    intro n
    induction n with
    | zero =>
      intro k s fs fas ef rc rs h1 hk eR hfl E1 H1 f1 k1 L1 N1 hef hrc hrs
      have hk6 : k = 6 := by omega
      subst hk6
      refine xgo [40] 60 hA ?_
      refine xf (by decide) ?_
      refine xg H1.1 (by rfl) ?_
      refine xcV H1.1 (c_nextSign H1) (by rfl) (by rfl) (by rfl) (Nat.zero_le _) (Nat.zero_le _) ?_
      rintro o h2 ⟨rfl, rfl⟩
      have H2 := H1.mv (br' := -1) (scan_le H1.2.2.1 (p := bl))
      have k2 : kp h1 (xset h1 r (rdc b (scan bl t s) (-1))) := (kp.refl _).put H1.1 rfl
      have f2 : fr [r, fl] h (xset h1 r (rdc b (scan bl t s) (-1))) := f1.put (Or.inl (by simp))
      refine xcS (c_isSmall (sm_c _ (Nat.lt_succ_of_le (H1.2.2.2.2.le _))) _) (by rfl) (by rfl) (by rfl) (Nat.zero_le _) (Nat.zero_le _) ?_
      rintro o h3 ⟨rfl, rfl⟩
      refine xb (fun c => ?_) (fun c => ?_)
      · have c1 := (bI_n0 _).mp c
        have e2 : sFld t 6 i [] = .error (scan bl t s) := by rw [eR, sFld, if_neg (by rw [c1]; decide)]
        rw [cst_er (w := scan bl t s) (by rw [← eR]; exact e2)] at hrc hrs
        have bad : ∀ v, xG X 40 [(4, .int v), (3, .int (nI 6)), (0, .ref so), (1, .ref r), (2, .ref el)] [] (xset h1 r (rdc b (scan bl t s) (-1))) rc rs := by
          intro v
          refine xgo [] 40 hA ?_
          refine xg H2.1 (by rfl) ?_
          refine xfail H2 (scan bl t s) (by rfl) rfl (by omega) (by omega) fun e h3 q => xP hP ?_
          refine ⟨(k1.tr k2).tr (q.2.2.im1 H2.1 rfl), xRes.er e2 (q.tr f2 (fun _ z => absurd z List.not_mem_nil))⟩
        refine xg H2.1 (by rfl) ?_
        refine xb (fun _ => bad _) (fun _ => ?_)
        exact xfn rfl (bad _)
      · have c1 := (bI_0 _).mp c
        have e2 : sFld t 6 i [] = .ok (fs, scan bl t s) := by rw [eR, sFld, if_pos c1]
        refine xP hP ⟨k1.tr k2, xRes.ok e2 H2 f2 ⟨rfl, ef, fas, ?_, N1.mono fun a b q => q.kept k2, hef⟩⟩
        exact L1.obj H1.1 (by decide)
    | succ n ih =>
      intro k s fs fas ef rc rs h1 hk eR hfl E1 H1 f1 k1 L1 N1 hef hrc hrs
      have hsc := scan_ge bl t s
      refine xgo [40, 48] 60 hA ?_
      refine xf (by show ¬ (6 : Int32) < nI k; exact nI_nlt (a := 6) (b := k) (by omega) (by omega)) ?_
      refine xg H1.1 (by rfl) ?_
      refine xcV H1.1 (c_nextSign H1) (by rfl) (by rfl) (by rfl) (Nat.zero_le _) (Nat.zero_le _) ?_
      rintro o h2 ⟨rfl, rfl⟩
      have H2 := H1.mv (br' := -1) (scan_le H1.2.2.1 (p := bl))
      have k2 : kp h1 (xset h1 r (rdc b (scan bl t s) (-1))) := (kp.refl _).put H1.1 rfl
      have f2 : fr [r, fl] h (xset h1 r (rdc b (scan bl t s) (-1))) := f1.put (Or.inl (by simp))
      have L2 : isL X.D (xset h1 r (rdc b (scan bl t s) (-1))) fl ef fas := L1.obj H1.1 (by decide)
      have N2 := N1.mono fun a b q => q.kept k2
      have E2 := E1.kept k2
      refine xcS (c_isSmall (sm_c _ (Nat.lt_succ_of_le (H1.2.2.2.2.le _))) _) (by rfl) (by rfl) (by rfl) (Nat.zero_le _) (Nat.zero_le _) ?_
      rintro o h3 ⟨rfl, rfl⟩
      refine xb (fun c => ?_) (fun c => ?_)
      · have c1 := (bI_n0 _).mp c
        refine xg H2.1 (by rfl) ?_
        refine xb (fun c => ?_) (fun c => ?_)
        · have c2 : scan bl t s = s := (nI_eq (by have := H1.2.2.1; have := H2.2.2.1; have := H1.2.2.2.1; omega) (by have := H1.2.2.1; have := H1.2.2.2.1; omega)).mp c
          have e2 : sFld t 6 i [] = .error (scan bl t s) := by rw [eR, sFld, if_neg (by rw [c1]; decide), if_pos c2]
          rw [cst_er (w := scan bl t s) (by rw [← eR]; exact e2)] at hrc hrs
          refine xgo [] 40 hA ?_
          refine xg H2.1 (by rfl) ?_
          refine xfail H2 (scan bl t s) (by rfl) rfl (by omega) (by omega) fun e h3 q => xP hP ?_
          exact ⟨(k1.tr k2).tr (q.2.2.im1 H2.1 rfl), xRes.er e2 (q.tr f2 (fun _ z => absurd z List.not_mem_nil))⟩
        · have c2 : ¬ scan bl t s = s := fun z => c (by rw [z])
          have eU : sFld t (n + 1) s fs = pB (pName t (scan bl t s)) fun a j1 => if fs.all (fun q => !decide (sub t q.1 = sub t a)) = true then pB (pSig 61 t j1) fun _ j2 => pB (pStr t (scan bl t j2)) fun b j3 => sFld t n j3 (fs ++ [(a, b)]) else .error (scan bl t s) := by
            rw [sFld, if_neg (by rw [c1]; decide), if_neg c2]
          have hadv : adv t s 2 (sFld t (n + 1) s fs) := by
            rw [eU]
            refine adv.bnd (m := 1) (m' := 1) ((pName_adv t (scan bl t s)).from (by omega)) fun a j1 e1 => ?_
            refine adv.ite (fun _ => ?_) (fun _ => adv.er)
            refine adv.bind (pSig_adv 61 (by decide) t j1) fun u j2 e2 => ?_
            refine adv.bind ((pStr_adv t (scan bl t j2)).from (by have := scan_ge bl t j2; omega)) fun b j3 e3 => ?_
            exact sFld_adv t n _ (pStr_adv t _ b j3 e3).2
          have b1 : 4 * 2 ≤ cst 4 8 t.length s (sFld t (n + 1) s fs) := cst_ge hadv (by decide)
          have b2 : 30 * 2 ≤ cst 30 60 t.length s (sFld t (n + 1) s fs) := cst_ge hadv (by decide)
          refine xtn (fun z => by have := (nI_eq (a := k) (b := 6) (by omega) (by omega)).mp z; omega) ?_
          show xG X 48 [(4, .int (nI s)), (3, .int (nI k)), (0, .ref so), (1, .ref r), (2, .ref el)] [] _ _ _
          refine xgo [2] 60 hA ?_
          refine xcV H2.1 (c_readName H2) (by rfl) (by rfl) (by rfl) (by omega) (by omega) ?_
          intro o h3 q
          rcases q.cs with ⟨w, e1, z⟩ | ⟨a, j1, e1, H3, f3, sn, rfl, hsn, hs3⟩
          · obtain ⟨ex, rfl⟩ := z.hr
            exact xP hP ⟨(k1.tr k2).tr (z.2.2.im1 H2.1 rfl), xRes.er (by rw [eR, eU, pB_er e1]) (z.tr f2 (fun _ z => absurd z List.not_mem_nil))⟩
          have hj1 := pName_adv t _ a j1 e1
          obtain ⟨n1, n2, n3, n4, -⟩ := pName_sub e1
          have k3 := f3.nil.im1 H2.1 rfl
          have f3' : fr [r, fl] h h3 := f2.trans f3 fun q hq => Or.inl (by rw [List.mem_singleton.mp hq]; simp)
          have hel3 : h3 el = some (4, ev) := f3' _ _ he (by simp [helr, hefl])
          have L3 : isL X.D h3 fl ef fas := L2.frm f3 k3 (by simpa using hflr) (fun hx => by
            obtain ⟨v, hv⟩ := L2.arr hx
            simpa using xne' hv H2.1 (by decide))
          have hS3 : isS B h3 sn (sub t a) := isS.of hs3 H3.2.1 (by omega) H3.2.2.2.1 H3.2.2.2.2 hBb
          refine xg hel3 hf ?_
          refine xcS (c_findNamed L3 (N2.mono fun a b q => q.kept k3) hS3) (by rfl) (by rfl) (by rfl) (Nat.zero_le _) (Nat.zero_le _) ?_
          rintro o h4 ⟨rfl, z⟩
          rcases z with ⟨z, rfl⟩ | ⟨kk, q1, q2, q3, q4, rfl⟩
          · have hall : fs.all (fun q => !decide (sub t q.1 = sub t a)) = true := by
              rw [List.all_map] at z
              exact z
            refine xcV H3.1 (c_expectSign H3 (c := 61) rfl (by decide)) (by rfl) (by rfl) (by rfl) (by omega) (by omega) ?_
            intro o h5 q
            rcases q.cs with ⟨w, e2, z⟩ | ⟨y, j2, e2, H5, f5, rfl⟩
            · obtain ⟨ex, rfl⟩ := z.hr
              exact xP hP ⟨((k1.tr k2).tr k3).tr (z.2.2.im1 H3.1 rfl), xRes.er (by rw [eR, eU, pB_ok e1, if_pos hall, pB_er e2]) (z.tr f3' (fun _ z => absurd z List.not_mem_nil))⟩
            have hj2 := pSig_adv 61 (by decide) t j1 y j2 e2
            have k5 := f5.nil.im1 H3.1 rfl
            have f5' : fr [r, fl] h h5 := f3'.trans f5 fun q hq => Or.inl (by rw [List.mem_singleton.mp hq]; simp)
            refine xcV H5.1 (c_nextSign H5) (by rfl) (by rfl) (by rfl) (Nat.zero_le _) (Nat.zero_le _) ?_
            rintro o h6 ⟨rfl, rfl⟩
            have hsc2 := scan_ge bl t j2
            have H6 := H5.mv (br' := -1) (scan_le H5.2.2.1 (p := bl))
            have k6 : kp h5 (xset h5 r (rdc b (scan bl t j2) (-1))) := (kp.refl _).put H5.1 rfl
            have f6' : fr [r, fl] h (xset h5 r (rdc b (scan bl t j2) (-1))) := f5'.put (Or.inl (by simp))
            have hel6 : xset h5 r (rdc b (scan bl t j2) (-1)) el = some (4, ev) := f6' _ _ he (by simp [helr, hefl])
            have L5 : isL X.D h5 fl ef fas := L3.frm f5 k5 (by simpa using hflr) (fun hx => by
              obtain ⟨v, hv⟩ := L3.arr hx
              simpa using xne' hv H3.1 (by decide))
            have L6 : isL X.D (xset h5 r (rdc b (scan bl t j2) (-1))) fl ef fas := L5.obj H5.1 (by decide)
            refine xg hel6 hf ?_
            refine xn (by omega) (by omega) fun x hx => ?_
            have H7 := H6.new (c := (3, [.null, .null])) hx
            refine xcV H7.1 (c_readString H7) (by rfl) (by rfl) (by rfl) (by omega) (by omega) ?_
            intro o h8 q
            have k06 := ((((k1.tr k2).tr k3).tr k5).tr k6)
            have hx0 : h x = none := by
              cases e : h x with
              | none => rfl
              | some d =>
                by_cases z1 : x = r
                · rw [z1, H6.1] at hx; cases hx
                · by_cases z2 : x = fl
                  · obtain ⟨v, hv⟩ := L6.cell
                    rw [z2, hv] at hx; cases hx
                  · rw [f6' _ _ e (by simp [z1, z2])] at hx; cases hx
            have k07 : kp h (xset (xset h5 r (rdc b (scan bl t j2) (-1))) x (3, [.null, .null])) := k06.new hx0
            have f07 : fr [r, fl] h (xset (xset h5 r (rdc b (scan bl t j2) (-1))) x (3, [.null, .null])) := f6'.put (Or.inr hx0)
            rcases q.cs with ⟨w, e3, z⟩ | ⟨u, j3, e3, H8, f8, s8, rfl, -, hs8⟩
            · obtain ⟨ex, rfl⟩ := z.hr
              exact xP hP ⟨k07.tr (z.2.2.im1 H7.1 rfl), xRes.er (by rw [eR, eU, pB_ok e1, if_pos hall, pB_ok e2, pB_er e3]) (z.tr f07 (fun _ z => absurd z List.not_mem_nil))⟩
            have hj3 := pStr_adv t _ u j3 e3
            obtain ⟨m1, m2, m3, m4, m5⟩ := pStr_sub e3
            have hxr : x ≠ r := fun z => by rw [z, H6.1] at hx; cases hx
            have hx8 : h8 x = some (3, [.null, .null]) := f8.nil.one (xset_same _ _ _) hxr
            refine xcI (c_Nd_init hx8) (by rfl) (by rfl) (by rfl) (Nat.zero_le _) (Nat.zero_le _) ?_
            rintro o h9 ⟨rfl, rfl⟩
            have eR2 : sFld t (n + 1) s fs = sFld t n j3 (fs ++ [(a, u)]) := by rw [eU, pB_ok e1, if_pos hall, pB_ok e2, pB_ok e3]
            have k8 := f8.nil.im1 H7.1 rfl
            have f08 : fr [r, fl] h h8 := f07.trans f8 fun q hq => Or.inl (by rw [List.mem_singleton.mp hq]; simp)
            have f09 : fr [r, fl] h (xset h8 x (3, [.ref sn, .ref s8])) := f08.put (Or.inr hx0)
            have k09 : kp h (xset h8 x (3, [.ref sn, .ref s8])) := (k07.tr k8).new hx0
            -- from h6 on
            have hx6 := hx
            have f68 : fr [r] (xset h5 r (rdc b (scan bl t j2) (-1))) h8 := (fr.new hx6 [r] _).tr f8.nil
            have f69 : fr [r] (xset h5 r (rdc b (scan bl t j2) (-1))) (xset h8 x (3, [.ref sn, .ref s8])) := f68.put (Or.inr hx6)
            have k69 : kp (xset h5 r (rdc b (scan bl t j2) (-1))) (xset h8 x (3, [.ref sn, .ref s8])) := f69.im1 H6.1 rfl
            have L9 : isL X.D (xset h8 x (3, [.ref sn, .ref s8])) fl ef fas := L6.frm f69 k69 (by simpa using hflr) (fun hx => by
              obtain ⟨v, hv⟩ := L6.arr hx
              simpa using xne' hv H6.1 (by decide))
            have hSn9 : isS B (xset h8 x (3, [.ref sn, .ref s8])) sn (sub t a) := ((hS3.kept k5).kept k6).kept k69
            have hS8 : isS B h8 s8 (sub t u) := isS.of hs8 H8.2.1 (by omega) H8.2.2.2.1 H8.2.2.2.2 hBb
            have hs8x : s8 ≠ x := fun z => by rw [z, hx8] at hs8; cases hs8
            have hS9 : isS B (xset h8 x (3, [.ref sn, .ref s8])) s8 (sub t u) := by
              obtain ⟨a1, a2, a3, a4, a5, a6⟩ := hS8
              refine ⟨a1, a2, a3, xst2 hs8x a4, ?_, a6⟩
              exact a5.elim (fun z => Or.inl (xst2 (xne' z hx8 (by decide)) z)) (fun z => Or.inr (xst2 (xne' z hx8 (by decide)) z))
            have hN9 : isNm B (xset h8 x (3, [.ref sn, .ref s8])) x (nmB t (a, u)) := ⟨sn, s8, xset_same _ _ _, hSn9, hS9⟩
            have N9 := ((((N2.mono fun a b q => q.kept k3).mono fun a b q => q.kept k5).mono fun a b q => q.kept k6).mono fun a b q => q.kept k69)
            have E9 := (((E2.kept k3).kept k5).kept k6).kept k69
            have hlen9 : fas.length = k := by have := N9.len; rw [List.length_map, hfl] at this; exact this
            obtain ⟨vl, hvl⟩ := L9.cell
            have hg10 : ∀ k, k < 6 → gS (k + 1) - gS k ≤ 10 := by decide
            refine xcV hvl (c_addL E9 L9 (xset_same _ _ _) rfl (fun y hy => by
              obtain ⟨w, -, hw⟩ := N9.mem y hy
              exact hw.ok) (by omega)) (by rfl) (by rfl) (by rfl) (Nat.le_trans (amc_le _ _) (by omega)) (by
                rw [hlen9]
                have := hg10 k (by omega)
                omega) ?_
            rintro o h10 ⟨⟨e', y1, y2⟩, y3, y4, rfl⟩
            have H9 : rdr (xset h8 x (3, [.ref sn, .ref s8])) r b t j3 (-1) := ⟨xst2 (Ne.symm hxr) H8.1, xst2 (xne' H8.2.1 hx8 (by decide)) H8.2.1, H8.2.2⟩
            have H10 : rdr h10 r b t j3 (-1) := ⟨y3 _ _ H9.1 (L9.off H9.1 (by decide) (by decide)), y3 _ _ H9.2.1 (L9.off H9.2.1 (by decide) (by decide)), H9.2.2⟩
            have sh1 := cst_shift (K := 4) (E := 8) (i := s) (j := j3) (x := sFld t n j3 (fs ++ [(a, u)])) (by omega) hj3.2 (sFld_adv t n _ hj3.2)
            have sh2 := cst_shift (K := 30) (E := 60) (i := s) (j := j3) (x := sFld t n j3 (fs ++ [(a, u)])) (by omega) hj3.2 (sFld_adv t n _ hj3.2)
            rw [eR2, sh1] at hrc
            rw [eR2, sh2] at hrs
            have am := amc_le (capN fas.length) fas.length
            have gm := hg10 k (by omega)
            show xG X 2 [(3, .int (nI k + 1)), (5, .ref sn), (4, .int (nI s)), (0, .ref so), (1, .ref r), (2, .ref el)] [] h10 _ _
            rw [nI_1]
            refine xG.locs (ih (k + 1) j3 (fs ++ [(a, u)]) (fas ++ [x]) e' _ _ h10 (by omega) (by rw [eR, eR2]) (by simp [hfl]) (E9.kept y4) H10 ?_ (k09.tr y4) y1 ?_ ?_ ?_ ?_) (by simp)
            · refine f09.trans y3 fun q hq => ?_
              rcases List.mem_cons.mp hq with rfl | hq
              · exact Or.inl (by simp)
              · obtain ⟨rfl, w⟩ := oL_sub _ _ hq
                exact Or.inr (hef w)
            · rw [List.map_append]
              exact all2.snoc (hN9.kept y4) (N9.mono fun a b q => q.kept y4)
            · intro _
              rcases y2 with ⟨w, rfl⟩ | w
              · exact hef w
              · cases e : h e' with
                | none => rfl
                | some d =>
                  by_cases z1 : e' = r
                  · rw [z1, H9.1] at w; cases w
                  · by_cases z2 : e' = fl
                    · rw [z2, hvl] at w; cases w
                    · rw [f09 _ _ e (by simp [z1, z2])] at w; cases w
            · omega
            · rw [hlen9]; omega
          · have hall : ¬ fs.all (fun q => !decide (sub t q.1 = sub t a)) = true := by
              intro z
              rw [List.length_map] at q2
              have := List.all_eq_true.mp z fs[kk] (List.getElem_mem q2)
              rw [List.getElem_map] at q3
              have q3' : sub t (fs[kk]).1 = sub t a := q3
              simp [q3'] at this
            refine xg hs3 (by rfl) ?_
            refine xfail H3 (scan bl t s) (by rw [n1]) rfl (by omega) (by omega) fun e h5 q => xP hP ?_
            exact ⟨((k1.tr k2).tr k3).tr (q.2.2.im1 H3.1 rfl), xRes.er (by rw [eR, eU, pB_ok e1, if_neg hall]) (q.tr f3' (fun _ z => absurd z List.not_mem_nil))⟩
      · have c1 := (bI_0 _).mp c
        have e2 : sFld t 6 i [] = .ok (fs, scan bl t s) := by rw [eR, sFld, if_pos c1]
        exact xP hP ⟨k1.tr k2, xRes.ok e2 H2 f2 ⟨rfl, ef, fas, L2, N2, hef⟩⟩
  refine xgo [2] 40 hA ?_
  exact key 6 0 i [] [] e0 _ _ h (by omega) rfl rfl E H (fr.refl _ _) (kp.refl _) L trivial (fun z => absurd rfl z) (Nat.le_refl _) (Nat.le_refl _)
