/-! CONTRACTS, 18: selectors -/
set_option maxRecDepth 20000 in
theorem c_ownWeight {B : Nat → Prop} {l : Launch} {D : xD} {h : xH} {x : Nat} {t : List Nat} {s : ST} (H : isSt D B h t x s) : xMet l D 1 y_Sp_ownWeight [.ref x] h 0 0 (fun o h' => h' = h ∧ o = .inl (some (.int (nI (wSt s))))) := by
  obtain ⟨nv, cl, e, xs, h1, h2, h3, h4, h5⟩ := H
  obtain ⟨cv, hcl⟩ := h3.cell
  have hl := h4.len
  have fin : ∀ k : Nat, k ≤ 1 → nI k + nI 100 * nI xs.length = nI (k + 100 * s.2.2.length) := by
    intro k hk
    rw [nI_mul, nI_add, hl]
  refine m_Sp_ownWeight (Nat.le_of_ble_eq_true rfl) fun X hl hD hP hA => ?_
  subst hl hD
  unfold wSt at hP
  cases hn : s.1 with
  | none =>
    rw [hn] at h2 hP
    have h2' : nv = .null := h2
    subst h2'
    refine xgo [] 60 hA ?_
    refine xg h1 (by rfl) ?_
    refine xg h1 (by rfl) ?_
    refine xcV hcl (c_AL_size h3) (by rfl) (by rfl) (by rfl) (Nat.zero_le _) (Nat.zero_le _) ?_
    rintro o h' ⟨rfl, rfl⟩
    exact xP hP ⟨rfl, by show Sum.inl (some (Value.int (nI 0 + nI 100 * nI xs.length))) = _; rw [fin 0 (by omega)]; rfl⟩
  | some a =>
    rw [hn] at h2 hP
    obtain ⟨s1, rfl, -⟩ := h2
    refine xgo [] 60 hA ?_
    refine xg h1 (by rfl) ?_
    refine xg h1 (by rfl) ?_
    refine xcV hcl (c_AL_size h3) (by rfl) (by rfl) (by rfl) (Nat.zero_le _) (Nat.zero_le _) ?_
    rintro o h' ⟨rfl, rfl⟩
    exact xP hP ⟨rfl, by show Sum.inl (some (Value.int (nI 1 + nI 100 * nI xs.length))) = _; rw [fin 1 (by omega)]; rfl⟩
/-- a selector -/
def isSl (D : xD) (B : Nat → Prop) (h : xH) (t : List Nat) (x : Nat) (l : List ST) : Prop := ∃ (sl e : Nat) (xs : List Nat), h x = some (8, [.ref sl, .int (nI (wgt l))]) ∧ isL D h sl e xs ∧ all2 (isSt D B h t) xs l ∧ l.length ≤ 8 ∧ l ≠ []
theorem isSl.ext {D : xD} {B : Nat → Prop} {z z' : xH} {t : List Nat} {x : Nat} {s : List ST} (H : isSl D B z t x s) (f : fr [] z z') : isSl D B z' t x s := by
  obtain ⟨cl, e, xs, h1, h3, h4, h5⟩ := H
  exact ⟨cl, e, xs, f _ _ h1 (by simp), h3.ext f, h4.mono fun a b q => q.ext f, h5⟩
theorem isSl.ok {D : xD} {B : Nat → Prop} {z : xH} {t : List Nat} {x : Nat} {s : List ST} (H : isSl D B z t x s) : ∃ ci fs, z x = some (ci, fs) ∧ xok4 ci = true := by
  obtain ⟨cl, e, xs, h1, -⟩ := H
  exact ⟨8, _, h1, rfl⟩
set_option maxRecDepth 20000 in
theorem c_Se_init {l : Launch} {D : xD} {h0 h : xH} {r b i x : Nat} {t O : List Nat} {v0 v1 : Value} (C : cx D h0 h r b t i O) (hxO : x ∈ O) (hx : h x = some (8, [v0, v1])) : xMet l D 4 y_Se_init [.ref x] h 1 3 (fun o h' => ∃ cl e, cx D h0 h' r b t i (cl :: O) ∧ fr [] (zz h0 O h) (zz h0 (cl :: O) h') ∧ isL D h' cl e [] ∧ h' x = some (8, [.ref cl, .int 0]) ∧ o = .inl none) := by
  refine m_Se_init (Nat.le_of_ble_eq_true rfl) fun X hl hD hP hA => ?_
  subst hl hD
  refine xgo [] 40 hA ?_
  refine xn (by omega) (by omega) fun a ha => ?_ -- 5
  obtain ⟨C2, z2⟩ := C.new (c := (12, [.int 0, .null, .int 0])) ha rfl
  refine xcI (c_AL_init C2.2.1 (xset_same _ _ _)) (by rfl) (by rfl) (by rfl) (Nat.zero_le _) (Nat.zero_le _) ?_ -- 9
  rintro o h1 ⟨e, L, rfl, rfl⟩
  obtain ⟨C3, z3⟩ := C2.put (c := (12, [.int 0, .ref e, .int 0])) List.mem_cons_self rfl
  have hxa : x ≠ a := xnn hx ha
  refine xp (fs' := [.ref a, v1]) (xst2 hxa (xst2 hxa hx)) rfl rfl ?_ -- 12
  obtain ⟨C4, z4⟩ := C3.put (c := (8, [.ref a, v1])) (List.mem_cons_of_mem _ hxO) rfl
  refine xp (fs' := [.ref a, .int 0]) (xset_same _ _ _) rfl rfl ?_ -- 17
  obtain ⟨C5, z5⟩ := C4.put (c := (8, [.ref a, .int 0])) (List.mem_cons_of_mem _ hxO) rfl
  refine xP hP ⟨a, e, C5, ((z2.tr z3).tr z4).tr z5, ?_, xset_same _ _ _, rfl⟩
  rw [xset_set]
  exact isL.frm (M := [x]) L (fr.set _ _ _) ((kp.refl _).put (xst2 hxa (xst2 hxa hx)) rfl) (by simpa using Ne.symm hxa) (fun z => absurd rfl z)
theorem wgt_snoc (l : List ST) (s : ST) : wgt (l ++ [s]) = wgt l + wSt s := by simp [wgt]
theorem pSteps_er {t : List Nat} {n s lk w : Nat} {ss : List ST} (h : pStep t s lk = .error w) : pSteps t (n + 1) s lk ss = .error w := by rw [pSteps, pB_er h]
set_option maxRecDepth 20000 in
theorem c_readSteps {B : Nat → Prop} {l : Launch} {D : xD} {h0 h : xH} {r b i x sl e : Nat} {t : List Nat} (C : cx D h0 h r b t i [sl, x]) (hx : h x = some (8, [.ref sl, .int 0])) (L : isL D h sl e []) (hBb : B b) : xMet l D 10 y_Se_readSteps [.ref x, .ref r] h (cst 32 64 t.length i (pSel t i)) (cst 200 400 t.length i (pSel t i)) (xRes r b t [] h0 (pSel t i) (fun s o h' => o = .inl none ∧ isSl D B (zz h0 [] h') t x s)) := by
  have hxO : x ∈ [sl, x] := by simp
  have hxr := C.ner hxO
  have hxsl : x ≠ sl := by
    obtain ⟨v, hv⟩ := L.cell
    exact xne' hx hv (by decide)
  refine m_Se_readSteps (Nat.le_of_ble_eq_true rfl) fun X hl hD hP hA => ?_
  subst hl hD
  have key : ∀ (n : Nat) (k s lk e1 rc rs : Nat) (ss : List ST) (xs O1 : List Nat) (h1 : xH), k + n = 8 → ss.length = k → pSel t i = pSteps t n s lk ss → cx X.D h0 h1 r b t s O1 → sl ∈ O1 → x ∈ O1 → (xs ≠ [] → e1 ∈ O1) → h1 x = some (8, [.ref sl, .int (nI (wgt ss))]) → isL X.D h1 sl e1 xs → all2 (isSt X.D B (zz h0 O1 h1) t) xs ss → cst 32 64 t.length s (pSteps t n s lk ss) ≤ rc → cst 200 400 t.length s (pSteps t n s lk ss) ≤ rs → xG X 4 [(3, .int (nI k)), (2, .int (cI lk)), (0, .ref x), (1, .ref r)] [] h1 rc rs := by
    intro n
    induction n with
    | zero =>
      intro k s lk e1 rc rs ss xs O1 h1 hk hcs eR C1 m1 m2 m3 x1 L1 A1 hrc hrs
      have hk4 : k = 8 := by omega
      subst hk4
      rw [pSteps, cst_er (w := scan bl t s) rfl] at hrc hrs
      refine xgo [] 60 hA ?_
      refine xf (by decide) ?_
      refine xcV C1.1.1 (c_sg C1) (by rfl) (by rfl) (by rfl) (Nat.zero_le _) (Nat.zero_le _) ?_
      rintro o h2 ⟨C2, z2, f2, -, rfl⟩
      refine xfn (by rfl) ?_
      refine xg C2.1.1 (by rfl) ?_
      refine xfail C2.1 (scan bl t s) (by rfl) rfl (by omega) (by omega) fun e h1 q => xP hP (xRes.er (by rw [eR, pSteps]) (q.tr C2.2.2.2.1 (fun _ z => absurd z List.not_mem_nil)))
    | succ n ih =>
      intro k s lk e1 rc rs ss xs O1 h1 hk hcs eR C1 m1 m2 m3 x1 L1 A1 hrc hrs
      have hc : 32 * 1 ≤ cst 32 64 t.length s (pSteps t (n + 1) s lk ss) := cst_ge (pSteps_adv t _ _ _ _) (by decide)
      have hs : 200 * 1 ≤ cst 200 400 t.length s (pSteps t (n + 1) s lk ss) := cst_ge (pSteps_adv t _ _ _ _) (by decide)
      refine xgo [93, 92] 80 hA ?_
      refine xf (fun z => by have := (nI_ltI (a := 8) (b := k) (by omega) (by omega)).mp z; omega) ?_
      refine xcV C1.1.1 (c_sg C1) (by rfl) (by rfl) (by rfl) (Nat.zero_le _) (Nat.zero_le _) ?_ -- 11
      rintro o h2 ⟨C2, z2, f2, -, rfl⟩
      have x2 := f2.one x1 hxr
      have L2 := C1.kl f2 m1 m3 L1
      refine xtn (fun z => by have := (nI_eq (a := k) (b := 8) (by omega) (by omega)).mp z; omega) ?_
      refine xn (by omega) (by omega) fun y hy => ?_ -- 29
      obtain ⟨K3, -⟩ := C2.kid.new (c := (7, [.int 0, .null, .null])) hy rfl
      refine xcI (c_Sp_init K3 (by simp) (xset_same _ _ _)) (by rfl) (by rfl) (by rfl) (by omega) (by omega) ?_ -- 34
      rintro o h4 ⟨cl, ec, K4, -, Lc, y4, rfl⟩
      refine xcV y4 (c_readFrom K4 y4 Lc hBb) (by rfl) (by rfl) (by rfl) (by omega) (by omega) ?_ -- 42
      intro o h5 q
      have e0 : pStep t (scan bl t s) lk = pStep t s lk := by rw [pStep, pStep, scan_scan]
      rw [e0] at q
      rcases C2.cs q with ⟨w, e2, z⟩ | ⟨st, j, e2, C5, z5, f5, rfl, I5⟩
      · obtain ⟨ex, rfl⟩ := z.1
        exact xP hP (xRes.er (by rw [eR, pSteps_er e2]) z)
      have x5 := f5.one x2 hxr
      have L5 := C2.kl f5 m1 m3 L2
      have zt := z2.tr z5
      have A5 := A1.mono fun a b q => q.ext zt
      have I5' := I5.ext C2.up
      obtain ⟨ciy, fsy, hy5, hyo⟩ := I5'.ok
      have hxl := A1.len
      refine xg x5 (by rfl) ?_ -- 46 f8.0
      have hgs := gS_small xs.length (by omega)
      have ham := amc_le (capN xs.length) xs.length
      obtain ⟨cv, hcl⟩ := L5.cell
      refine xcV hcl (c_addC C5 m1 m3 L5 ((zz_some hy5).1) hyo (fun a ha => by
        obtain ⟨cb, -, q⟩ := A5.mem a ha
        obtain ⟨c1, c2, c3, c4⟩ := q.ok
        exact ⟨c1, c2, (zz_some c3).1, c4⟩) (by omega)) (by rfl) (by rfl) (by rfl) (by omega) (by omega) ?_ -- 51
      rintro o h6 ⟨e6, O6, C6, z6, L6, me6, -, mO, f6, k6, hf6, rfl⟩
      have x6 := hf6 _ _ _ x5 (by decide) (by decide)
      have ne1 : sl ∈ O6 := mO sl m1 (L5.nearr C5.2.1 hcl (by decide) (by decide))
      have ne2 : x ∈ O6 := mO x m2 (L5.nearr C5.2.1 x5 (by decide) (by decide))
      have A6 := all2.snoc (I5'.ext z6) (A5.mono fun a b q => q.ext z6)
      have I6 : isSt X.D B h6 t y st := (I5'.ext z6).ext (zz_le _ _ _)
      refine xg x6 (by rfl) ?_ -- 57 f8.1
      obtain ⟨_, _, _, _, y6, -⟩ := id I6
      refine xcV y6 (c_ownWeight I6) (by rfl) (by rfl) (by rfl) (Nat.zero_le _) (Nat.zero_le _) ?_ -- 62
      rintro o h7 ⟨rfl, rfl⟩
      refine xp (fs' := [.ref sl, .int (nI (wgt ss) + nI (wSt st))]) x6 rfl rfl ?_ -- 66 f8.1
      rw [nI_add, ← wgt_snoc]
      obtain ⟨C7, z7⟩ := C6.put (c := (8, [.ref sl, .int (nI (wgt (ss ++ [st])))])) ne2 rfl
      have L7 : isL X.D (xset h7 x (8, [.ref sl, .int (nI (wgt (ss ++ [st])))])) sl e6 (xs ++ [y]) := by
        refine isL.frm (M := [x]) L6 (fr.set _ _ _) ((kp.refl _).put x6 rfl) (by simpa using Ne.symm hxsl) (fun z w => ?_)
        obtain ⟨v, hv⟩ := L6.arr z
        rw [List.mem_singleton.mp w, x6] at hv; cases hv
      have x7 : xset h7 x (8, [.ref sl, .int (nI (wgt (ss ++ [st])))]) x = _ := xset_same _ _ _
      have A7 := A6.mono fun a b q => q.ext z7
      obtain ⟨h8, hh8⟩ : ∃ h8, h8 = xset h7 x (8, [.ref sl, .int (nI (wgt (ss ++ [st])))]) := ⟨_, rfl⟩
      rw [← hh8] at C7 L7 x7 A7 ⊢
      refine xcV C7.1.1 (c_sg C7) (by rfl) (by rfl) (by rfl) (Nat.zero_le _) (Nat.zero_le _) ?_ -- 70
      rintro o h9 ⟨C9, z9, f9, -, rfl⟩
      have x9 := f9.one x7 hxr
      have L9 := C7.kl f9 ne1 (fun _ => me6) L7
      have A9 := A7.mono fun a b q => q.ext z9
      have hct : ch t (scan bl t j) ≤ 256 := C7.1.2.2.2.2.le _
      have hj := pStep_adv t s lk st j e2
      have hj2 := scan_ge bl t j
      have more : isLk (ch t (scan bl t j)) = true → ∀ rc' rs', rc - 29 ≤ rc' → rs - 196 ≤ rs' → xG X 93 [(2, .int (cI (ch t (scan bl t j)))), (4, .ref y), (3, .int (nI k)), (0, .ref x), (1, .ref r)] [] h9 rc' rs' := by
        intro hl rc' rs' hrc' hrs'
        have hlt := isLk_lt hl
        have eR2 : pSteps t (n + 1) s lk ss = pSteps t n (scan bl t j + 1) (ch t (scan bl t j)) (ss ++ [st]) := by rw [pSteps, pB_ok e2, if_pos hl]
        rw [eR2] at hrc hrs
        have a2 := pSteps_adv t n (scan bl t j + 1) (ch t (scan bl t j)) (ss ++ [st])
        rw [cst_shift (i := s) (j := scan bl t j + 1) (by omega) hlt (a2.weak (by decide))] at hrc hrs
        refine xgo [4] 60 hA ?_
        refine xg C9.1.1 (by rfl) ?_
        refine xp (fs' := [.ref b, .int (nI (scan bl t j) + 1), .int (-1)]) C9.1.1 rfl rfl ?_
        rw [nI_1]
        obtain ⟨Ca, za⟩ := C9.mv (j := scan bl t j + 1) hlt
        have := ih (k + 1) (scan bl t j + 1) (ch t (scan bl t j)) e6 rc' rs' (ss ++ [st]) (xs ++ [y]) O6 _ (by omega) (by simp; omega) (by rw [eR, eR2]) Ca ne1 ne2 (fun _ => me6) ((fr.set _ _ _).one x9 hxr) (C9.kl (fr.set _ _ _) ne1 (fun _ => me6) L9) (A9.mono fun a b q => q.ext za) (by omega) (by omega)
        rw [← nI_1] at this
        exact this.locs (by simp)
      refine xb (fun c => ?_) (fun c => ?_) -- 77 o_iceq 93 80
      · exact more (by rw [(cI_lit (k := 62) hct (by decide)).mp c]; rfl) _ _ (by omega) (by omega)
      refine xb (fun c2 => ?_) (fun c2 => ?_)
      · exact more (by rw [(cI_lit (k := 47) hct (by decide)).mp c2]; rfl) _ _ (by omega) (by omega)
      refine xb (fun c3 => ?_) (fun c3 => ?_)
      · exact more (by rw [(cI_lit (k := 43) hct (by decide)).mp c3]; rfl) _ _ (by omega) (by omega)
      · have hn : ¬ isLk (ch t (scan bl t j)) = true := by
          intro z
          unfold isLk at z
          rw [Bool.or_eq_true, Bool.or_eq_true, beq_iff_eq, beq_iff_eq, beq_iff_eq] at z
          rcases z with (z | z) | z
          · exact c (by rw [z]; rfl)
          · exact c2 (by rw [z]; rfl)
          · exact c3 (by rw [z]; rfl)
        refine xgo [] 60 hA ?_
        refine xP hP (xRes.ok (by rw [eR, pSteps, pB_ok e2, if_neg hn]) C9.1 C9.2.2.2.1 ⟨rfl, sl, e6, xs ++ [y], C9.cell ne2 x9, C9.lst ne1 (fun _ => me6) L9, A9.mono fun a b q => q.ext C9.all, by simp; omega, by simp⟩)
  refine xgo [4] 60 hA ?_
  exact key 8 0 i 256 e _ _ [] [] _ h rfl rfl rfl C (by simp) hxO (fun z => absurd rfl z) hx L trivial (Nat.le_refl _) (Nat.le_refl _)
