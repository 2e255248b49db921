/-! CONTRACTS, 17: steps -/
theorem scan_scan {p : Nat → Bool} {t : List Nat} (i : Nat) : scan p t (scan p t i) = scan p t i := scan_stop fun h => scan_end (Nat.le_refl _) h
/-- an array of a list that has something -/
theorem isL.mine {D : xD} {h : xH} {A e : Nat} {xs : List Nat} (H : isL D h A e xs) (hx : xs ≠ []) : D.sv 1 ≠ .ref e := by
  rcases H.2.2.2 with ⟨z, -⟩ | ⟨-, q, -⟩
  · have := capN_pos (List.length_pos_iff.mpr hx); omega
  · exact q
theorem isL.shared {D : xD} {h : xH} {A e : Nat} (H : isL D h A e []) : D.sv 1 = .ref e := by
  rcases H.2.2.2 with ⟨-, q, -⟩ | ⟨z, -⟩
  · exact q
  · exact absurd z (Nat.lt_irrefl _)
set_option maxRecDepth 20000 in
theorem c_addC {l : Launch} {D : xD} {h0 h : xH} {r b i A e x cx' : Nat} {fx : List Value} {xs t O : List Nat} (C : cx D h0 h r b t i O) (hA : A ∈ O) (he : xs ≠ [] → e ∈ O) (H : isL D h A e xs) (hx : h x = some (cx', fx)) (hok : xok4 cx' = true) (q3 : ∀ x ∈ xs, ∃ ci fs, h x = some (ci, fs) ∧ xok4 ci = true) (hn : xs.length < 2 ^ 18) : xMet l D 6 y_AL_add [.ref A, .ref x] h (amc (capN xs.length) xs.length) (gS (xs.length + 1) - gS xs.length) (fun o h' => ∃ e' O', cx D h0 h' r b t i O' ∧ fr [] (zz h0 O h) (zz h0 O' h') ∧ isL D h' A e' (xs ++ [x]) ∧ e' ∈ O' ∧ (e' = e ∨ h e' = none) ∧ (∀ q ∈ O, q ≠ e → q ∈ O') ∧ fr (A :: oL xs e) h h' ∧ kp h h' ∧ (∀ q k v, h q = some (k, v) → k ≠ 12 → k ≠ 104 → h' q = some (k, v)) ∧ o = .inl (some (.int 1))) := by
  refine (c_add C.2.1 H hx hok q3 hn).mono ?_
  rintro o h' ⟨⟨e', L, he'⟩, f, k, rfl⟩
  have hM : ∀ q ∈ A :: oL xs e, q = r ∨ q ∈ O := fun q hq => Or.inr (by
    rcases List.mem_cons.mp hq with z | z
    · rw [z]; exact hA
    · obtain ⟨z1, z2⟩ := oL_sub xs e z
      rw [z1]; exact he z2)
  obtain ⟨va, hAc⟩ := H.cell
  obtain ⟨vs, hvs⟩ := L.arr (by simp)
  have hf : ∀ q k v, h q = some (k, v) → k ≠ 12 → k ≠ 104 → h' q = some (k, v) := fun q k' v e1 k1 k2 => f _ _ e1 fun z => by
    rcases List.mem_cons.mp z with z | z
    · rw [z, hAc] at e1; cases e1; exact k1 rfl
    · obtain ⟨z1, z2⟩ := oL_sub xs e z
      obtain ⟨w, hw⟩ := H.arr z2
      rw [z1, hw] at e1; cases e1; exact k2 rfl
  have hr' : rdr h' r b t i (-1) := ⟨hf _ _ _ C.1.1 (by decide) (by decide), hf _ _ _ C.1.2.1 (by decide) (by decide), C.1.2.2⟩
  obtain ⟨c1, c2⟩ := C.go (O' := e' :: O.filter (fun q => decide (q ≠ e))) f hM hr' (fun q hq => by
    rcases List.mem_cons.mp hq with z | z
    · refine ⟨?_, _, z ▸ hvs, rfl⟩
      rcases he' with y | y
      · by_cases hxs : xs = []
        · subst hxs
          exact absurd (y ▸ H.shared) (L.mine (by simp))
        · exact Or.inl (by rw [z, y]; exact he hxs)
      · exact Or.inr (z ▸ y)
    · obtain ⟨z1, z2⟩ := List.mem_filter.mp z
      have z2' := of_decide_eq_true z2
      refine ⟨Or.inl z1, ?_⟩
      obtain ⟨c, y1, y2⟩ := (C.2.2.2.2 q z1).2
      by_cases w1 : q = A
      · obtain ⟨v, hv⟩ := L.cell
        exact ⟨_, w1 ▸ hv, rfl⟩
      · refine ⟨c, f _ _ y1 fun w => ?_, y2⟩
        rcases List.mem_cons.mp w with w | w
        · exact w1 w
        · exact z2' (oL_sub xs e w).1)
  exact ⟨e', _, c1, c2, L, List.mem_cons_self, he', fun q h1 h2 => List.mem_cons_of_mem _ (List.mem_filter.mpr ⟨h1, decide_eq_true h2⟩), f, k, hf, rfl⟩
theorem gS_small : ∀ n, n < 8 → gS (n + 1) - gS n ≤ 10 := by decide
theorem cx.imm {D : xD} {h0 h : xH} {r b i q : Nat} {t O : List Nat} {c : xC} (C : cx D h0 h r b t i O) (e : h q = some c) (hc : immK c.1 = true) : zz h0 [] h q = some c := by
  cases e0 : h0 q with
  | none => exact zz_new e0 (by simp) e
  | some c0 =>
    have hq : q ≠ r := fun z => by rw [z, C.1.1] at e; cases e; cases hc
    have := C.2.2.2.1.one e0 hq
    rw [e] at this; cases this
    exact zz_imm e0 hc (by simp) e
theorem cx.lst {D : xD} {h0 h : xH} {r b i A e : Nat} {t O xs : List Nat} (C : cx D h0 h r b t i O) (hA : A ∈ O) (he : xs ≠ [] → e ∈ O) (L : isL D h A e xs) : isL D (zz h0 [] h) A e xs := by
  obtain ⟨q1, q2, ⟨m, q3⟩, q4⟩ := L
  refine ⟨q1, q2, ⟨m, C.cell hA q3⟩, ?_⟩
  rcases q4 with ⟨z1, z2, z3⟩ | ⟨z1, z2, z3⟩
  · exact Or.inl ⟨z1, z2, C.imm z3 rfl⟩
  · refine Or.inr ⟨z1, z2, C.cell (he fun y => ?_) z3⟩
    subst y
    exact absurd z1 (Nat.lt_irrefl _)
/-- a list's array is no other thing -/
theorem isL.nearr {D : xD} {h : xH} {A e q k : Nat} {xs : List Nat} {v : List Value} (E : env D h) (L : isL D h A e xs) (hq : h q = some (k, v)) (h1 : k ≠ 104) (h2 : k ≠ 204) : q ≠ e := fun z => by
  by_cases hxs : xs = []
  · subst hxs
    obtain ⟨e0, g1, g2⟩ := E.2.1
    have := L.shared
    rw [← z, g1] at this
    cases this
    rw [hq] at g2; cases g2; exact h2 rfl
  · obtain ⟨w, hw⟩ := L.arr hxs
    rw [z, hw] at hq; cases hq; exact h1 rfl
/-- a list, while the reader alone changes -/
theorem cx.kl {D : xD} {h0 h h' : xH} {r b i A e : Nat} {t O xs : List Nat} (C : cx D h0 h r b t i O) (f : fr [r] h h') (hA : A ∈ O) (he : xs ≠ [] → e ∈ O) (L : isL D h A e xs) : isL D h' A e xs := L.frm f (f.im1 C.1.1 rfl) (by simpa using C.ner hA) (fun z => by simpa using C.ner (he z))
/-- a step -/
def isSt (D : xD) (B : Nat → Prop) (h : xH) (t : List Nat) (x : Nat) (s : ST) : Prop := ∃ (nv : Value) (cl e : Nat) (xs : List Nat), h x = some (7, [.int (cI s.2.1), nv, .ref cl]) ∧ opS B h nv (s.1.map (sub t)) ∧ isL D h cl e xs ∧ all2 (isCn B h t) xs s.2.2 ∧ s.2.2.length ≤ 4
theorem isSt.ext {D : xD} {B : Nat → Prop} {z z' : xH} {t : List Nat} {x : Nat} {s : ST} (H : isSt D B z t x s) (f : fr [] z z') : isSt D B z' t x s := by
  obtain ⟨nv, cl, e, xs, h1, h2, h3, h4, h5⟩ := H
  exact ⟨nv, cl, e, xs, f _ _ h1 (by simp), h2.ext f, h3.ext f, h4.mono fun a b q => q.ext f, h5⟩
theorem isSt.ok {D : xD} {B : Nat → Prop} {z : xH} {t : List Nat} {x : Nat} {s : ST} (H : isSt D B z t x s) : ∃ ci fs, z x = some (ci, fs) ∧ xok4 ci = true := by
  obtain ⟨nv, cl, e, xs, h1, -⟩ := H
  exact ⟨7, _, h1, rfl⟩
set_option maxRecDepth 20000 in
theorem c_Sp_init {l : Launch} {D : xD} {h0 h : xH} {r b i x : Nat} {k : Int32} {t O : List Nat} {v0 v1 v2 : Value} (C : cx D h0 h r b t i O) (hxO : x ∈ O) (hx : h x = some (7, [v0, v1, v2])) : xMet l D 4 y_Sp_init [.ref x, .int k] h 1 3 (fun o h' => ∃ cl e, cx D h0 h' r b t i (cl :: O) ∧ fr [] (zz h0 O h) (zz h0 (cl :: O) h') ∧ isL D h' cl e [] ∧ h' x = some (7, [.int k, .null, .ref cl]) ∧ o = .inl none) := by
  refine m_Sp_init (Nat.le_of_ble_eq_true rfl) fun X hl hD hP hA => ?_
  subst hl hD
  refine xgo [] 40 hA ?_
  refine xp hx rfl rfl ?_ -- 6 f7.1
  obtain ⟨C1, z1⟩ := C.put (c := (7, [v0, .null, v2])) hxO rfl
  refine xn (by omega) (by omega) fun a ha => ?_ -- 10
  obtain ⟨C2, z2⟩ := C1.new (c := (12, [.int 0, .null, .int 0])) ha rfl
  refine xcI (c_AL_init C2.2.1 (xset_same _ _ _)) (by rfl) (by rfl) (by rfl) (Nat.zero_le _) (Nat.zero_le _) ?_ -- 14
  rintro o h1 ⟨e, L, rfl, rfl⟩
  obtain ⟨C3, z3⟩ := C2.put (c := (12, [.int 0, .ref e, .int 0])) List.mem_cons_self rfl
  have hxa : x ≠ a := xnn (xset_same _ _ _) ha
  refine xp (fs' := [v0, .null, .ref a]) (xst2 hxa (xst2 hxa (xset_same _ _ _))) rfl rfl ?_ -- 17 f7.2
  obtain ⟨C4, z4⟩ := C3.put (c := (7, [v0, .null, .ref a])) (List.mem_cons_of_mem _ hxO) rfl
  refine xp (fs' := [.int k, .null, .ref a]) (xset_same _ _ _) rfl rfl ?_ -- 22 f7.0
  obtain ⟨C5, z5⟩ := C4.put (c := (7, [.int k, .null, .ref a])) (List.mem_cons_of_mem _ hxO) rfl
  refine xP hP ⟨a, e, C5, (((z1.tr z2).tr z3).tr z4).tr z5, ?_, xset_same _ _ _, rfl⟩
  rw [xset_set]
  exact isL.frm (M := [x]) L (fr.set _ _ _) ((kp.refl _).put (xst2 hxa (xst2 hxa (xset_same _ _ _))) rfl) (by simpa using Ne.symm hxa) (fun z => absurd rfl z)
theorem pConds_0 (t : List Nat) (i : Nat) (cs : List CN) (h : ¬ (ch t (scan bl t i) = 91 ∨ ch t (scan bl t i) = 58)) (n : Nat) : pConds t n i cs = .ok (cs, scan bl t i) := by
  cases n <;> rw [pConds, if_neg h]
set_option maxRecDepth 20000 in
theorem c_readFrom {B : Nat → Prop} {l : Launch} {D : xD} {h0 h : xH} {r b i x cl e lk : Nat} {t : List Nat} (C : cx D h0 h r b t i [cl, x]) (hx : h x = some (7, [.int (cI lk), .null, .ref cl])) (L : isL D h cl e []) (hBb : B b) : xMet l D 9 y_Sp_readFrom [.ref x, .ref r] h 26 180 (xRes r b t [] h0 (pStep t i lk) (fun s o h' => o = .inl none ∧ isSt D B (zz h0 [] h') t x s)) := by
  have hxO : x ∈ [cl, x] := by simp
  have hxr := C.ner hxO
  have hxcl : x ≠ cl := by
    obtain ⟨v, hv⟩ := L.cell
    exact xne' hx hv (by decide)
  refine m_Sp_readFrom (Nat.le_of_ble_eq_true rfl) fun X hl hD hP hA => ?_
  subst hl hD
  have key : ∀ (n : Nat) (k s e1 rc rs : Nat) (nm : Option (Nat × Nat)) (nv : Value) (cs : List CN) (xs O1 : List Nat) (h1 : xH), k + n = 4 → cs.length = k → pStep t i lk = (pB (pConds t n s cs) fun cs k => .ok ((nm, lk, cs), k)) → cx X.D h0 h1 r b t s O1 → cl ∈ O1 → x ∈ O1 → (xs ≠ [] → e1 ∈ O1) → h1 x = some (7, [.int (cI lk), nv, .ref cl]) → isL X.D h1 cl e1 xs → all2 (isCn B (zz h0 O1 h1) t) xs cs → opS B (zz h0 O1 h1) nv (nm.map (sub t)) → 6 * n + 1 ≤ rc → 40 * n + 6 ≤ rs → xG X 32 [(2, .int (nI k)), (0, .ref x), (1, .ref r)] [] h1 rc rs := by
    intro n
    induction n using Nat.strongRecOn with
    | ind n ih =>
      intro k s e1 rc rs nm nv cs xs O1 h1 hk hcs eR C1 m1 m2 m3 x1 L1 A1 N1 hrc hrs
      have hct : ch t (scan bl t s) ≤ 256 := C1.1.2.2.2.2.le _
      refine xgo [55, 54] 60 hA ?_
      refine xf (fun z => by have := (nI_ltI (a := 4) (b := k) (by omega) (by omega)).mp z; omega) ?_
      refine xcV C1.1.1 (c_sg C1) (by rfl) (by rfl) (by rfl) (Nat.zero_le _) (Nat.zero_le _) ?_ -- 38
      rintro o h2 ⟨C2, z2, f2, -, rfl⟩
      have x2 := f2.one x1 hxr
      have L2 : isL X.D h2 cl e1 xs := C1.kl f2 m1 m3 L1
      have more : (ch t (scan bl t s) = 91 ∨ ch t (scan bl t s) = 58) → xG X 55 [(3, .int (cI (ch t (scan bl t s)))), (2, .int (nI k)), (0, .ref x), (1, .ref r)] [] h2 rc rs := by
        intro c
        have hlt : scan bl t s < t.length := Nat.lt_of_not_le fun z => by rw [ch_out z] at c; omega
        match n, ih with
        | 0, ih =>
          have hk4 : k = 4 := by omega
          subst hk4
          refine xgo [] 60 hA ?_
          refine xfn (by rfl) ?_
          refine xg C2.1.1 (by rfl) ?_
          refine xfail C2.1 (scan bl t s) (by rfl) rfl (by omega) (by omega) fun e h1 q => xP hP (xRes.er (by rw [eR, pConds, if_pos c]; rfl) (q.tr C2.2.2.2.1 (fun _ z => absurd z List.not_mem_nil)))
        | n + 1, ih =>
          have eR2 : pStep t i lk = (pB (pCond t (scan bl t s)) fun c j => pB (pConds t n j (cs ++ [c])) fun cs k => .ok ((nm, lk, cs), k)) := by
            rw [eR, pConds, if_pos c]
            cases pCond t (scan bl t s) <;> rfl
          refine xgo [108] 60 hA ?_
          refine xtn (fun z => by have := (nI_eq (a := k) (b := 4) (by omega) (by omega)).mp z; omega) ?_
          refine xg C2.1.1 (by rfl) ?_ -- 70 f1.1
          refine xp (fs' := [.ref b, .int (nI (scan bl t s) + 1), .int (-1)]) C2.1.1 rfl rfl ?_ -- 75 f1.1
          rw [nI_1]
          obtain ⟨C3, z3⟩ := C2.mv (j := scan bl t s + 1) hlt
          have f3 : fr [r] h2 (xset h2 r (rdc b (scan bl t s + 1) (-1))) := fr.set _ _ _
          have x3 := f3.one x2 hxr
          have L3 : isL X.D (xset h2 r (rdc b (scan bl t s + 1) (-1))) cl e1 xs := C2.kl f3 m1 m3 L2
          obtain ⟨h3, hh3⟩ : ∃ h3, h3 = xset h2 r (rdc b (scan bl t s + 1) (-1)) := ⟨_, rfl⟩
          rw [← hh3] at C3 z3 f3 x3 L3 ⊢
          refine xn (by omega) (by omega) fun y hy => ?_ -- 78
          refine xcI (c_Co_init (xset_same _ _ _)) (by rfl) (by rfl) (by rfl) (Nat.zero_le _) (Nat.zero_le _) ?_ -- 82
          rintro o h4 ⟨rfl, rfl⟩
          rw [xset_set]
          obtain ⟨K4, -⟩ := C3.kid.new (c := (6, [.int 0, .null, .null, .int 0])) hy rfl
          have aft : ∀ (o : xO) (h5 : xH), xRes r b t [] h3 (pCond t (scan bl t s)) (fun c o h' => o = .inl none ∧ isCn B (zz h3 [] h') t y c) o h5 → (o = .inl none → xG X 108 [(4, .ref y), (3, .int (cI (ch t (scan bl t s)))), (2, .int (nI k)), (0, .ref x), (1, .ref r)] [] h5 (rc - 1 - 4) (rs - 4 - 24)) ∧ (∀ ex, o = .inr (16, ex) → X.P (.inr (16, ex)) h5) := by
            intro o h5 q
            rcases C3.cs q with ⟨w, e2, z⟩ | ⟨cc, j, e2, C5, z5, f5, rfl, I5⟩
            · refine ⟨fun z1 => ?_, fun ex he => ?_⟩
              · obtain ⟨ex, z2⟩ := z.1
                rw [z1] at z2; cases z2
              · subst he
                exact xP hP (xRes.er (by rw [eR2, pB_er e2]) z)
            · refine ⟨fun _ => ?_, fun ex he => by cases he⟩
              have x5 := f5.one x3 hxr
              have L5 : isL X.D h5 cl e1 xs := C3.kl f5 m1 m3 L3
              have zt := (z2.tr z3).tr z5
              have A5 := A1.mono fun a b q => q.ext zt
              have I5' := I5.ext C3.up
              obtain ⟨ciy, fsy, hy5, hyo⟩ := I5'.ok
              have hxl := A1.len
              refine xgo [32] 60 hA ?_
              refine xg x5 (by rfl) ?_ -- 109 f7.2
              have hgs := gS_small xs.length (by omega)
              have ham := amc_le (capN xs.length) xs.length
              obtain ⟨cv, hcl⟩ := L5.cell
              refine xcV hcl (c_addC C5 m1 m3 L5 ((zz_some hy5).1) hyo (fun a ha => by
                obtain ⟨cb, -, q⟩ := A5.mem a ha
                obtain ⟨c1, c2, c3, c4⟩ := q.ok
                exact ⟨c1, c2, (zz_some c3).1, c4⟩) (by omega)) (by rfl) (by rfl) (by rfl) (by omega) (by omega) ?_ -- 114
              rintro o h6 ⟨e6, O6, C6, z6, L6, me6, -, mO, f6, k6, hf6, rfl⟩
              have x6 := hf6 _ _ _ x5 (by decide) (by decide)
              have ne1 : cl ∈ O6 := mO cl m1 (L5.nearr C5.2.1 hcl (by decide) (by decide))
              have ne2 : x ∈ O6 := mO x m2 (L5.nearr C5.2.1 x5 (by decide) (by decide))
              have A6 := all2.snoc (I5'.ext z6) (A5.mono fun a b q => q.ext z6)
              have := ih n (Nat.lt_succ_self n) (k + 1) j e6 (rc - 1 - 4 - amc (capN xs.length) xs.length) (rs - 4 - 24 - (gS (xs.length + 1) - gS xs.length)) nm nv (cs ++ [cc]) (xs ++ [y]) O6 h6 (by omega) (by simp; omega) (by rw [eR2, pB_ok e2]) C6 ne1 ne2 (fun _ => me6) x6 L6 A6 ((N1.ext zt).ext z6) (by omega) (by omega)
              rw [← nI_1] at this
              exact this.locs (by simp)
          refine xb (fun c' => ?_) (fun c' => ?_) -- 90 o_icne 102 93
          · have hc : ¬ ch t (scan bl t s) = 91 := fun z => c' (by rw [z]; rfl)
            refine xcV (xset_same _ _ _) (c_readColon K4 (xset_same _ _ _) hBb) (by rfl) (by rfl) (by rfl) (by omega) (by omega) ?_ -- 105
            intro o h5 q
            have e0 : pCond t (scan bl t s) = pCo t (scan bl t s + 1) := by rw [pCond, if_neg hc]
            rw [← e0] at q
            have q' := aft o h5 q
            rcases q.cs with ⟨w, e2, z⟩ | ⟨cc, j, e2, H5, f5, rfl, I5⟩
            · obtain ⟨ex, rfl⟩ := z.1
              exact q'.2 ex rfl
            · exact q'.1 rfl
          · have hc : ch t (scan bl t s) = 91 := (cI_lit hct (by decide)).mp c'
            refine xcV (xset_same _ _ _) (c_bracket K4 (xset_same _ _ _) hBb) (by rfl) (by rfl) (by rfl) (by omega) (by omega) ?_
            intro o h5 q
            have e0 : pCond t (scan bl t s) = pBr t (scan bl t s + 1) := by rw [pCond, if_pos hc]
            rw [← e0] at q
            have q' := aft o h5 q
            rcases q.cs with ⟨w, e2, z⟩ | ⟨cc, j, e2, H5, f5, rfl, I5⟩
            · obtain ⟨ex, rfl⟩ := z.1
              exact q'.2 ex rfl
            · exact q'.1 rfl
      refine xb (fun c => ?_) (fun c => ?_) -- 45 o_iceq 55 48
      · exact more (Or.inl ((cI_lit hct (by decide)).mp c))
      · refine xb (fun c' => ?_) (fun c' => ?_)
        · exact more (Or.inr ((cI_lit hct (by decide)).mp c'))
        · have hn : ¬ (ch t (scan bl t s) = 91 ∨ ch t (scan bl t s) = 58) := by
            rintro (z | z)
            · exact c (by rw [z]; rfl)
            · exact c' (by rw [z]; rfl)
          refine xgo [] 60 hA ?_
          have zt := z2.tr C2.all
          refine xP hP (xRes.ok (by rw [eR, pConds_0 t s cs hn n]; rfl) C2.1 C2.2.2.2.1 ⟨rfl, nv, cl, e1, xs, C2.cell m2 x2, N1.ext zt, ?_, A1.mono fun a b q => q.ext zt, by show cs.length ≤ 4; omega⟩)
          exact C2.lst m1 m3 L2
  have hct : ch t (scan bl t i) ≤ 256 := C.1.2.2.2.2.le _
  refine xgo [32] 60 hA ?_
  refine xcV C.1.1 (c_sg C) (by rfl) (by rfl) (by rfl) (Nat.zero_le _) (Nat.zero_le _) ?_ -- 1
  rintro o h1 ⟨C1, z1, f1, -, rfl⟩
  have x1 := f1.one hx hxr
  have m1 : cl ∈ [cl, x] := by simp
  have L1 := C.kl f1 m1 (fun z => absurd rfl z) L
  refine xb (fun c => ?_) (fun c => ?_) -- 6 o_icne 22 9
  · have c1 : ¬ ch t (scan bl t i) = 42 := fun z => c (by rw [z]; rfl)
    refine xcV C1.1.1 (c_readName C1.1) (by rfl) (by rfl) (by rfl) (by omega) (by omega) ?_ -- 24
    intro o h2 q
    rcases C1.cs q with ⟨w, e1, z⟩ | ⟨a, j, e1, C2, z2, f2, s, rfl, hsn, hs2⟩
    · obtain ⟨ex, rfl⟩ := z.1
      exact xP hP (xRes.er (by rw [pStep, pHead, if_neg c1, pB_er e1]; rfl) z)
    have x2 := f2.one x1 hxr
    obtain ⟨n1, n2, n3, n4, n5, n6, -⟩ := pName_sub e1
    have S2 := C2.slc (B := B) hs2 (C1.non hsn) (by omega) hBb
    have L2 := C1.kl f2 m1 (fun z => absurd rfl z) L1
    refine xp (fs' := [.int (cI lk), .ref s, .ref cl]) x2 rfl rfl ?_ -- 27 f7.1
    obtain ⟨C3, z3⟩ := C2.put (c := (7, [.int (cI lk), .ref s, .ref cl])) hxO rfl
    have L3 : isL X.D (xset h2 x (7, [.int (cI lk), .ref s, .ref cl])) cl e [] := isL.frm (M := [x]) L2 (fr.set _ _ _) ((kp.refl _).put x2 rfl) (by simpa using Ne.symm hxcl) (fun z => absurd rfl z)
    exact key 4 0 j e _ _ (some a) (.ref s) [] [] _ _ rfl rfl (by rw [pStep, pHead, if_neg c1, pB_ok e1]; rfl) C3 m1 hxO (fun z => absurd rfl z) (xset_same _ _ _) L3 trivial ⟨s, rfl, S2.ext z3⟩ (by omega) (by omega)
  · have c1 : ch t (scan bl t i) = 42 := (cI_lit hct (by decide)).mp c
    have hlt := ch_lt c1 (by decide)
    refine xg C1.1.1 (by rfl) ?_ -- 11 f1.1
    refine xp (fs' := [.ref b, .int (nI (scan bl t i) + 1), .int (-1)]) C1.1.1 rfl rfl ?_ -- 16 f1.1
    rw [nI_1]
    obtain ⟨C2, z2⟩ := C1.mv (j := scan bl t i + 1) hlt
    exact key 4 0 (scan bl t i + 1) e _ _ none .null [] [] _ _ rfl rfl (by rw [pStep, pHead, if_pos c1]; rfl) C2 m1 hxO (fun z => absurd rfl z) ((fr.set _ _ _).one x1 hxr) (C1.kl (fr.set _ _ _) m1 (fun z => absurd rfl z) L1) trivial rfl (by omega) (by omega)
