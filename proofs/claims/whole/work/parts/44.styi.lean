/-! CONTRACTS, 23: bodies; new rules, new styles -/
theorem cx.immO {D : xD} {h0 h : xH} {r b i q : Nat} {t O : List Nat} {c : xC} (C : cx D h0 h r b t i O) (e : h q = some c) (hc : immK c.1 = true) : zz h0 O h q = some c := by
  have hq : q ∉ O := fun z => by
    obtain ⟨c', y1, y2⟩ := (C.2.2.2.2 q z).2
    rw [e] at y1; cases y1; rw [hc] at y2; cases y2
  cases e0 : h0 q with
  | none => exact zz_new e0 hq e
  | some c0 =>
    have hr : q ≠ r := fun z => by rw [z, C.1.1] at e; cases e; cases hc
    have := C.2.2.2.1.one e0 hr
    rw [e] at this; cases this
    exact zz_imm e0 hc hq e
theorem cx.lstN {D : xD} {h0 h : xH} {r b i A e : Nat} {t O xs : List Nat} (C : cx D h0 h r b t i O) (L : isL D h A e xs) (hA0 : h0 A = none) (hA : A ∉ O) (he : xs ≠ [] → h0 e = none ∧ e ∉ O) : isL D (zz h0 O h) A e xs := by
  obtain ⟨q1, q2, ⟨m, q3⟩, q4⟩ := L
  refine ⟨q1, q2, ⟨m, zz_new hA0 hA q3⟩, ?_⟩
  rcases q4 with ⟨z1, z2, z3⟩ | ⟨z1, z2, z3⟩
  · exact Or.inl ⟨z1, z2, C.immO z3 rfl⟩
  · have := he fun y => by
      subst y
      exact absurd z1 (Nat.lt_irrefl _)
    exact Or.inr ⟨z1, z2, zz_new this.1 this.2 z3⟩
/-- a style between rules -/
def sY (D : xD) (B : Nat → Prop) (h0 h : xH) (r b : Nat) (t : List Nat) (i : Nat) (O : List Nat) (sy : Nat) (G : Nat → LG) (rs : List RU) (ss : List (List ST)) (ns : List (Nat × Nat)) (tc : Nat) : Prop :=
  cx D h0 h r b t i O ∧ lst D h O 3 G ∧ (sy ∈ O ∧ h sy = some (11, [.ref (G 0).1, .ref (G 1).1, .ref (G 2).1, .int (nI tc)])) ∧ all2 (fun x p => isRu D B (zz h0 O h) t x p.1 p.2) (G 0).2.2 (idx 0 rs) ∧ all2 (isSl D B (zz h0 O h) t) (G 1).2.2 ss ∧ all2 (fun x a => isS B (zz h0 O h) x (sub t a)) (G 2).2.2 ns
/-- what the style alone owns -/
def own3 (sy : Nat) (G : Nat → LG) : List Nat := [sy, (G 0).1, (G 1).1, (G 2).1] ++ oL (G 0).2.2 (G 0).2.1 ++ oL (G 1).2.2 (G 1).2.1 ++ oL (G 2).2.2 (G 2).2.1
theorem own3_cs {sy : Nat} {G : Nat → LG} {q : Nat} (h : q ∈ own3 sy G) : q = sy ∨ ∃ k, k < 3 ∧ (q = (G k).1 ∨ (q = (G k).2.1 ∧ (G k).2.2 ≠ [])) := by
  simp only [own3, List.mem_append, List.mem_cons, List.not_mem_nil, or_false] at h
  rcases h with (((h | h | h | h) | h) | h) | h
  · exact Or.inl h
  · exact Or.inr ⟨0, by decide, Or.inl h⟩
  · exact Or.inr ⟨1, by decide, Or.inl h⟩
  · exact Or.inr ⟨2, by decide, Or.inl h⟩
  · exact Or.inr ⟨0, by decide, Or.inr (oL_sub _ _ h)⟩
  · exact Or.inr ⟨1, by decide, Or.inr (oL_sub _ _ h)⟩
  · exact Or.inr ⟨2, by decide, Or.inr (oL_sub _ _ h)⟩
theorem own3_A {sy : Nat} {G : Nat → LG} {k : Nat} (hk : k < 3) : (G k).1 ∈ own3 sy G := by
  match k, hk with
  | 0, _ => simp [own3]
  | 1, _ => simp [own3]
  | 2, _ => simp [own3]
theorem own3_E {sy : Nat} {G : Nat → LG} {k : Nat} (hk : k < 3) (hx : (G k).2.2 ≠ []) : (G k).2.1 ∈ own3 sy G := by
  match k, hk, hx with
  | 0, _, hx => simp [own3, oL_cons hx]
  | 1, _, hx => simp [own3, oL_cons hx]
  | 2, _, hx => simp [own3, oL_cons hx]
/-- the rule is through -/
theorem sX.fin {D : xD} {B : Nat → Prop} {h0 h : xH} {r b i sy ru tc : Nat} {t O : List Nat} {G : Nat → LG} {rs : List RU} {ss : List (List ST)} {ns : List (Nat × Nat)} {ls : List (List ST)} {ds : List TD} (X : sX D B h0 h r b t i O sy ru G rs ss ns ls ds tc) : sY D B h0 h r b t i (own3 sy G) sy G rs ss ns tc ∧ isRu D B (zz h0 (own3 sy G) h) t ru (tcs rs) (ls, ds) := by
  obtain ⟨C, Ls, ⟨s1, s2⟩, ⟨u1, u2⟩, Y⟩ := X
  have hsub : ∀ q ∈ own3 sy G, q ∈ O := fun q hq => by
    rcases own3_cs hq with z | ⟨k, hk, z | ⟨z, hx⟩⟩
    · rw [z]; exact s1
    · rw [z]; exact (Ls.1 k (by omega)).2.1
    · rw [z]; exact (Ls.1 k (by omega)).2.2 hx
  obtain ⟨C', z'⟩ := C.go (M := []) (O' := own3 sy G) (fr.refl _ _) (fun q hq => by cases hq) C.1 fun q hq => ⟨Or.inl (hsub q hq), (C.2.2.2.2 q (hsub q hq)).2⟩
  have hA : ∀ k, 3 ≤ k → k < 5 → (G k).1 ∉ own3 sy G := fun k h3 h5 hq => by
    obtain ⟨v, hv⟩ := (Ls.1 k h5).1.cell
    rcases own3_cs hq with z | ⟨j, hj, z | ⟨z, hx⟩⟩
    · rw [z, s2] at hv; cases hv
    · exact (Ls.2 k j h5 (by omega) (by omega)).1 z
    · obtain ⟨w, hw⟩ := (Ls.1 j (by omega)).1.arr hx
      rw [z, hw] at hv; cases hv
  have hE : ∀ k, 3 ≤ k → k < 5 → (G k).2.2 ≠ [] → (G k).2.1 ∉ own3 sy G := fun k h3 h5 hx hq => by
    obtain ⟨v, hv⟩ := (Ls.1 k h5).1.arr hx
    rcases own3_cs hq with z | ⟨j, hj, z | ⟨z, hx'⟩⟩
    · rw [z, s2] at hv; cases hv
    · obtain ⟨w, hw⟩ := (Ls.1 j (by omega)).1.cell
      rw [z, hw] at hv; cases hv
    · exact (Ls.2 k j h5 (by omega) (by omega)).2 hx hx' z
  have hru : ru ∉ own3 sy G := fun hq => by
    rcases own3_cs hq with z | ⟨j, hj, z | ⟨z, hx⟩⟩
    · rw [z, s2] at u2; cases u2
    · obtain ⟨w, hw⟩ := (Ls.1 j (by omega)).1.cell
      rw [z, hw] at u2; cases u2
    · obtain ⟨w, hw⟩ := (Ls.1 j (by omega)).1.arr hx
      rw [z, hw] at u2; cases u2
  have Y' := Y.ext z'
  refine ⟨⟨C', ⟨fun k hk => ⟨(Ls.1 k (by omega)).1, own3_A hk, own3_E hk⟩, fun j k hj hk => Ls.2 j k (by omega) (by omega)⟩, ⟨by simp [own3], s2⟩, Y'.1, Y'.2.1, Y'.2.2.1⟩, ?_⟩
  have n0 : ∀ q ∈ O, h0 q = none := fun q hq => (C.2.2.2.2 q hq).1
  exact ⟨(G 3).1, (G 3).2.1, (G 4).1, (G 4).2.1, (G 3).2.2, (G 4).2.2, zz_new (n0 _ u1) hru u2, C'.lstN (Ls.1 3 (by decide)).1 (n0 _ (Ls.1 3 (by decide)).2.1) (hA 3 (by decide) (by decide)) (fun hx => ⟨n0 _ ((Ls.1 3 (by decide)).2.2 hx), hE 3 (by decide) (by decide) hx⟩), C'.lstN (Ls.1 4 (by decide)).1 (n0 _ (Ls.1 4 (by decide)).2.1) (hA 4 (by decide) (by decide)) (fun hx => ⟨n0 _ ((Ls.1 4 (by decide)).2.2 hx), hE 4 (by decide) (by decide) hx⟩), Y'.2.2.2.1, Y'.2.2.2.2⟩
/-- what is left of a body, and its end -/
def bL (t : List Nat) (n s : Nat) (ds : List TD) (ns : List (Nat × Nat)) (cnt : Nat) : Except Nat ((List TD × List (Nat × Nat)) × Nat) := pB (pBody t n s ds ns cnt) fun q m => pB (pSig 125 t m) fun _ z => .ok (q, z)
theorem bL_adv (t : List Nat) (n : Nat) {s : Nat} (ds : List TD) (ns : List (Nat × Nat)) (cnt : Nat) (hs : s ≤ t.length) : adv t s 1 (bL t n s ds ns cnt) := by
  refine adv.bnd (m := 0) (m' := 1) (pBody_adv t n _ _ _ hs) fun q m e => ?_
  exact adv.bind (pSig_adv 125 (by decide) t m) fun u z e => adv.ok (Nat.le_refl _) (pSig_adv 125 (by decide) t m u z e).2
theorem bL_end {t : List Nat} {n s : Nat} {ds : List TD} {ns : List (Nat × Nat)} {cnt : Nat} (h : ch t (scan bl t s) = 125) : bL t (n + 1) s ds ns cnt = .ok ((ds, ns), scan bl t s + 1) := by
  rw [bL, pBody, if_pos h, pB_ok rfl, pSig, scan_scan, pExp, if_pos h]
  rfl
theorem bL_go {t : List Nat} {n s : Nat} {ds : List TD} {ns : List (Nat × Nat)} {cnt : Nat} (h : ¬ ch t (scan bl t s) = 125) : bL t (n + 1) s ds ns cnt = pB (pTold t (scan bl t s) ns cnt) fun d j => bL t n j (ds ++ [d.1]) d.2 (cnt + 1) := by
  rw [bL, pBody, if_neg h]
  cases pTold t (scan bl t s) ns cnt <;> rfl
def bR (t : List Nat) (i : Nat) (ns : List (Nat × Nat)) (cnt : Nat) : Except Nat ((List TD × List (Nat × Nat)) × Nat) := pB (pSig 123 t i) fun _ k => bL t 601 k [] ns cnt
theorem bR_adv (t : List Nat) (i : Nat) (ns : List (Nat × Nat)) (cnt : Nat) : adv t i 2 (bR t i ns cnt) := by
  refine adv.bnd (m := 1) (m' := 1) (pSig_adv 123 (by decide) t i) fun u k e => ?_
  exact bL_adv t 601 _ _ _ (pSig_adv 123 (by decide) t i u k e).2
theorem pRule_bR (t : List Nat) (i : Nat) (Y : YS) : pRule t i Y = pB (pSels t 121 i Y.sc []) fun ls j => pB (bR t j Y.ns Y.tc) fun q z => .ok ((Y.ru ++ [(ls, q.1)], q.2, Y.sc + ls.length, Y.tc + q.1.length), z) := by
  unfold pRule bR bL pB
  cases pSels t 121 i Y.sc [] with
  | error w => rfl
  | ok p =>
    simp only []
    cases pSig 123 t p.2 with
    | error w => rfl
    | ok p2 =>
      simp only []
      cases pBody t 601 p2.2 [] Y.ns Y.tc with
      | error w => rfl
      | ok p3 =>
        simp only []
        cases pSig 125 t p3.2 <;> rfl
theorem zipIdx_snoc (ds : List TD) (d : TD) (n : Nat) : (ds ++ [d]).zipIdx n = ds.zipIdx n ++ [(d, n + ds.length)] := by
  rw [List.zipIdx_append]; rfl
set_option maxRecDepth 20000 in
theorem c_readBody {B : Nat → Prop} {l : Launch} {D : xD} {h0 h : xH} {r b i sy ru : Nat} {t O : List Nat} {G : Nat → LG} {rs : List RU} {ss : List (List ST)} {ns : List (Nat × Nat)} {ls : List (List ST)} (Z : sX D B h0 h r b t i O sy ru G rs ss ns ls [] (tcs rs)) (hns : ns.length ≤ 30) (htc : tcs rs ≤ 600) (hrn : rs.length < 120) (hBb : B b) : xMet l D 11 y_Sy_readBody [.ref sy, .ref r, .ref ru] h (cst 40 80 t.length i (bR t i ns (tcs rs))) (cst 540 1080 t.length i (bR t i ns (tcs rs))) (xRes r b t [] h0 (bR t i ns (tcs rs)) (fun q o h' => o = .inl none ∧ q.2.length ≤ 30 ∧ tcs (rs ++ [(ls, q.1)]) ≤ 600 ∧ ∃ (j : Nat) (O' : List Nat) (G' : Nat → LG), sY D B h0 h' r b t j O' sy G' (rs ++ [(ls, q.1)]) ss q.2 (tcs (rs ++ [(ls, q.1)])))) := by
  refine m_Sy_readBody (Nat.le_of_ble_eq_true rfl) fun X hl hD hP hA => ?_
  subst hl hD
  have fin : ∀ (s rc rs' k : Nat) (ds : List TD) (ns1 : List (Nat × Nat)) (O1 : List Nat) (G1 : Nat → LG) (h1 : xH), ns1.length ≤ 30 → tcs rs + ds.length ≤ 600 → bR t i ns (tcs rs) = .ok ((ds, ns1), s + 1) → ch t s = 125 → scan bl t s = s → sX X.D B h0 h1 r b t s O1 sy ru G1 rs ss ns1 ls ds (tcs rs + ds.length) → 2 ≤ rc → 169 ≤ rs' → xG X 43 [(3, .int (nI k)), (0, .ref sy), (1, .ref r), (2, .ref ru)] [] h1 rc rs' := by
    intro s rc rs' k ds ns1 O1 G1 h1 hn1 ht1 eR hch hsc Z1 hrc hrs
    obtain ⟨C1, -⟩ := id Z1
    have hlt := ch_lt hch (by decide)
    refine xgo [] 60 hA ?_
    refine xcV C1.1.1 (c_expectSign C1.1 (c := 125) rfl (by decide)) (by rfl) (by rfl) (by rfl) (by omega) (by omega) ?_
    intro o h2 q
    rcases Z1.cs q with ⟨w, e2, z⟩ | ⟨u, j, e2, Z2, z2, f2, rfl⟩
    · rw [pSig, hsc, pExp, if_pos hch] at e2; cases e2
    have hj : j = s + 1 := by
      rw [pSig, hsc, pExp, if_pos hch] at e2; cases e2; rfl
    subst hj
    obtain ⟨W2, R2⟩ := Z2.fin
    obtain ⟨C3, Ls3, ⟨sy1, sy3⟩, A0, A1, A2⟩ := id W2
    obtain ⟨lv, hlv⟩ := (Ls3.1 0 (by decide)).1.cell
    obtain ⟨ci, fs, hru, hro⟩ := id R2.ok
    have hl0 := A0.len
    rw [idx_len] at hl0
    have hgs := gS_120 (G1 0).2.2.length (by omega)
    have ham := amc_le (capN (G1 0).2.2.length) (G1 0).2.2.length
    refine xg sy3 (by rfl) ?_
    refine xcV hlv (c_addG (k := 0) C3 Ls3 (by decide) ((zz_some hru).1) hro (fun a ha => by
      obtain ⟨cb, -, q⟩ := A0.mem a ha
      obtain ⟨c1, c2, c3, c4⟩ := q.ok
      exact ⟨c1, c2, (zz_some c3).1, c4⟩) (by omega)) (by rfl) (by rfl) (by rfl) (by omega) (by omega) ?_
    rintro o h4 ⟨e', O', C4, z4, Ls4, hf4, rfl⟩
    have sy4 := hf4 _ _ _ sy3 (by decide) (by decide)
    have et : tcs (rs ++ [(ls, ds)]) = tcs rs + ds.length := tcs_snoc _ _
    refine xP hP (xRes.ok (a := (ds, ns1)) eR C4.1 C4.2.2.2.1 ⟨rfl, hn1, by show tcs (rs ++ [(ls, ds)]) ≤ 600; omega, s + 1, O', _, C4, Ls4, ⟨sy4.2 sy1 (by decide), by show h4 sy = some (11, [_, _, _, .int (nI (tcs (rs ++ [(ls, ds)])))]); rw [et]; exact sy4.1⟩, ?_, A1.mono fun a b q => q.ext z4, A2.mono fun a b q => q.ext z4⟩)
    rw [idx_snoc, Nat.zero_add]
    exact all2.snoc (R := fun x p => isRu X.D B (zz h0 O' h4) t x p.1 p.2) (b := (tcs rs, (ls, ds))) (R2.ext z4) (A0.mono fun a b q => q.ext z4)
  have key : ∀ (n k s rc rs' : Nat) (ds : List TD) (ns1 : List (Nat × Nat)) (O1 : List Nat) (G1 : Nat → LG) (h1 : xH), k + n = 601 → ds.length = k → ns1.length ≤ 30 → tcs rs + k ≤ 600 → bR t i ns (tcs rs) = bL t n s ds ns1 (tcs rs + k) → sX X.D B h0 h1 r b t s O1 sy ru G1 rs ss ns1 ls ds (tcs rs + k) → cst 40 80 t.length s (bL t n s ds ns1 (tcs rs + k)) ≤ rc → cst 540 1080 t.length s (bL t n s ds ns1 (tcs rs + k)) ≤ rs' → xG X 8 [(3, .int (nI k)), (0, .ref sy), (1, .ref r), (2, .ref ru)] [] h1 rc rs' := by
    intro n
    induction n with
    | zero => intro k s rc rs' ds ns1 O1 G1 h1 hk hds hn1 ht1; omega
    | succ n ih =>
      intro k s rc rs' ds ns1 O1 G1 h1 hk hds hn1 ht1 eR Z1 hrc hrs
      obtain ⟨C1, -⟩ := id Z1
      have hsc := scan_ge bl t s
      have hct : ch t (scan bl t s) ≤ 256 := C1.1.2.2.2.2.le _
      refine xgo [8, 43] 80 hA ?_
      refine xf (fun z => by have := (nI_ltI (a := 600) (b := k) (by omega) (by omega)).mp z; omega) ?_
      refine xcV C1.1.1 (c_sg C1) (by rfl) (by rfl) (by rfl) (Nat.zero_le _) (Nat.zero_le _) ?_
      rintro o h2 ⟨C2, z2, f2, -, rfl⟩
      have Z2 := Z1.rd f2 C2.1
      obtain ⟨-, -, -, ⟨ru1, ru2⟩, -⟩ := id Z2
      refine xb (fun c => ?_) (fun c => ?_)
      · have c1 : ch t (scan bl t s) = 125 := (cI_lit hct (by decide)).mp c
        have hlt := ch_lt c1 (by decide)
        rw [bL_end c1] at hrc hrs eR
        rw [cst_ok rfl] at hrc hrs
        subst hds
        exact fin (scan bl t s) _ _ _ ds ns1 O1 G1 h2 hn1 ht1 eR c1 (scan_scan s) Z2 (by omega) (by omega)
      · have c1 : ¬ ch t (scan bl t s) = 125 := fun z => c (by rw [z]; rfl)
        rw [bL_go c1] at hrc hrs eR
        have hta := pTold_adv t (scan bl t s) ns1 (tcs rs + k)
        have hb : ∀ K E, K * 4 ≤ E → K * 4 ≤ cst K E t.length s (pB (pTold t (scan bl t s) ns1 (tcs rs + k)) fun d j => bL t n j (ds ++ [d.1]) d.2 (tcs rs + k + 1)) := fun K E hE => cst_ge (adv.bind (hta.from (by omega)) fun d j e => (bL_adv t n _ _ _ (hta d j e).2).weak (by decide)) hE
        have hrc2 : 80 ≤ rc := by
          cases e : pTold t (scan bl t s) ns1 (tcs rs + k) with
          | error w => rw [pB_er e, cst_er rfl] at hrc; omega
          | ok q =>
            have := hta q.1 q.2 e
            rw [pB_ok e, cst_shift (i := s) (j := q.2) (by omega) this.2 ((bL_adv t n _ _ _ this.2).weak (by decide))] at hrc
            omega
        have hrs2 : 1080 ≤ rs' := by
          cases e : pTold t (scan bl t s) ns1 (tcs rs + k) with
          | error w => rw [pB_er e, cst_er rfl] at hrs; omega
          | ok q =>
            have := hta q.1 q.2 e
            rw [pB_ok e, cst_shift (i := s) (j := q.2) (by omega) this.2 ((bL_adv t n _ _ _ this.2).weak (by decide))] at hrs
            omega
        refine xg ru2 (by rfl) ?_
        refine xcV Z2.2.2.1.2 (c_readTold Z2 hn1 ht1 hBb) (by rfl) (by rfl) (by rfl) (by omega) (by omega) ?_
        intro o h3 q
        rcases q.cs with ⟨w, e2, z⟩ | ⟨d, j, e2, H3, f3, x, j', O3, G3, rfl, Z3', I3, hG, hn3, ht3⟩
        · obtain ⟨ex, rfl⟩ := z.1
          exact xP hP (xRes.er (by rw [eR, pB_er e2]) z)
        have Z3 := Z3'.pos H3
        obtain ⟨C3, Ls3, ⟨sy1, sy3⟩, ⟨ru1, ru3⟩, Y3⟩ := id Z3
        obtain ⟨lv, hlv⟩ := (Ls3.1 4 (by decide)).1.cell
        obtain ⟨ci, fs, hx3, hxo⟩ := id I3.ok
        have hl4 := Y3.2.2.2.2.len
        rw [List.length_zipIdx] at hl4
        have hgs := gS_600 (G3 4).2.2.length (by omega)
        have ham := amc_le (capN (G3 4).2.2.length) (G3 4).2.2.length
        rw [← hG 4]
        refine xcV hlv (c_addG (k := 4) C3 Ls3 (by decide) ((zz_some hx3).1) hxo (fun a ha => by
          obtain ⟨cb, -, q⟩ := Y3.2.2.2.2.mem a ha
          obtain ⟨c1, c2, c3, c4⟩ := q.ok
          exact ⟨c1, c2, (zz_some c3).1, c4⟩) (by omega)) (by rfl) (by rfl) (by rfl) (by omega) (by omega) ?_
        rintro o h4 ⟨e', O', C4, z4, Ls4, hf4, rfl⟩
        have sy4 := hf4 _ _ _ sy3 (by decide) (by decide)
        have ru4 := hf4 _ _ _ ru3 (by decide) (by decide)
        have Y4 := Y3.ext z4
        have hj := hta d j e2
        rw [pB_ok e2] at hrc hrs eR
        rw [cst_shift (i := s) (j := j) (by omega) hj.2 ((bL_adv t n _ _ _ hj.2).weak (by decide))] at hrc hrs
        have := ih (k + 1) j (rc - 8 - amc (capN (G3 4).2.2.length) (G3 4).2.2.length) (rs' - 100 - (gS ((G3 4).2.2.length + 1) - gS (G3 4).2.2.length)) (ds ++ [d.1]) d.2 O' _ h4 (by omega) (by simp; omega) hn3 (by omega) eR ⟨C4, Ls4, ⟨sy4.2 sy1 (by decide), sy4.1⟩, ⟨ru4.2 ru1 (by decide), ru4.1⟩, Y4.1, Y4.2.1, Y4.2.2.1, Y4.2.2.2.1, (by
          rw [zipIdx_snoc, hds]
          exact all2.snoc (R := fun x p => isTd B (zz h0 O' h4) t x p.2 p.1) (b := (d.1, tcs rs + k)) (I3.ext z4) Y4.2.2.2.2)⟩ (by rw [← Nat.add_assoc]; omega) (by rw [← Nat.add_assoc]; omega)
        rw [← nI_1] at this
        exact this.locs (by simp)
  obtain ⟨C, -⟩ := id Z
  have hb1 : 40 * 2 ≤ cst 40 80 t.length i (bR t i ns (tcs rs)) := cst_ge (bR_adv t i _ _) (by decide)
  have hb2 : 540 * 2 ≤ cst 540 1080 t.length i (bR t i ns (tcs rs)) := cst_ge (bR_adv t i _ _) (by decide)
  refine xgo [8] 60 hA ?_
  refine xcV C.1.1 (c_expectSign C.1 (c := 123) rfl (by decide)) (by rfl) (by rfl) (by rfl) (by omega) (by omega) ?_
  intro o h2 q
  rcases Z.cs q with ⟨w, e2, z⟩ | ⟨u, j, e2, Z2, z2, f2, rfl⟩
  · obtain ⟨ex, rfl⟩ := z.1
    exact xP hP (xRes.er (by rw [bR, pB_er e2]) z)
  have hj := pSig_adv 123 (by decide) t i u j e2
  have eR : bR t i ns (tcs rs) = bL t 601 j [] ns (tcs rs + 0) := by rw [bR, pB_ok e2]; rfl
  have ec : ∀ K E, cst K E t.length i (bR t i ns (tcs rs)) = K * (j - i) + cst K E t.length j (bL t 601 j [] ns (tcs rs + 0)) := fun K E => by
    rw [eR, cst_shift (i := i) (j := j) (by omega) hj.2 ((bL_adv t 601 _ _ _ hj.2).weak (by decide))]
  have := key 601 0 j (cst 40 80 t.length i (bR t i ns (tcs rs)) - 1) (cst 540 1080 t.length i (bR t i ns (tcs rs)) - 6) [] ns O G h2 rfl rfl hns htc eR Z2 (by rw [ec]; omega) (by rw [ec]; omega)
  exact this
