/-! THE REFERENCE, 25: what counts -/
def rlS (ts ty : List Nat) (S : SS) (e r w : Nat) (q : List ST × Nat) : Nat := if q.2 = r then wStep ts ty S e w q.1 else w
theorem rl_oth {ts ty : List Nat} {S : SS} {e r k : Nat} (h : k ≠ r) : ∀ (ls : List (List ST)) (w : Nat), (ls.map (fun u => (u, k))).foldl (rlS ts ty S e r) w = w
  | [], _ => rfl
  | u :: ls, w => by
    rw [List.map_cons, List.foldl_cons]
    rw [show rlS ts ty S e r w (u, k) = w from if_neg h]
    exact rl_oth h ls w
theorem rl_same {ts ty : List Nat} {S : SS} {e r : Nat} : ∀ (ls : List (List ST)) (w : Nat), (ls.map (fun u => (u, r))).foldl (rlS ts ty S e r) w = ls.foldl (wStep ts ty S e) w
  | [], _ => rfl
  | u :: ls, w => by
    rw [List.map_cons, List.foldl_cons, List.foldl_cons]
    rw [show rlS ts ty S e r w (u, r) = wStep ts ty S e w u from if_pos rfl]
    exact rl_same ls _
theorem rl_no {ts ty : List Nat} {S : SS} {e r : Nat} : ∀ (rs : List RU) (n w : Nat), r < n → (((rs.zipIdx n).map (fun R => R.1.1.map (fun l => (l, R.2)))).flatten).foldl (rlS ts ty S e r) w = w
  | [], _, _, _ => rfl
  | R :: rs, n, w, h => by
    rw [List.zipIdx_cons, List.map_cons, List.flatten_cons, List.foldl_append, rl_oth (by omega : n ≠ r)]
    exact rl_no rs (n + 1) w (by omega)
theorem rl_at {ts ty : List Nat} {S : SS} {e : Nat} {R : RU} : ∀ (rs : List RU) (n w r : Nat), rs[r]? = some R → (((rs.zipIdx n).map (fun R => R.1.1.map (fun l => (l, R.2)))).flatten).foldl (rlS ts ty S e (n + r)) w = R.1.foldl (wStep ts ty S e) w
  | [], _, _, _, h => by cases h
  | Q :: rs, n, w, 0, h => by
    have h : Q = R := by simpa using h
    subst h
    rw [List.zipIdx_cons, List.map_cons, List.flatten_cons, List.foldl_append]
    show (List.foldl _ (List.foldl _ w (Q.1.map (fun l => (l, n)))) _) = _
    rw [Nat.add_zero, rl_same]
    exact rl_no rs (n + 1) _ (by omega)
  | Q :: rs, n, w, r + 1, h => by
    have h : rs[r]? = some R := by simpa using h
    rw [List.zipIdx_cons, List.map_cons, List.flatten_cons, List.foldl_append, rl_oth (by omega : n ≠ n + (r + 1))]
    have := rl_at (ts := ts) (ty := ty) (S := S) (e := e) rs (n + 1) w r h
    rw [show n + 1 + r = n + (r + 1) by omega] at this
    exact this
/-- the weight of a rule, one too great -/
def rlW (ts ty : List Nat) (S : SS) (e : Nat) (rs : List RU) (r : Nat) : Nat := (flS rs).foldl (rlS ts ty S e r) 0
theorem rlW_at {ts ty : List Nat} {S : SS} {e r : Nat} {rs : List RU} {R : RU} (h : rs[r]? = some R) : rlW ts ty S e rs r = wF ts ty S e R.1 := by
  have := rl_at (ts := ts) (ty := ty) (S := S) (e := e) rs 0 0 r h
  rw [Nat.zero_add] at this
  exact this
def cmb (W : Nat) (p : TD × Nat) (b : Option ((TD × Nat) × Nat)) : Option ((TD × Nat) × Nat) := if W = 0 then b else match b with
  | none => some (p, W - 1)
  | some q => if ahd p (W - 1) q.1 q.2 = true then some (p, W - 1) else b
def cmO (W : Nat) (c : Option (TD × Nat)) (b : Option ((TD × Nat) × Nat)) : Option ((TD × Nat) × Nat) := match c with
  | none => b
  | some p => cmb W p b
theorem cS_cm (ts ty : List Nat) (S : SS) (e wh : Nat) (b : Option ((TD × Nat) × Nat)) (R : Nat × RU) : cS ts ty S e wh b R = cmO (wF ts ty S e R.2.1) (ld wh (R.2.2.zipIdx R.1)) b := by
  unfold cS cmO
  cases ld wh (R.2.2.zipIdx R.1) <;> rfl
theorem cm_step (W wh : Nat) (c : Option (TD × Nat)) (b : Option ((TD × Nat) × Nat)) (p : TD × Nat) : (if p.1.1 = wh then cmb W p (cmO W c b) else cmO W c b) = cmO W (ldS wh c p) b := by
  unfold ldS
  by_cases hp : p.1.1 = wh
  rotate_left
  · rw [if_neg hp, if_neg (fun z => hp z.1)]
  rw [if_pos hp]
  cases c with
  | none =>
    rw [if_pos ⟨hp, rfl⟩]; rfl
  | some q =>
    by_cases hW : W = 0
    · subst hW
      by_cases hl : ldB (some q) p = true
      · rw [if_pos ⟨hp, hl⟩]; rfl
      · rw [if_neg (fun z => hl z.2)]; rfl
    have e1 : ∀ (p : TD × Nat), cmb W p none = some (p, W - 1) := fun p => by unfold cmb; rw [if_neg hW]
    have e2 : ∀ (p : TD × Nat) z, cmb W p (some z) = if ahd p (W - 1) z.1 z.2 = true then some (p, W - 1) else some z := fun p z => by unfold cmb; rw [if_neg hW]
    have e3 : ldB (some q) p = (tst p.1 || !tst q.1) := rfl
    cases b with
    | none =>
      show cmb W p (cmb W q none) = _
      rw [e1, e2, e3]
      show (if ahd p (W - 1) q (W - 1) = true then _ else _) = _
      unfold ahd
      cases h1 : tst p.1 <;> cases h2 : tst q.1 <;> simp [hp, cmO, e1]
    | some z =>
      show cmb W p (cmb W q (some z)) = _
      rw [e2, e3]
      by_cases h4 : z.2 ≤ W - 1 <;> cases h1 : tst p.1 <;> cases h2 : tst q.1 <;> cases h3 : tst z.1.1 <;> simp [hp, cmO, e2, ahd, h1, h2, h3, h4]
theorem cm_fold (W wh : Nat) : ∀ (ps : List (TD × Nat)) (c : Option (TD × Nat)) (b : Option ((TD × Nat) × Nat)), ps.foldl (fun b p => if p.1.1 = wh then cmb W p b else b) (cmO W c b) = cmO W (ps.foldl (ldS wh) c) b
  | [], _, _ => rfl
  | p :: ps, c, b => by
    rw [List.foldl_cons, List.foldl_cons, cm_step]
    exact cm_fold W wh ps _ b
/-- one told one more -/
def mcS (wt : Nat → Nat) (wh : Nat) (b : Option ((TD × Nat) × Nat)) (p : (TD × Nat) × Nat) : Option ((TD × Nat) × Nat) := if p.1.1.1 = wh then cmb (wt p.1.2) (p.1.1, p.2) b else b
theorem mc_rl (wt : Nat → Nat) (wh n : Nat) : ∀ (ds : List TD) (c : Nat) (b : Option ((TD × Nat) × Nat)), ((ds.map (fun l => (l, n))).zipIdx c).foldl (mcS wt wh) b = (ds.zipIdx c).foldl (fun b p => if p.1.1 = wh then cmb (wt n) p b else b) b
  | [], _, _ => rfl
  | d :: ds, c, b => by
    rw [List.map_cons, List.zipIdx_cons, List.zipIdx_cons, List.foldl_cons, List.foldl_cons]
    exact mc_rl wt wh n ds (c + 1) _
theorem mc_eq {ts ty : List Nat} {S : SS} {e wh : Nat} {wt : Nat → Nat} : ∀ (rs : List RU) (n c : Nat) (b : Option ((TD × Nat) × Nat)), (∀ r R, rs[r]? = some R → wt (n + r) = wF ts ty S e R.1) → (((rs.zipIdx n).map (fun R => R.1.2.map (fun l => (l, R.2)))).flatten.zipIdx c).foldl (mcS wt wh) b = (idx c rs).foldl (cS ts ty S e wh) b
  | [], _, _, _, _ => rfl
  | R :: rs, n, c, b, h => by
    rw [List.zipIdx_cons, List.map_cons, List.flatten_cons, List.zipIdx_append, List.foldl_append]
    have e1 : ((R.2.map (fun l => (l, n))).zipIdx c).foldl (mcS wt wh) b = cS ts ty S e wh b (c, R) := by
      rw [mc_rl, cS_cm, show wt n = wF ts ty S e R.1 from h 0 R rfl]
      exact cm_fold _ wh (R.2.zipIdx c) none b
    show List.foldl _ (List.foldl _ b ((R.2.map (fun l => (l, n))).zipIdx c)) _ = _
    rw [e1, List.length_map]
    exact mc_eq rs (n + 1) (c + R.2.length) _ (fun r R' hr => by
      have := h (r + 1) R' (by simpa using hr)
      rw [show n + 1 + r = n + (r + 1) by omega]
      exact this)
/-- what counts, told one after told one -/
theorem mc_cF (ts ty : List Nat) (S : SS) (e wh : Nat) (rs : List RU) : ((flT rs).zipIdx).foldl (mcS (rlW ts ty S e rs) wh) none = cF ts ty S e wh rs :=
  mc_eq rs 0 0 none (fun r R hr => by rw [Nat.zero_add]; exact rlW_at hr)
theorem flT_at {rs : List RU} {q : TD × Nat} (h : q ∈ flT rs) : ∃ R, rs[q.2]? = some R ∧ q.1 ∈ R.2 := by
  unfold flT at h
  obtain ⟨L, hL, h3⟩ := List.mem_flatten.mp h
  obtain ⟨⟨R, r⟩, hR, rfl⟩ := List.mem_map.mp hL
  obtain ⟨d, hd, rfl⟩ := List.mem_map.mp h3
  exact ⟨R, List.mem_zipIdx_iff_getElem?.mp hR, hd⟩
theorem flS_at {rs : List RU} {q : List ST × Nat} (h : q ∈ flS rs) : ∃ R, rs[q.2]? = some R ∧ q.1 ∈ R.1 := by
  unfold flS at h
  obtain ⟨L, hL, h3⟩ := List.mem_flatten.mp h
  obtain ⟨⟨R, r⟩, hR, rfl⟩ := List.mem_map.mp hL
  obtain ⟨d, hd, rfl⟩ := List.mem_map.mp h3
  exact ⟨R, List.mem_zipIdx_iff_getElem?.mp hR, hd⟩
theorem fo_snoc {α β : Type} (f : β → α → β) (b : β) {u : List α} {i : Nat} {a : α} (h : u[i]? = some a) : (u.take (i + 1)).foldl f b = f ((u.take i).foldl f b) a := by
  rw [List.take_succ, h, List.foldl_append]
  rfl
def bxI (b : Option ((TD × Nat) × Nat)) : Int32 := match b with
  | none => -1
  | some q => nI q.1.2
/-- the best so far is one of those told -/
def bxO (ds : List (TD × Nat)) (b : Option ((TD × Nat) × Nat)) : Prop := ∀ q, b = some q → q.2 < 2 ^ 30 ∧ ∃ r, ds[q.1.2]? = some (q.1.1, r)
def ctP (k _i : Nat) : Prop := 80 ≤ k ∧ k ≤ 82
theorem gdP.c {S S' : MS} (g : gF [] gdP S S') : gF [] ctP S S' := g.wk (by simp) (fun k i z => by unfold gdP at z; unfold ctP; omega)
theorem ctP.m {S S' : MS} (g : gF [] ctP S S') : gF [] mtP S S' := g.wk (by simp) (fun k i z => by unfold ctP at z; unfold mtP; omega)
section
variable {l : Launch} {D : xD} {h0 : xH} {M : MA} {S : MS}
set_option maxRecDepth 20000 in
theorem c_counts2 {A : AS} {e nm : Nat} (hM : mok M) (R : mR S A) (rA : AOk A) (he : e < A.S.n) (hnm : nm < 2 ^ 31) : xMet l D 5 y_Mo_counts [.ref M.1, .int (nI e), .int (nI nm)] (mH h0 M S) 0 0 (fun o h' => ∃ S', h' = mH h0 M S' ∧ gF [] ctP S S' ∧ o = .inl (some (.int (bxI (cF A.ts A.ty A.S e nm A.rs))))) := by
  obtain ⟨rT, rO, rF, rP, rS, rY, rss⟩ := id R
  have W : styW A.rs A.ss A.ns := rA.2.2.2.2.2
  obtain ⟨y1, y2, y3, ⟨z1, z2, z3, ⟨k, n, z4, z5, z6, z7, z8⟩, z9, z10, z11, z12, z13⟩, y5⟩ := id rY
  obtain ⟨bs, hbs⟩ : ∃ bs, bs = flS A.rs := ⟨_, rfl⟩
  obtain ⟨ds, hds⟩ : ∃ ds, ds = flT A.rs := ⟨_, rfl⟩
  rw [← hbs] at z1 z8 z11
  rw [← hds] at z2 z9 z12
  have eC := mc_cF A.ts A.ty A.S e nm A.rs
  rw [← hds] at eC
  have hbl : ∀ (i : Nat) (q : List ST × Nat), bs[i]? = some q → q.2 < 120 ∧ wgt q.1 ≤ 3208 := fun i q hq => by
    have hm : q ∈ flS A.rs := by rw [← hbs]; exact List.mem_of_getElem? hq
    obtain ⟨R0, hR0, hu⟩ := flS_at hm
    have := (List.getElem?_eq_some_iff.mp hR0).1
    have hr : A.rs.length ≤ 120 := W.2.1
    obtain ⟨w1, w2, f, w3, w4⟩ := z8 i q hq
    have := wgt_le q.1 (fun s hs => by
      obtain ⟨j, hj⟩ := List.getElem?_of_mem hs
      obtain ⟨fi, v1, v2⟩ := w3.2.2.2 j s hj
      exact v1.2.2.2.2.1)
    exact ⟨by omega, by omega⟩
  have hdl : ∀ (i : Nat) (q : TD × Nat), ds[i]? = some q → q.2 < 120 ∧ q.1.1 < 30 := fun i q hq => by
    have hm : q ∈ flT A.rs := by rw [← hds]; exact List.mem_of_getElem? hq
    obtain ⟨R0, hR0, hu⟩ := flT_at hm
    have := (List.getElem?_eq_some_iff.mp hR0).1
    have hr : A.rs.length ≤ 120 := W.2.1
    have hn : A.ns.length ≤ 30 := W.2.2.2.2.1
    have h2 := (W.1 R0 (List.mem_of_getElem? hR0)).1.2.2.2 _ hu
    exact ⟨by omega, by omega⟩
  refine m_Mo_counts (Nat.le_of_ble_eq_true rfl) fun X hl hD hP hA => ?_
  subst hl hD
  -- told one after told one
  have told : ∀ (S1 : MS), gF [] ctP S S1 → (∀ y q, bs[y]? = some q → S1.2 82 y = bI (mt A.ts A.ty A.S q.1 e)) → ∀ (m p : Nat) (b : Option ((TD × Nat) × Nat)), p + m = ds.length → b = ((ds.zipIdx).take p).foldl (mcS (rlW A.ts A.ty A.S e A.rs) nm) none → bxO ds b → xG X 40 [(5, .int (nI p)), (3, .int (bxI b)), (4, .int (bwI b)), (0, .ref M.1), (1, .int (nI e)), (2, .int (nI nm))] [] (mH h0 M S1) 0 0 := by
    intro S1 g1 hfit m
    have e50 : S1.1 50 = nI bs.length := by rw [g1.1 50 (by simp)]; exact z1
    have e68 : S1.1 68 = nI ds.length := by rw [g1.1 68 (by simp)]; exact z2
    have nP : ∀ {k i}, k < 80 → S1.2 k i = S.2 k i := fun h => g1.2 _ _ (by unfold ctP; omega)
    induction m with
    | zero =>
      intro p b hp hb hB
      have ep : p = ds.length := by omega
      subst ep
      rw [List.take_of_length_le (by rw [List.length_zipIdx]; exact Nat.le_refl _), eC] at hb
      refine xgo [] 30 hA ?_
      refine yg (by rfl) ?_
      rw [e68]
      refine xt (Int32.le_refl _) ?_
      exact xP hP ⟨_, rfl, g1, by rw [hb]⟩
    | succ m ih =>
      intro p b hp hb hB
      have hpl : p < ds.length := by omega
      obtain ⟨q, hq⟩ : ∃ q, ds[p]? = some q := ⟨_, List.getElem?_eq_getElem hpl⟩
      have hqz : (ds.zipIdx)[p]? = some (q, p) := by rw [List.getElem?_zipIdx, hq]; simp
      have hb2 := fo_snoc (mcS (rlW A.ts A.ty A.S e A.rs) nm) none hqz
      rw [← hb] at hb2
      obtain ⟨t1, t2, t3, t4⟩ := z9 p q hq
      obtain ⟨d1, d2⟩ := hdl p q hq
      -- one on
      have on : ∀ b', mcS (rlW A.ts A.ty A.S e A.rs) nm b (q, p) = b' → bxO ds b' → ∀ ls : xL, (∀ v ∈ [(5, .int (nI p)), (3, .int (bxI b')), (4, .int (bwI b')), (0, .ref M.1), (1, .int (nI e)), (2, .int (nI nm))], v ∈ ls) → xG X 208 ls [] (mH h0 M S1) 0 0 := by
        intro b' e1 e2 ls hls
        refine xG.locs ?_ hls
        refine xgo [40] 10 hA ?_
        have q := ih (p + 1) b' (by omega) (by rw [hb2, e1]) e2
        rw [← nI_1] at q
        exact q.locs (by simp [nI_zero, nI_one, bI])
      refine xgo [69, 208] 60 hA ?_
      refine yg (by rfl) ?_
      rw [e68]
      refine xf (fun z => by have := (nI_leI (a := ds.length) (b := p) (by omega) (by omega)).mp z; omega) ?_
      refine ya (by rfl) ?_
      refine yl (i := p) hM (by rfl) rfl (by show p < 600; omega) ?_
      rw [nP (by decide), t1]
      by_cases hn : q.1.1 = nm
      rotate_left
      · refine xf (fun z => hn ((nI_eq (by omega) (by omega)).mp z)) ?_
        exact on b (by unfold mcS; rw [if_neg hn]) hB _ (by simp [nI_zero, nI_one, bI])
      refine xt (by rw [hn]) ?_
      -- the rule's weight
      have wl : ∀ (m2 x w : Nat), x + m2 = bs.length → w ≤ 3209 → w = (bs.take x).foldl (rlS A.ts A.ty A.S e q.2) 0 → xG X 69 [(7, .int (nI x)), (6, .int (mI w)), (5, .int (nI p)), (3, .int (bxI b)), (4, .int (bwI b)), (0, .ref M.1), (1, .int (nI e)), (2, .int (nI nm))] [] (mH h0 M S1) 0 0 := by
        intro m2
        induction m2 with
        | zero =>
          intro x w hx hw ew
          have ex : x = bs.length := by omega
          subst ex
          rw [List.take_length] at ew
          have eW : rlW A.ts A.ty A.S e A.rs q.2 = w := by rw [ew, hbs]; rfl
          have eM : mcS (rlW A.ts A.ty A.S e A.rs) nm b (q, p) = cmb w (q.1, p) b := by
            unfold mcS
            rw [if_pos hn, eW]
          refine xgo [144, 193, 208] 60 hA ?_
          refine yg (by rfl) ?_
          rw [e50]
          refine xt (Int32.le_refl _) ?_
          by_cases w0 : w = 0
          · refine xf (by rw [w0]; decide) ?_
            exact on b (by rw [eM]; exact if_pos w0) hB _ (by simp [nI_zero, nI_one, bI])
          refine xt (mI_pos w0 (by omega)) ?_
          have yes : cmb w (q.1, p) b = some ((q.1, p), w - 1) → ∀ ls : xL, (∀ v ∈ [(6, .int (mI w)), (5, .int (nI p)), (0, .ref M.1), (1, .int (nI e)), (2, .int (nI nm))], v ∈ ls) → xG X 193 ((7, .int 1) :: ls) [] (mH h0 M S1) 0 0 := by
            intro ec ls hls
            refine xG.locs (ls' := [(7, .int 1), (6, .int (mI w)), (5, .int (nI p)), (0, .ref M.1), (1, .int (nI e)), (2, .int (nI nm))]) ?_ (fun v hv => by
              rcases List.mem_cons.mp hv with rfl | hv
              · exact List.mem_cons_self
              · exact List.mem_cons_of_mem _ (hls v hv))
            refine xgo [208] 20 hA ?_
            refine xtn (by decide) ?_
            exact on _ (by rw [eM, ec]) (fun z hz => by cases hz; exact ⟨by show w - 1 < 2 ^ 30; omega, q.2, hq⟩) _ (by simp [bxI, bwI, mI_nI w0])
          have no : cmb w (q.1, p) b = b → ∀ ls : xL, (∀ v ∈ [(5, .int (nI p)), (3, .int (bxI b)), (4, .int (bwI b)), (0, .ref M.1), (1, .int (nI e)), (2, .int (nI nm))], v ∈ ls) → xG X 193 ((7, .int 0) :: ls) [] (mH h0 M S1) 0 0 := by
            intro ec ls hls
            refine xG.locs (ls' := [(7, .int 0), (5, .int (nI p)), (3, .int (bxI b)), (4, .int (bwI b)), (0, .ref M.1), (1, .int (nI e)), (2, .int (nI nm))]) ?_ (fun v hv => by
              rcases List.mem_cons.mp hv with rfl | hv
              · exact List.mem_cons_self
              · exact List.mem_cons_of_mem _ (hls v hv))
            refine xgo [208] 20 hA ?_
            refine xfn rfl ?_
            exact on _ (by rw [eM, ec]) hB _ (by simp [nI_zero, nI_one, bI])
          cases hbb : b with
          | none =>
            refine xt (by decide) ?_
            exact yes (by rw [hbb]; exact if_neg w0) _ (by simp [nI_zero, nI_one, bI])
          | some z =>
            obtain ⟨u1, r0, u2⟩ := hB z hbb
            have hzl := (List.getElem?_eq_some_iff.mp u2).1
            have f1 : S1.2 76 z.1.2 = bI (tst z.1.1) := by rw [nP (by decide)]; exact (z9 _ _ u2).2.2.2
            have f2 : S1.2 76 p = bI (tst q.1) := by rw [nP (by decide)]; exact t4
            have ec : cmb w (q.1, p) b = if ahd (q.1, p) (w - 1) z.1 z.2 = true then some ((q.1, p), w - 1) else b := by rw [hbb]; exact if_neg w0
            have cy : ahd (q.1, p) (w - 1) z.1 z.2 = true → cmb w (q.1, p) b = some ((q.1, p), w - 1) := fun y => by rw [ec, if_pos y]
            have cn : ahd (q.1, p) (w - 1) z.1 z.2 = false → cmb w (q.1, p) b = b := fun y => by rw [ec, if_neg (by rw [y]; decide)]
            rw [hbb] at cy cn yes no
            refine xf (nI_neg (by show z.1.2 < 2 ^ 31; omega)) ?_
            -- from 163 on
            have k163 : ¬ (tst q.1 = true ∧ tst z.1.1 = false) → xG X 163 [(6, .int (mI w)), (5, .int (nI p)), (3, .int (nI z.1.2)), (4, .int (nI z.2)), (0, .ref M.1), (1, .int (nI e)), (2, .int (nI nm))] [] (mH h0 M S1) 0 0 := by
              intro hnt
              refine xgo [193] 40 hA ?_
              refine ya (by rfl) ?_
              refine ylz (i := p) hM (by rfl) rfl (by show p < 600; omega) ?_
              refine ya (by rfl) ?_
              refine ylz (i := z.1.2) hM (by rfl) rfl (by show z.1.2 < 600; omega) ?_
              rw [f1, f2]
              refine xb (fun c => ?_) (fun c => ?_)
              · have hne : ¬ tst q.1 = tst z.1.1 := fun y => c (by rw [y])
                refine no (cn ?_) _ (by simp [bxI, bwI])
                unfold ahd
                rw [if_neg hne]
                show tst q.1 = false
                cases h1 : tst q.1
                · rfl
                · exact absurd ⟨h1, by cases h2 : tst z.1.1; rfl; rw [h1, h2] at hne; exact absurd rfl hne⟩ hnt
              · have heq : tst q.1 = tst z.1.1 := bI_inj.mp c
                rw [mI_nI w0]
                refine xb (fun c => ?_) (fun c => ?_)
                · have c1 := (nI_ltI (by omega) (by omega)).mp c
                  refine no (cn ?_) _ (by simp [bxI, bwI])
                  unfold ahd
                  rw [if_pos heq]
                  exact decide_eq_false (by omega)
                · have c1 : ¬ w - 1 < z.2 := fun y => c ((nI_ltI (by omega) (by omega)).mpr y)
                  refine yes (cy ?_) _ (by simp [mI_nI w0])
                  unfold ahd
                  rw [if_pos heq]
                  exact decide_eq_true (by omega)
            show xG X 144 _ [] _ _ _
            refine xgo [163, 193] 60 hA ?_
            refine ya (by rfl) ?_
            refine ylz (i := p) hM (by rfl) rfl (by show p < 600; omega) ?_
            rw [f2]
            refine xb (fun c => ?_) (fun c => ?_)
            · have n1 := (bI_0 _).mp c
              exact (k163 (fun y => by rw [n1] at y; cases y.1)).locs (by simp [nI_zero, nI_one, bxI, bwI])
            · have n1 := (bI_n0 _).mp c
              refine ya (by rfl) ?_
              refine ylz (i := z.1.2) hM (by rfl) rfl (by show z.1.2 < 600; omega) ?_
              rw [f1]
              refine xb (fun c => ?_) (fun c => ?_)
              · have n2 := (bI_0 _).mp c
                refine yes (cy ?_) _ (by simp [nI_zero, nI_one, bI])
                unfold ahd
                rw [if_neg (by rw [n1, n2]; decide)]
                exact n1
              · have n2 := (bI_n0 _).mp c
                exact (k163 (fun y => by rw [n2] at y; cases y.2)).locs (by simp [nI_zero, nI_one, bxI, bwI])
        | succ m2 ih2 =>
          intro x w hx hw ew
          have hxl : x < bs.length := by omega
          obtain ⟨v, hv⟩ : ∃ v, bs[x]? = some v := ⟨_, List.getElem?_eq_getElem hxl⟩
          have hf := fo_snoc (rlS A.ts A.ty A.S e q.2) 0 hv
          rw [← ew] at hf
          obtain ⟨b1, b2⟩ := hbl x v hv
          obtain ⟨w1, w2, f, w3, w4⟩ := z8 x v hv
          have nxt : ∀ w', rlS A.ts A.ty A.S e q.2 w v = w' → w' ≤ 3209 → ∀ ls : xL, (∀ a ∈ [(7, .int (nI x)), (6, .int (mI w')), (5, .int (nI p)), (3, .int (bxI b)), (4, .int (bwI b)), (0, .ref M.1), (1, .int (nI e)), (2, .int (nI nm))], a ∈ ls) → xG X 126 ls [] (mH h0 M S1) 0 0 := by
            intro w' e1 e2 ls hls
            refine xG.locs ?_ hls
            refine xgo [69] 10 hA ?_
            have q := ih2 (x + 1) w' (by omega) e2 (by rw [hf, e1])
            rw [← nI_1] at q
            exact q.locs (by simp [nI_zero, nI_one, bI])
          refine xgo [126] 60 hA ?_
          refine yg (by rfl) ?_
          rw [e50]
          refine xf (fun z => by have := (nI_leI (a := bs.length) (b := x) (by omega) (by omega)).mp z; omega) ?_
          refine ya (by rfl) ?_
          refine yl (i := x) hM (by rfl) rfl (by show x < 123; omega) ?_
          refine ya (by rfl) ?_
          refine yl (i := p) hM (by rfl) rfl (by show p < 600; omega) ?_
          rw [nP (by decide), nP (by decide), w1, t2]
          by_cases hbd : v.2 = q.2
          rotate_left
          · refine xtn (fun z => hbd ((nI_eq (by omega) (by omega)).mp z)) ?_
            exact nxt w (if_neg hbd) hw _ (by simp [nI_zero, nI_one, bI])
          refine xfn (by rw [hbd]) ?_
          have e3 : rlS A.ts A.ty A.S e q.2 w v = wStep A.ts A.ty A.S e w v.1 := if_pos hbd
          refine ya (by rfl) ?_
          refine ylz (i := x) hM (by rfl) rfl (by show x < 120; omega) ?_
          rw [hfit x v hv]
          refine xb (fun c => ?_) (fun c => ?_)
          · exact nxt w (by rw [e3, wStep, if_neg (fun y => by rw [(bI_0 _).mp c] at y; cases y.2)]) hw _ (by simp [nI_zero, nI_one, bI])
          have hm := (bI_n0 _).mp c
          refine ya (by rfl) ?_
          refine yl (i := x) hM (by rfl) rfl (by show x < 123; omega) ?_
          rw [nP (by decide), w3.2.2.1]
          have hcmp : nI (wgt v.1) ≤ mI w ↔ wgt v.1 + 1 ≤ w := by
            by_cases w0 : w = 0
            · subst w0
              constructor
              · intro y
                have : nI (wgt v.1) < (0 : Int32) := Int32.lt_of_le_of_lt y (by decide)
                exact absurd this (nI_neg (by omega))
              · intro y; omega
            · rw [mI_nI w0, nI_leI (by omega) (by omega)]
              omega
          refine xb (fun c => ?_) (fun c => ?_)
          · have := hcmp.mp c
            exact nxt w (by rw [e3, wStep, if_neg (by omega)]) hw _ (by simp [nI_zero, nI_one, bI])
          · have : ¬ wgt v.1 + 1 ≤ w := fun y => c (hcmp.mpr y)
            refine ya (by rfl) ?_
            refine yl (i := x) hM (by rfl) rfl (by show x < 123; omega) ?_
            rw [nP (by decide), w3.2.2.1]
            exact nxt (wgt v.1 + 1) (by rw [e3, wStep, if_pos ⟨by omega, hm⟩]) (by omega) _ (by simp [mI])
      exact (wl bs.length 0 0 (by omega) (by omega) rfl).locs (by simp [nI_zero, nI_one, mI])
  -- which selectors fit
  have fit : ∀ (m x : Nat) (S1 : MS), x + m = bs.length → gF [] ctP S S1 → (∀ y q, y < x → bs[y]? = some q → S1.2 82 y = bI (mt A.ts A.ty A.S q.1 e)) → xG X 8 [(5, .int (nI x)), (3, .int (-1)), (4, .int 0), (0, .ref M.1), (1, .int (nI e)), (2, .int (nI nm))] [] (mH h0 M S1) 0 0 := by
    intro m
    induction m with
    | zero =>
      intro x S1 hx g1 hf
      have ex : x = bs.length := by omega
      subst ex
      refine xgo [40] 20 hA ?_
      refine yg (by rfl) ?_
      rw [g1.1 50 (by simp), z1]
      refine xt (Int32.le_refl _) ?_
      exact (told S1 g1 (fun y q hq => hf y q (List.getElem?_eq_some_iff.mp hq).1 hq) ds.length 0 none (by omega) rfl (fun q hq => by cases hq)).locs (by simp [nI_zero, nI_one, bxI, bwI])
    | succ m ih =>
      intro x S1 hx g1 hf
      have hxl : x < bs.length := by omega
      obtain ⟨v, hv⟩ : ∃ v, bs[x]? = some v := ⟨_, List.getElem?_eq_getElem hxl⟩
      refine xgo [8] 30 hA ?_
      refine yg (by rfl) ?_
      rw [g1.1 50 (by simp), z1]
      refine xf (fun z => by have := (nI_leI (a := bs.length) (b := x) (by omega) (by omega)).mp z; omega) ?_
      refine ya (by rfl) ?_
      refine xcV (mH_m _ _ _) (c_selOf2 (si := x) (q := v) hM (R.gd (ctP.m g1)) (by rw [← hbs]; exact hv) he) (by rfl) (by rfl) (by rfl) (Nat.zero_le _) (Nat.zero_le _) ?_
      rintro o h' ⟨S2, rfl, g2, rfl⟩
      refine ysz (i := x) hM (by rfl) rfl (by show x < 120; omega) (by cases mt A.ts A.ty A.S v.1 e <;> simp [bI]) ?_
      have q := ih (x + 1) (s2 S2 82 x (bI (mt A.ts A.ty A.S v.1 e))) (by omega) ((g1.tr (gdP.c g2) (by simp) (fun _ _ z => z)).s (by unfold ctP; omega)) (fun y q hy hq => by
        by_cases z : y = x
        · subst z
          rw [hv] at hq
          cases hq
          simp [s2]
        · rw [← hf y q (by omega) hq, ← g2.2 82 y (by unfold gdP; omega)]
          simp [s2, z])
      rw [← nI_1] at q
      exact q.locs (by simp [nI_zero, nI_one, bI])
  refine xgo [8] 20 hA ?_
  exact (fit bs.length 0 S (by omega) (gF.refl _ _ _) (fun y q hy => absurd hy (Nat.not_lt_zero _))).locs (by simp [nI_zero, nI_one, lv_args, Value.category])
end
