/-! THE REFERENCE, 26: asked, by, numbers -/
def tdK (t : List Nat) (d : TD) : Prop := d.2.1 = 1 → ∀ b ∈ sub t d.2.2.1, 0 < b ∧ b < 256
theorem pTold_k {t : List Nat} (hB : bytesOk t) {i cnt j : Nat} {ns : List (Nat × Nat)} {q : TD × List (Nat × Nat)} (h : pTold t i ns cnt = .ok (q, j)) : tdK t q.1 := by
  unfold pTold at h
  obtain ⟨a, k, e1, e2⟩ := pB_inv h
  split at e2
  · cases e2
  · obtain ⟨u, k2, -, e3⟩ := pB_inv e2
    obtain ⟨v, k3, e4, e5⟩ := pB_inv e3
    obtain ⟨u2, k4, -, e6⟩ := pB_inv e5
    cases e6
    unfold pVal2 at e4
    obtain ⟨w, k5, e7, e8⟩ := pB_inv e4
    have hw : w.1 = 1 → ∀ b ∈ sub t w.2.1, 0 < b ∧ b < 256 := by
      unfold pVal at e7
      split at e7
      · obtain ⟨b, k6, -, e9⟩ := pB_inv e7
        cases e9; intro z; cases z
      · split at e7
        · obtain ⟨b, k6, -, e9⟩ := pB_inv e7
          cases e9; intro z; cases z
        · obtain ⟨b, k6, e8, e9⟩ := pB_inv e7
          cases e9; intro _; exact pName_b hB e8
    split at e8
    · cases e8; exact hw
    · cases e8; exact hw
theorem pBody_k {t : List Nat} (hB : bytesOk t) : ∀ (n i : Nat) (ds : List TD) (ns : List (Nat × Nat)) (cnt : Nat) (q : List TD × List (Nat × Nat)) (j : Nat), (∀ d ∈ ds, tdK t d) → pBody t n i ds ns cnt = .ok (q, j) → ∀ d ∈ q.1, tdK t d
  | 0, i, ds, ns, cnt, q, j, h, e => by cases e; exact h
  | n + 1, i, ds, ns, cnt, q, j, h, e => by
    rw [pBody] at e
    split at e
    · cases e; exact h
    · obtain ⟨d, k, e1, e2⟩ := pB_inv e
      exact pBody_k hB n k _ d.2 _ q j (fun x hx => by
        rcases List.mem_append.mp hx with z | z
        · exact h x z
        · rw [List.mem_singleton.mp z]; exact pTold_k hB e1) e2
theorem pRules_k {t : List Nat} (hB : bytesOk t) : ∀ (n i : Nat) (Y Y' : YS) (j : Nat), (∀ R ∈ Y.ru, ∀ d ∈ R.2, tdK t d) → pRules t n i Y = .ok (Y', j) → ∀ R ∈ Y'.ru, ∀ d ∈ R.2, tdK t d
  | 0, i, Y, Y', j, hY, h => by cases h; exact hY
  | n + 1, i, Y, Y', j, hY, h => by
    rw [pRules] at h
    split at h
    · cases h; exact hY
    · obtain ⟨Y2, k, e1, e2⟩ := pB_inv h
      refine pRules_k hB n _ Y2 Y' j ?_ e2
      unfold pRule at e1
      obtain ⟨ls, k1, e3, e4⟩ := pB_inv e1
      obtain ⟨_, k2, -, e5⟩ := pB_inv e4
      obtain ⟨q, k3, e5', e6⟩ := pB_inv e5
      obtain ⟨_, k4, -, e7⟩ := pB_inv e6
      cases e7
      intro R hR
      rcases List.mem_append.mp hR with z | z
      · exact hY R z
      · rw [List.mem_singleton.mp z]
        exact pBody_k hB _ _ [] _ _ q k3 (fun d hd => by cases hd) e5'
theorem mrY.tK {S : MS} {ty : List Nat} {rs : List RU} {ns : List (Nat × Nat)} (H : mrY S ty rs ns) : ∀ R ∈ rs, ∀ d ∈ R.2, tdK ty d := by
  obtain ⟨-, h, -, -, Y, j, e, h1, -⟩ := H
  subst h1
  exact pRules_k h.2.2 _ _ YS0 Y j (fun R hR => by cases hR) e
theorem mc_no {wt : Nat → Nat} {wh : Nat} : ∀ (u : List ((TD × Nat) × Nat)) (b : Option ((TD × Nat) × Nat)), (∀ p ∈ u, p.1.1.1 ≠ wh) → u.foldl (mcS wt wh) b = b
  | [], _, _ => rfl
  | p :: u, b, h => by
    rw [List.foldl_cons, show mcS wt wh b p = b from if_neg (h p List.mem_cons_self)]
    exact mc_no u b (fun q hq => h q (List.mem_cons_of_mem _ hq))
theorem cF_no {ts ty : List Nat} {S : SS} {e wh : Nat} {rs : List RU} {ss : List (List ST)} {ns : List (Nat × Nat)} (W : styW rs ss ns) (h : ¬ wh < ns.length) : cF ts ty S e wh rs = none := by
  rw [← mc_cF]
  refine mc_no _ _ (fun p hp => ?_)
  have h1 : (flT rs)[p.2]? = some p.1 := by
    obtain ⟨a, i⟩ := p
    exact List.mem_zipIdx_iff_getElem?.mp hp
  obtain ⟨R, hR, hd⟩ := flT_at (List.mem_of_getElem? h1)
  have := (W.1 R (List.mem_of_getElem? hR)).1.2.2.2 _ hd
  omega
theorem cmb_cs (W : Nat) (p : TD × Nat) (b : Option ((TD × Nat) × Nat)) : cmb W p b = b ∨ cmb W p b = some (p, W - 1) := by
  unfold cmb
  split
  · exact Or.inl rfl
  · split
    · exact Or.inr rfl
    · split
      · exact Or.inr rfl
      · exact Or.inl rfl
theorem mc_in {ds : List (TD × Nat)} {wt : Nat → Nat} {wh : Nat} : ∀ (u : List ((TD × Nat) × Nat)) (b : Option ((TD × Nat) × Nat)), (∀ p ∈ u, ds[p.2]? = some p.1) → (∀ q, b = some q → ∃ r, ds[q.1.2]? = some (q.1.1, r)) → ∀ q, u.foldl (mcS wt wh) b = some q → ∃ r, ds[q.1.2]? = some (q.1.1, r)
  | [], _, _, hb, q, e => hb q e
  | p :: u, b, h, hb, q, e => by
    rw [List.foldl_cons] at e
    refine mc_in u _ (fun q hq => h q (List.mem_cons_of_mem _ hq)) (fun z hz => ?_) q e
    unfold mcS at hz
    split at hz
    · rcases cmb_cs (wt p.1.2) (p.1.1, p.2) b with y | y
      · rw [y] at hz; exact hb z hz
      · rw [y] at hz
        cases hz
        exact ⟨p.1.2, h p List.mem_cons_self⟩
    · exact hb z hz
theorem cF_in {ts ty : List Nat} {S : SS} {e wh : Nat} {rs : List RU} {q : (TD × Nat) × Nat} (h : cF ts ty S e wh rs = some q) : ∃ r, (flT rs)[q.1.2]? = some (q.1.1, r) := by
  rw [← mc_cF] at h
  refine mc_in _ none (fun p hp => ?_) (fun q hq => by cases hq) q h
  obtain ⟨a, i⟩ := p
  exact List.mem_zipIdx_iff_getElem?.mp hp
/-- the digits from the k-th on -/
def dgN (v : Nat) : Nat → List Nat
  | 0 => [48 + v % 10]
  | k + 1 => (48 + v / 10 ^ (k + 1) % 10) :: dgN v k
theorem dgN_snoc (v : Nat) : ∀ k, dgN v (k + 1) = dgN (v / 10) k ++ [48 + v % 10]
  | 0 => by simp [dgN]
  | k + 1 => by
    have e : v / 10 / 10 ^ (k + 1) = v / 10 ^ (k + 1 + 1) := by
      rw [Nat.div_div_eq_div_mul]
      congr 1
      rw [Nat.pow_succ 10 (k + 1), Nat.mul_comm]
    rw [dgN, dgN_snoc v k, dgN, List.cons_append, e]
theorem dgN_eq : ∀ (k f v : Nat), k ≤ f → v / 10 ^ k ≤ 9 → (∀ j, j < k → 9 < v / 10 ^ j) → dgs f v = dgN v k
  | 0, f, v, _, h, _ => by
    rw [Nat.pow_zero, Nat.div_one] at h
    cases f with
    | zero => rfl
    | succ f =>
      rw [dgs, if_pos (by omega), dgN, Nat.mod_eq_of_lt (by omega)]
  | k + 1, 0, v, hf, _, _ => by omega
  | k + 1, f + 1, v, hf, h, hj => by
    have h0 := hj 0 (by omega)
    rw [Nat.pow_zero, Nat.div_one] at h0
    rw [dgs, if_neg (by omega), dgN_snoc]
    have e : ∀ j, v / 10 / 10 ^ j = v / 10 ^ (j + 1) := fun j => by
      rw [Nat.div_div_eq_div_mul]
      congr 1
      rw [Nat.pow_succ, Nat.mul_comm]
    rw [dgN_eq k f (v / 10) (by omega) (by rw [e]; exact h) (fun j hj' => by rw [e]; exact hj (j + 1) (by omega))]
theorem mrO_snoc {S : MS} {pre : List Nat} {b : Nat} (O : mrO S pre) : mrO (s1 (s2 S 3 pre.length (nI b)) 4 ((s2 S 3 pre.length (nI b)).1 4 + 1)) (pre ++ [b]) := by
  refine ⟨?_, fun k hk => ?_⟩
  · rw [List.length_append]
    show S.1 4 + 1 = _
    rw [O.1, nI_1]; rfl
  · rw [List.length_append, List.length_singleton] at hk
    by_cases z : k = pre.length
    · subst z
      have : ch (pre ++ [b]) pre.length = b := by
        rw [ch_in (by rw [List.length_append]; exact Nat.lt_succ_self _), List.getElem_append_right (Nat.le_refl _)]
        simp
      rw [this]
      simp [s1, s2]
    · have hk2 : k < pre.length := by omega
      have : ch (pre ++ [b]) k = ch pre k := by
        rw [ch_in (by rw [List.length_append]; omega), ch_in hk2, List.getElem_append_left hk2]
      rw [this, ← O.2 k hk2]
      simp [s1, s2, z]
section
variable {l : Launch} {D : xD} {h0 : xH} {M : MA} {S : MS}
set_option maxRecDepth 20000 in
theorem c_asked2 {A : AS} (hM : mok M) (R : mR S A) (rA : AOk A) : xMet l D 2 y_Mo_asked [.ref M.1] (mH h0 M S) 0 0 (fun o h' => ∃ S', h' = mH h0 M S' ∧ mR S' (A.wTp []) ∧ o = .inl (some (.int (aWv A)))) := by
  obtain ⟨rT, rO, rF, rP, rS, rY, rss⟩ := id R
  obtain ⟨⟨tl, tb⟩, rA2⟩ := id rA
  refine m_Mo_asked (Nat.le_of_ble_eq_true rfl) fun X hl hD hP hA => ?_
  subst hl hD
  refine xgo [] 60 hA ?_
  refine xcV (mH_m _ _ _) (c_Mo_take (b := 40000) hM rT tb (by decide)) (by rfl) (by rfl) (by rfl) (Nat.zero_le _) (Nat.zero_le _) ?_
  rintro o h' ⟨S2, rfl, rfl, f2, X2, T2, hf2, hk2⟩
  have g2 : gF [2, 6, 8, 9] (fun j i => j = 7 ∧ 40000 ≤ i) S S2 := ⟨f2.1, fun j i h => by
    by_cases z : j = 7
    · subst z
      exact hk2 i (by
        have : ¬ (40000 ≤ i) := fun y => h ⟨rfl, y⟩
        omega)
    · rw [f2.2 j (by simpa using z)]⟩
  have rY2 : mrY S2 A.ty A.rs A.ns := rY.gf g2 (by rfl) (by rfl) (fun k i _ _ z => by omega) (fun i _ _ z => by omega)
  refine yg (by rfl) ?_
  rw [X2.2.1]
  refine xcV (mH_m _ _ _) (c_known2 (b := 20000) (a := 40000) hM rY2.2.1 rY2.2.2.2.1.2.2.2.2.2.1 rY2.2.2.2.1.2.2.1 rY2.2.2.2.1.2.2.2.2.2.2.2.2 (sg_tx X2)) (by rfl) (by rfl) (by rfl) (Nat.zero_le _) (Nat.zero_le _) ?_
  rintro o h' ⟨rfl, rfl⟩
  exact xP hP ⟨_, rfl, ⟨T2, rO.gf g2 (by rfl) (fun i z => by omega), rF.gf g2 (by rfl) (fun i z => by omega), by rw [g2.1 5 (by decide)]; exact rP, rS.gf g2 (by rfl) (fun k i _ _ z => by omega) (fun i _ z => by omega), rY2, rss⟩, rfl⟩
theorem AOk.tp0 {A : AS} (rA : AOk A) : AOk (A.wTp []) := ⟨⟨by show 0 ≤ 8192; omega, fun b hb => by cases hb⟩, rA.2⟩
set_option maxRecDepth 20000 in
theorem c_by2 {A : AS} {e : Int32} (hM : mok M) (R : mR S A) (rA : AOk A) : xMet l D 6 y_Mo_by [.ref M.1, .int e] (mH h0 M S) 0 0 (fun o h' => ∃ S', h' = mH h0 M S' ∧ oM (aBy A e) S' o ∧ mR S' (A.wTp [])) := by
  have hn5 : A.S.n ≤ 500 := R.2.2.2.2.1.2.2.2.2.2.1.1
  have W : styW A.rs A.ss A.ns := rA.2.2.2.2.2
  have hns : A.ns.length ≤ 30 := W.2.2.2.2.1
  refine m_Mo_by (Nat.le_of_ble_eq_true rfl) fun X hl hD hP hA => ?_
  subst hl hD
  refine xgo [] 60 hA ?_
  refine xcV (mH_m _ _ _) (c_asked2 hM R rA) (by rfl) (by rfl) (by rfl) (Nat.zero_le _) (Nat.zero_le _) ?_
  rintro o h' ⟨S1, rfl, R1, rfl⟩
  refine xcV (mH_m _ _ _) (c_isThere2 R1) (by rfl) (by rfl) (by rfl) (Nat.zero_le _) (Nat.zero_le _) ?_
  rintro o h' ⟨rfl, rfl⟩
  rcases elK_cs A.S hn5 e with ⟨z1, z2⟩ | ⟨k, hk, rfl, z1, z2⟩
  · have ea : aBy A e = none := by unfold aBy; rw [z1]; rfl
    rw [ea] at hP
    rw [show decide (0 ≤ e ∧ e ≤ nI (A.wTp []).S.n - 1) = false from z2]
    refine xfn rfl ?_
    refine xcV (mH_m _ _ _) (c_Mo_refuse) (by rfl) (by rfl) (by rfl) (Nat.zero_le _) (Nat.zero_le _) ?_
    rintro o h' ⟨rfl, rfl⟩
    exact xP hP ⟨_, rfl, ⟨rfl, _, rfl⟩, R1.thr _⟩
  have ea : aBy A (nI k) = some (bxI (cF A.ts A.ty A.S k (aWh A) A.rs)) := by
    unfold aBy
    rw [z1]
    rfl
  rw [ea] at hP
  rw [show decide (0 ≤ nI k ∧ nI k ≤ nI (A.wTp []).S.n - 1) = true from z2]
  refine xtn (by decide) ?_
  refine yp (by rfl) ?_
  unfold aWv
  by_cases hw : aWh A < A.ns.length
  · rw [if_pos hw]
    refine xt (nI_pos' (by omega)) ?_
    refine xcV (mH_m _ _ _) (c_counts2 (e := k) (nm := aWh A) hM (R1.thr 0) rA.tp0 hk (by omega)) (by rfl) (by rfl) (by rfl) (Nat.zero_le _) (Nat.zero_le _) ?_
    rintro o h' ⟨S2, rfl, g2, rfl⟩
    exact xP hP ⟨_, rfl, ⟨by rw [g2.1 0 (by simp)]; rfl, rfl⟩, (R1.thr 0).gd (ctP.m g2)⟩
  · rw [if_neg hw]
    refine xf (by decide) ?_
    rw [cF_no W hw] at hP
    exact xP hP ⟨_, rfl, ⟨rfl, rfl⟩, R1.thr 0⟩
set_option maxRecDepth 20000 in
theorem c_say2 {a : Nat} {av nv : Int32} {w ou : List Nat} (ea : av = nI a) (en : nv = nI w.length) (hM : mok M) (A : sg S a w) (O : mrO S ou) (hl : ou.length + w.length ≤ 16384) : xMet l D 0 y_Mo_say [.ref M.1, .int av, .int nv] (mH h0 M S) 0 0 (fun o h' => ∃ S', h' = mH h0 M S' ∧ o = .inl none ∧ gF [4] (fun k _ => k = 3) S S' ∧ mrO S' (ou ++ w)) := by
  subst ea en
  refine m_Mo_say (Nat.le_of_ble_eq_true rfl) fun X hl hD hP hA => ?_
  subst hl hD
  have key : ∀ (m x : Nat) (S1 : MS), x + m = w.length → gF [4] (fun k _ => k = 3) S S1 → mrO S1 (ou ++ w.take x) → xG X 2 [(3, .int (nI x)), (0, .ref M.1), (1, .int (nI a)), (2, .int (nI w.length))] [] (mH h0 M S1) 0 0 := by
    intro m
    induction m with
    | zero =>
      intro x S1 hx g1 O1
      have ex : x = w.length := by omega
      subst ex
      rw [List.take_length] at O1
      refine xgo [] 20 hA ?_
      refine xt (Int32.le_refl _) ?_
      exact xP hP ⟨_, rfl, rfl, g1, O1⟩
    | succ m ih =>
      intro x S1 hx g1 O1
      have hxl : x < w.length := by omega
      have hol : (ou ++ w.take x).length = ou.length + x := by rw [List.length_append, List.length_take]; omega
      have e7 : S1.2 7 (a + x) = nI (ch w x) := by rw [g1.2 7 _ (by simp)]; exact A.1 x hxl
      have e4 : S1.1 4 = nI (ou.length + x) := by rw [O1.1, hol]
      have ha : a + w.length ≤ 50000 := A.2.1
      refine xgo [2] 40 hA ?_
      refine xf (fun z => by have := (nI_leI (a := w.length) (b := x) (by omega) (by omega)).mp z; omega) ?_
      refine ya (by rfl) ?_
      refine yg (by rfl) ?_
      rw [e4]
      refine ya (by rfl) ?_
      refine yl (i := a + x) hM (by rfl) (nI_add a x) (by show a + x < 50000; omega) ?_
      rw [e7]
      refine ys (i := ou.length + x) hM (by rfl) rfl (by show ou.length + x < 16384; omega) ?_
      refine yg (by rfl) ?_
      refine yp (by rfl) ?_
      obtain ⟨S8, hS8⟩ : ∃ S8, S8 = s1 (s2 S1 3 (ou.length + x) (nI (ch w x))) 4 ((s2 S1 3 (ou.length + x) (nI (ch w x))).1 4 + 1) := ⟨_, rfl⟩
      have g8 : gF [4] (fun k _ => k = 3) S1 S8 := by
        rw [hS8]
        exact ((gF.refl [4] (fun k _ => k = 3) S1).s rfl).p (by decide)
      have hw' : w.take (x + 1) = w.take x ++ [w[x]] := List.take_succ_eq_append_getElem hxl
      have q := ih (x + 1) S8 (by omega) (g1.tr g8 (by simp) (fun _ _ z => z)) (by
        rw [hw', ← List.append_assoc]
        have := mrO_snoc (b := w[x]) O1
        rw [hol] at this
        rw [hS8, ch_in hxl]
        exact this)
      rw [← nI_1] at q
      have q2 := q.locs (ls := [(3, .int (nI x + 1)), (0, .ref M.1), (1, .int (nI a)), (2, .int (nI w.length))]) (by simp)
      rw [hS8] at q2
      exact q2
  refine xgo [2] 20 hA ?_
  exact (key w.length 0 S (by omega) (gF.refl _ _ _) (by simpa using O)).locs (by simp [nI_zero, nI_one, lv_args, Value.category])
end
