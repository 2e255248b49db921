/-! THE REFERENCE, 28: tell -/
def psZ (S : SS) : Prop := ∀ p ∈ S.ps, p.2 ≠ 0
theorem addP_ps (S : SS) (p : Nat × Nat) : (addP S p).ps.length ≤ S.ps.length + 1 ∧ (psZ S → psZ (addP S p)) := by
  unfold addP
  split
  · exact ⟨Nat.le_succ _, fun z => z⟩
  · rename_i hp
    have e : (S.ps ++ [p]).length = S.ps.length + 1 := by rw [List.length_append]; rfl
    have z2 : psZ S → ∀ q ∈ S.ps ++ [p], q.2 ≠ 0 := fun z q hq => by
      rcases List.mem_append.mp hq with y | y
      · exact z q y
      · rw [List.mem_singleton.mp y]; exact hp
    split
    · exact ⟨Nat.le_of_eq e, z2⟩
    · exact ⟨Nat.le_of_eq e, z2⟩
theorem sPiece_ps {t : List Nat} {S S' : SS} {i k : Nat} (h : sPiece t i S = .ok (S', k)) : S'.ps.length ≤ S.ps.length + 1 ∧ (psZ S → psZ S') := by
  unfold sPiece at h
  split at h
  · unfold sMark at h
    split at h
    · unfold sEnd at h
      split at h
      · cases h
      · obtain ⟨a, j, -, e1⟩ := pB_inv h
        split at e1
        · obtain ⟨u, m, e2, e3⟩ := pB_inv e1
          cases e3
          exact ⟨Nat.le_succ _, fun z => z⟩
        · cases e1
    · split at h
      · split at h
        · unfold sCom at h
          obtain ⟨u, j, -, e1⟩ := pB_inv h
          obtain ⟨u2, j2, -, e2⟩ := pB_inv e1
          cases e2; exact ⟨Nat.le_succ _, fun z => z⟩
        · unfold sEnt at h
          obtain ⟨a, j, -, e1⟩ := pB_inv h
          split at e1
          · cases e1
          · obtain ⟨b, j2, -, e2⟩ := pB_inv e1
            split at e2
            · cases e2
            · obtain ⟨u, j3, -, e3⟩ := pB_inv e2
              cases e3
              exact ⟨Nat.le_succ _, fun z => z⟩
      · unfold sBeg at h
        obtain ⟨a, j, e1, e2⟩ := pB_inv h
        split at e2
        · cases e2
        · obtain ⟨fs, j2, e3, e4⟩ := pB_inv e2
          unfold sBeg2 at e4
          split at e4
          · obtain ⟨u, m, -, e5⟩ := pB_inv e4
            cases e5; exact ⟨Nat.le_succ _, fun z => z⟩
          · obtain ⟨u, m, -, e5⟩ := pB_inv e4
            cases e5; exact ⟨Nat.le_succ _, fun z => z⟩
  · split at h
    · unfold sRef at h
      obtain ⟨a, j, -, e1⟩ := pB_inv h
      split at e1
      · cases e1
      · obtain ⟨u, j2, -, e2⟩ := pB_inv e1
        cases e2; exact addP_ps _ _
    · unfold sText at h
      split at h
      · cases h
      · cases h; exact addP_ps _ _
theorem sAll_ps {t : List Nat} : ∀ (n i : Nat) (S S' : SS) (j : Nat), S.ps.length ≤ i → psZ S → i ≤ t.length → sAll t n i S = .ok (S', j) → S'.ps.length ≤ t.length ∧ psZ S'
  | 0, i, S, S', j, hp, hz, hi, e => by cases e; exact ⟨Nat.le_trans hp hi, hz⟩
  | n + 1, i, S, S', j, hp, hz, hi, e => by
    rw [sAll] at e
    split at e
    · cases e; exact ⟨Nat.le_trans hp hi, hz⟩
    · obtain ⟨S2, i2, e1, e2⟩ := pB_inv e
      have a := sPiece_adv t S hi S2 i2 e1
      obtain ⟨m1, m2⟩ := sPiece_ps e1
      exact sAll_ps n i2 S2 S' j (by omega) (m2 hz) a.2 e2
theorem sSrc_ps {t : List Nat} {s : SS} {j : Nat} (h : sSrc t = .ok (s, j)) : s.ps.length ≤ t.length ∧ psZ s := by
  obtain ⟨S2, i2, e1, e2⟩ := pB_inv h
  split at e2
  · cases e2
    exact sAll_ps _ _ _ _ _ (Nat.le_refl 0) (fun p hp => by cases hp) (Nat.zero_le _) e1
  · cases e2
def tot (u : List (Nat × Nat)) : Nat := (u.map (fun p => p.2)).sum
theorem tot_snoc {u : List (Nat × Nat)} {x : Nat} {p : Nat × Nat} (h : u[x]? = some p) : tot (u.take (x + 1)) = tot (u.take x) + p.2 := by
  unfold tot
  rw [List.take_succ, h, List.map_append, List.sum_append]
  simp
theorem tot_le {u : List (Nat × Nat)} {m : Nat} (h : ∀ p ∈ u, p.2 ≤ m) : tot u ≤ m * u.length := by
  unfold tot
  induction u with
  | nil => exact Nat.zero_le _
  | cons p u ih =>
    have h1 := h p List.mem_cons_self
    have h2 := ih (fun q hq => h q (List.mem_cons_of_mem _ hq))
    rw [List.map_cons, List.sum_cons, List.length_cons, Nat.mul_succ]
    omega
theorem tot_take (u : List (Nat × Nat)) (x : Nat) : tot (u.take x) ≤ tot u := by
  unfold tot
  have : (u.map (fun p => p.2)).sum = ((u.take x).map (fun p => p.2)).sum + ((u.drop x).map (fun p => p.2)).sum := by
    rw [← List.sum_append, ← List.map_append, List.take_append_drop]
  omega
theorem pby_flat {ts : List Nat} : ∀ (u : List (Nat × Nat)), (∀ p ∈ u, (pby ts p).length = p.2) → ((u.map (pby ts)).flatten).length = tot u
  | [], _ => rfl
  | p :: u, h => by
    rw [List.map_cons, List.flatten_cons, List.length_append, h p List.mem_cons_self, pby_flat u (fun q hq => h q (List.mem_cons_of_mem _ hq))]
    unfold tot
    rw [List.map_cons, List.sum_cons]
def oMT (q : Nat × Int32) (S' : MS) (o : xO) : Prop := if q.1 = 0 then S'.1 0 = 0 ∧ o = .inl (some (.int q.2)) else S'.1 0 = nI q.1 ∧ ∃ v : Int32, o = .inl (some (.int v))
section
variable {l : Launch} {D : xD} {h0 : xH} {M : MA} {S : MS}
set_option maxRecDepth 20000 in
theorem c_tell2 {A : AS} {e p : Int32} (hM : mok M) (R : mR S A) : xMet l D 2 y_Mo_tell [.ref M.1, .int e, .int p] (mH h0 M S) 0 0 (fun o h' => ∃ S', h' = mH h0 M S' ∧ oMT (aTell A e p).1 S' o ∧ mR S' (aTell A e p).2) := by
  obtain ⟨rT, rO, rF, rP, rS, rY, rss⟩ := id R
  obtain ⟨⟨s10, s44, s39⟩, ⟨sts, slen, s8192⟩, ⟨sel, sps⟩, sop, ⟨sj, sS⟩, I⟩ := id rS
  have hn5 : A.S.n ≤ 500 := I.1.1
  obtain ⟨hpl, hpz⟩ := sSrc_ps sS
  refine m_Mo_tell (Nat.le_of_ble_eq_true rfl) fun X hl hD hP hA => ?_
  subst hl hD
  have bad : (aTell A e p) = ((1, 0), A) → xG X 26 [(0, .ref M.1)] [] (mH h0 M S) 0 0 := by
    intro ea
    rw [ea] at hP
    refine xgo [] 30 hA ?_
    refine xcV (mH_m _ _ _) (c_Mo_refuse) (by rfl) (by rfl) (by rfl) (Nat.zero_le _) (Nat.zero_le _) ?_
    rintro o h' ⟨rfl, rfl⟩
    exact xP hP ⟨_, rfl, ⟨rfl, _, rfl⟩, R.thr _⟩
  refine xgo [26, 32] 60 hA ?_
  refine xcV (mH_m _ _ _) (c_isThere2 R) (by rfl) (by rfl) (by rfl) (Nat.zero_le _) (Nat.zero_le _) ?_
  rintro o h' ⟨rfl, rfl⟩
  rcases elK_cs A.S hn5 e with ⟨z1, z2⟩ | ⟨k, hk, rfl, z1, z2⟩
  · rw [z2]
    refine xt rfl ?_
    exact (bad (by unfold aTell; rw [z1])).locs (by simp [lv_args])
  rw [z2]
  refine xf (by decide) ?_
  obtain ⟨⟨⟨a1, a2, a3, a4, a5, a6⟩, b1, b2, b3, b4, b5, b6⟩, cc, dd⟩ := sel k hk
  have k1 : k < 1000 := by omega
  obtain ⟨i1, i2, i3, i4, i5⟩ := I.2.1 k hk
  have nop : ¬ opn A.S.F A.S.op (k + 1) := fun z => by
    rw [sop] at z
    have := z.zero
    omega
  obtain ⟨c21, c23⟩ := cc nop
  obtain ⟨q1, q2, q3, q4, q5⟩ := (I.2.2.2 k hk).2.resolve_left nop
  refine ya (by rfl) ?_
  refine yl (i := k) hM (by rfl) rfl k1 ?_
  rw [b2]
  refine xcS (c_Mo_in) (by rfl) (by rfl) (by rfl) (Nat.zero_le _) (Nat.zero_le _) ?_
  rintro o h' ⟨rfl, rfl⟩
  have eB : (1 : Int32) + 2 * nI (A.S.fd k).length = nI (1 + 2 * (A.S.fd k).length) := by
    show nI 1 + nI 2 * nI _ = _
    rw [nI_mul, nI_add]
  rw [eB]
  have aT : aTell A (nI k) p = (match ixK (2 + 2 * (A.S.fd k).length) p with
    | none => ((1, 0), A)
    | some j => if 16384 < (aTold A.ts A.S k j).length then ((2, 0), A) else ((0, nI (aTold A.ts A.S k j).length), A.wOu (aTold A.ts A.S k j))) := by
    unfold aTell
    rw [z1]
    rfl
  rcases pk_ix p (n := 2 + 2 * (A.S.fd k).length) (by omega) with z | z | ⟨j, hj, rfl⟩
  · rw [decide_eq_false (fun y => Int32.lt_irrefl (Int32.lt_of_lt_of_le z y.1))]
    refine xfn rfl ?_
    refine (bad ?_).locs (by simp [lv_args])
    rw [aT, ixK_none (fun x hx y => by rw [y] at z; exact nI_neg (by omega) z)]
  · rw [decide_eq_false (fun y => by
      have := (nI_leI (by omega) (by omega)).mp (Int32.le_trans z y.2)
      omega)]
    refine xfn rfl ?_
    refine (bad ?_).locs (by simp [lv_args])
    rw [aT, ixK_none (fun x hx y => by rw [y] at z; have := (nI_leI (by omega) (by omega)).mp z; omega)]
  rw [decide_eq_true ⟨nI_pos' (by omega), nI_le (by omega) (by omega)⟩]
  refine xtn (by decide) ?_
  rw [ixK_some (by omega) hj] at aT
  have aT : aTell A (nI k) (nI j) = if 16384 < (aTold A.ts A.S k j).length then ((2, 0), A) else ((0, nI (aTold A.ts A.S k j).length), A.wOu (aTold A.ts A.S k j)) := aT
  -- its pieces
  obtain ⟨sgm, hsg⟩ : ∃ u, u = (A.S.ps.drop (A.S.F 13 k)).take (A.S.F 14 k - A.S.F 13 k) := ⟨_, rfl⟩
  have hsl : sgm.length = A.S.F 14 k - A.S.F 13 k := by
    rw [hsg, List.length_take, List.length_drop]; omega
  have sat : ∀ (x : Nat) (pp : Nat × Nat), sgm[x]? = some pp → A.S.ps[A.S.F 13 k + x]? = some pp := fun x pp h => by
    have hx := (List.getElem?_eq_some_iff.mp h).1
    rw [hsg, List.getElem?_take_of_lt (by omega), List.getElem?_drop] at h
    exact h
  have sin : ∀ pp ∈ sgm, ∃ i, A.S.ps[i]? = some pp := fun pp h => by
    obtain ⟨x, hx⟩ := List.getElem?_of_mem h
    exact ⟨_, sat x pp hx⟩
  have etx : txL A.ts A.S k = (sgm.map (pby A.ts)).flatten := by
    unfold txL
    rw [← List.map_drop, ← List.map_take, ← q5, hsg]
  have one : ∀ {S1 : MS}, (∀ i, S1.2 7 i = S.2 7 i) → ∀ (i : Nat) (pp : Nat × Nat), A.S.ps[i]? = some pp → (pby A.ts pp).length = pp.2 ∧ sg S1 pp.1 (pby A.ts pp) ∧ pp.2 ≤ 8192 := by
    intro S1 h7 i pp h
    obtain ⟨u1, u2, u3⟩ := sps i pp h
    have hz := hpz pp (List.mem_of_getElem? h)
    have hne : A.S.ps ≠ [] := fun y => by rw [y] at h; cases h
    obtain ⟨w1, w2⟩ := s8192 hne
    rcases u3 with y | rfl | rfl
    · have e1 : pby A.ts pp = sub A.ts pp := by
        unfold pby
        rw [if_neg (by omega), if_neg (by omega)]
      rw [e1]
      have := sts.sub y
      rw [Nat.zero_add] at this
      exact ⟨sub_len y, this.eq (fun i _ _ => h7 i), by omega⟩
    · refine ⟨rfl, ⟨fun x hx => ?_, by show _ + 1 ≤ 50000; decide, fun b hb => ?_⟩, by decide⟩
      · have hx : x < 1 := hx
        have : x = 0 := by omega
        subst this
        rw [h7]; exact w1
      · rw [List.mem_singleton.mp hb]; decide
    · refine ⟨rfl, ⟨fun x hx => ?_, by show _ + 1 ≤ 50000; decide, fun b hb => ?_⟩, by decide⟩
      · have hx : x < 1 := hx
        have : x = 0 := by omega
        subst this
        rw [h7]; exact w2
      · rw [List.mem_singleton.mp hb]; decide
  have hlen : ∀ pp ∈ sgm, (pby A.ts pp).length = pp.2 := fun pp h => by
    obtain ⟨i, hi⟩ := sin pp h
    exact (one (S1 := S) (fun _ => rfl) i pp hi).1
  have etl : (txL A.ts A.S k).length = tot sgm := by rw [etx]; exact pby_flat sgm hlen
  have htt : tot sgm ≤ 8192 * 8192 := by
    refine Nat.le_trans (tot_le (m := 8192) (fun pp h => ?_)) (Nat.mul_le_mul_left _ (by omega))
    obtain ⟨i, hi⟩ := sin pp h
    exact (one (S1 := S) (fun _ => rfl) i pp hi).2.2
  -- from 89 on: it isn't too long
  have k89 : (aTold A.ts A.S k j).length ≤ 16384 → xG X 89 [(0, .ref M.1), (1, .int (nI k)), (2, .int (nI j))] [] (mH h0 M S) 0 0 := by
    intro hle
    rw [if_neg (by omega)] at aT
    rw [aT] at hP
    obtain ⟨S2, hS2⟩ : ∃ S2, S2 = s1 (s1 S 0 0) 4 0 := ⟨_, rfl⟩
    have g2 : gF [0, 4] (fun _ _ => False) S S2 := by
      rw [hS2]
      exact ((gF.refl _ _ _).p (by decide)).p (by decide)
    have O2 : mrO S2 [] := ⟨by rw [hS2]; rfl, fun x hx => by cases hx⟩
    have d2 : ∀ x i, S2.2 x i = S.2 x i := fun x i => g2.2 x i (fun z => z)
    have fin : ∀ (S3 : MS), gF [4] (fun x _ => x = 3) S2 S3 → mrO S3 (aTold A.ts A.S k j) → xG X 221 [(0, .ref M.1)] [] (mH h0 M S3) 0 0 := by
      intro S3 g3 O3
      refine xgo [] 10 hA ?_
      refine yg (by rfl) ?_
      refine xP hP ⟨_, rfl, ⟨by rw [g3.1 0 (by decide), hS2]; rfl, by rw [O3.1]⟩, ?_⟩
      have R2 : mR (s1 S 0 0) A := R.thr 0
      refine R2.ou ?_ O3
      exact ((gF.refl [4] (fun x _ => x = 3) (s1 S 0 0)).p (k := 4) (v := 0) (by decide)).tr (by rw [← hS2]; exact g3) (by simp) (fun _ _ z => z)
    refine xgo [99] 20 hA ?_
    refine yp (by rfl) ?_
    refine yp (by rfl) ?_
    suffices this : xG X 99 [(0, .ref M.1), (1, .int (nI k)), (2, .int (nI j))] [] (mH h0 M S2) 0 0 by
      rw [hS2] at this
      exact this
    by_cases j0 : j = 0
    · subst j0
      have ew : aTold A.ts A.S k 0 = sub A.ts (A.S.F 0 k, A.S.F 1 k) := rfl
      have hsi : A.S.F 0 k + A.S.F 1 k ≤ A.ts.length := i4
      refine xgo [221] 30 hA ?_
      refine xfn rfl ?_
      refine ya (by rfl) ?_
      refine yl (i := k) hM (by rfl) rfl k1 ?_
      refine ya (by rfl) ?_
      refine yl (i := k) hM (by rfl) rfl k1 ?_
      rw [d2, d2]
      have sg0 := (sts.eq (S' := S2) (fun i _ _ => d2 7 i)).sub (a := (A.S.F 0 k, A.S.F 1 k)) hsi
      rw [Nat.zero_add] at sg0
      rw [ew] at hle
      refine xcV (mH_m _ _ _) (c_say2 (ou := []) (w := sub A.ts (A.S.F 0 k, A.S.F 1 k)) a1 (a2.trans (by rw [sub_len (a := (A.S.F 0 k, A.S.F 1 k)) hsi])) hM sg0 O2 (by show 0 + _ ≤ _; omega)) (by rfl) (by rfl) (by rfl) (Nat.zero_le _) (Nat.zero_le _) ?_
      rintro o h' ⟨S3, rfl, rfl, g3, O3⟩
      exact (fin S3 g3 (by rw [ew]; exact O3)).locs (by simp [nI_zero, nI_one, bI])
    by_cases j1 : j = 1
    · subst j1
      have ew : aTold A.ts A.S k 1 = txL A.ts A.S k := rfl
      rw [ew, etl] at hle
      have loop : ∀ (m x : Nat) (S3 : MS), x + m = sgm.length → gF [4] (fun x _ => x = 3) S2 S3 → mrO S3 (((sgm.map (pby A.ts)).take x).flatten) → xG X 134 [(3, .int (nI (A.S.F 13 k + x))), (0, .ref M.1), (1, .int (nI k)), (2, .int (nI 1))] [] (mH h0 M S3) 0 0 := by
        intro m
        induction m with
        | zero =>
          intro x S3 hx g3 O3
          have ex : x = sgm.length := by omega
          subst ex
          rw [List.take_of_length_le (by rw [List.length_map]; exact Nat.le_refl _), ← etx] at O3
          have e23 : S3.2 23 k = nI (A.S.F 14 k) := by rw [g3.2 23 k (by simp), d2]; exact c23
          refine xgo [221] 20 hA ?_
          refine ya (by rfl) ?_
          refine yl (i := k) hM (by rfl) rfl k1 ?_
          rw [e23]
          refine xt (nI_le (by omega) (by omega)) ?_
          exact (fin S3 g3 O3).locs (by simp [nI_zero, nI_one, bI])
        | succ m ih =>
          intro x S3 hx g3 O3
          have hxl : x < sgm.length := by omega
          obtain ⟨pp, hpp⟩ : ∃ pp, sgm[x]? = some pp := ⟨_, List.getElem?_eq_getElem hxl⟩
          have hps := sat x pp hpp
          have e23 : S3.2 23 k = nI (A.S.F 14 k) := by rw [g3.2 23 k (by simp), d2]; exact c23
          obtain ⟨u1, u2, u3⟩ := sps _ pp hps
          have e30 : S3.2 30 (A.S.F 13 k + x) = nI pp.1 := by rw [g3.2 30 _ (by simp), d2]; exact u1
          have e31 : S3.2 31 (A.S.F 13 k + x) = nI pp.2 := by rw [g3.2 31 _ (by simp), d2]; exact u2
          obtain ⟨w1, w2, w3⟩ := one (S1 := S3) (fun i => by rw [g3.2 7 i (by simp), d2]) _ pp hps
          have hxm : x < (sgm.map (pby A.ts)).length := by rw [List.length_map]; exact hxl
          have hft := flat_take hxm
          have hgx : (sgm.map (pby A.ts))[x] = pby A.ts pp := by
            rw [List.getElem_map]
            congr 1
            have := List.getElem?_eq_getElem hxl
            rw [hpp] at this
            exact (Option.some.inj this).symm
          rw [hgx] at hft
          have hl1 : (((sgm.map (pby A.ts)).take (x + 1)).flatten).length ≤ tot sgm := by
            rw [← List.map_take, pby_flat _ (fun q hq => hlen q (List.mem_of_mem_take hq))]
            exact tot_take _ _
          rw [hft, List.length_append] at hl1
          refine xgo [134] 40 hA ?_
          refine ya (by rfl) ?_
          refine yl (i := k) hM (by rfl) rfl k1 ?_
          rw [e23]
          refine xf (fun z => by have := (nI_leI (a := A.S.F 14 k) (b := A.S.F 13 k + x) (by omega) (by omega)).mp z; omega) ?_
          refine ya (by rfl) ?_
          refine yl (i := A.S.F 13 k + x) hM (by rfl) rfl (by show A.S.F 13 k + x < 20000; omega) ?_
          refine ya (by rfl) ?_
          refine yl (i := A.S.F 13 k + x) hM (by rfl) rfl (by show A.S.F 13 k + x < 20000; omega) ?_
          refine xcV (mH_m _ _ _) (c_say2 (ou := ((sgm.map (pby A.ts)).take x).flatten) (w := pby A.ts pp) e30 (e31.trans (by rw [w1])) hM w2 O3 (by omega)) (by rfl) (by rfl) (by rfl) (Nat.zero_le _) (Nat.zero_le _) ?_
          rintro o h' ⟨S4, rfl, rfl, g4, O4⟩
          have q := ih (x + 1) S4 (by omega) (g3.tr g4 (by simp) (fun _ _ z => z)) (by rw [hft]; exact O4)
          rw [← Nat.add_assoc, ← nI_1] at q
          exact q.locs (by simp [nI_zero, nI_one, bI])
      refine xgo [134] 30 hA ?_
      refine xtn (by decide) ?_
      refine xfn rfl ?_
      refine ya (by rfl) ?_
      refine yl (i := k) hM (by rfl) rfl k1 ?_
      rw [d2, b4]
      exact (loop sgm.length 0 S2 (by omega) (gF.refl _ _ _) O2).locs (by simp [nI_zero, nI_one, bI])
    -- fields
    have hji : (j - 2) / 2 < (A.S.fd k).length := by omega
    have hq := List.getElem?_eq_getElem hji
    obtain ⟨qq, hqq⟩ : ∃ qq, qq = (A.S.fd k)[(j - 2) / 2] := ⟨_, rfl⟩
    rw [← hqq] at hq
    obtain ⟨m1, m2, m3, m4, m5, m6⟩ := dd _ _ hq
    have ejx : j / 2 - 1 = (j - 2) / 2 := by omega
    have egd : (A.S.fd k).getD (j / 2 - 1) ((0, 0), (0, 0)) = qq := by
      rw [ejx, List.getD_eq_getElem?_getD, hq]; rfl
    have e3 : (6 : Int32) * nI k + (nI j - 2) / 2 = nI (6 * k + (j - 2) / 2) := by
      show nI 6 * nI k + (nI j - nI 2) / nI 2 = _
      rw [nI_mul, nI_sub (by omega), pk_div (by omega) (by decide) (by decide), nI_add]
    have hdx : 6 * k + (j - 2) / 2 < 6000 := by omega
    refine xgo [186, 205, 221] 60 hA ?_
    refine xtn (fun z => j0 ((nI_eq (b := 0) (by omega) (by decide)).mp z)) ?_
    refine xtn (fun z => j1 ((nI_eq (b := 1) (by omega) (by decide)).mp z)) ?_
    refine And.intro (by decide) (And.intro (by decide) ?_)
    have hrem : nI j - nI j / 2 * 2 = nI (j % 2) := by
      show nI j - nI j / nI 2 * nI 2 = _
      rw [pk_div (by omega) (by decide) (by decide), nI_mul, nI_sub (by omega)]
      congr 1
      omega
    by_cases je : j % 2 = 0
    · have ew : aTold A.ts A.S k j = sub A.ts qq.1 := by
        unfold aTold
        rw [if_neg j1, if_neg j0, if_pos je, egd]
      rw [ew] at hle
      refine xfn (by rw [hrem, je]; rfl) ?_
      rw [e3]
      show xG X 186 _ [] _ _ _
      refine xgo [221] 30 hA ?_
      refine ya (by rfl) ?_
      refine yl (i := 6 * k + (j - 2) / 2) hM (by rfl) rfl hdx ?_
      refine ya (by rfl) ?_
      refine yl (i := 6 * k + (j - 2) / 2) hM (by rfl) rfl hdx ?_
      rw [d2, d2]
      have sg0 := (sts.eq (S' := S2) (fun i _ _ => d2 7 i)).sub m5
      rw [Nat.zero_add] at sg0
      refine xcV (mH_m _ _ _) (c_say2 (ou := []) (w := sub A.ts qq.1) m1 (m2.trans (by rw [sub_len m5])) hM sg0 O2 (by show 0 + _ ≤ _; omega)) (by rfl) (by rfl) (by rfl) (Nat.zero_le _) (Nat.zero_le _) ?_
      rintro o h' ⟨S3, rfl, rfl, g3, O3⟩
      exact (fin S3 g3 (by rw [ew]; exact O3)).locs (by simp [nI_zero, nI_one, bI])
    · have ew : aTold A.ts A.S k j = sub A.ts qq.2 := by
        unfold aTold
        rw [if_neg j1, if_neg j0, if_neg je, egd]
      rw [ew] at hle
      refine xtn (by rw [hrem]; intro z; exact je ((nI_eq (b := 0) (by omega) (by decide)).mp z)) ?_
      rw [e3]
      show xG X 205 _ [] _ _ _
      refine xgo [221] 30 hA ?_
      refine ya (by rfl) ?_
      refine yl (i := 6 * k + (j - 2) / 2) hM (by rfl) rfl hdx ?_
      refine ya (by rfl) ?_
      refine yl (i := 6 * k + (j - 2) / 2) hM (by rfl) rfl hdx ?_
      rw [d2, d2]
      have sg0 := (sts.eq (S' := S2) (fun i _ _ => d2 7 i)).sub m6
      rw [Nat.zero_add] at sg0
      refine xcV (mH_m _ _ _) (c_say2 (ou := []) (w := sub A.ts qq.2) m3 (m4.trans (by rw [sub_len m6])) hM sg0 O2 (by show 0 + _ ≤ _; omega)) (by rfl) (by rfl) (by rfl) (Nat.zero_le _) (Nat.zero_le _) ?_
      rintro o h' ⟨S3, rfl, rfl, g3, O3⟩
      exact (fin S3 g3 (by rw [ew]; exact O3)).locs (by simp [nI_zero, nI_one, bI])
  show xG X 32 _ [] _ _ _
  by_cases j1 : j = 1
  rotate_left
  · have hle : (aTold A.ts A.S k j).length ≤ 16384 := by
      unfold aTold
      rw [if_neg j1]
      refine Nat.le_trans (m := A.ts.length) ?_ (by omega)
      split
      · exact sub_le _ _
      · split <;> exact sub_le _ _
    refine xgo [89] 10 hA ?_
    refine xtn (fun z => j1 ((nI_eq (b := 1) (by omega) (by decide)).mp z)) ?_
    exact (k89 hle).locs (by simp [lv_args, Value.category])
  subst j1
  have ew : aTold A.ts A.S k 1 = txL A.ts A.S k := rfl
  rw [ew, etl] at aT
  rw [ew, etl] at k89
  have cnt : ∀ (m x : Nat), x + m = sgm.length → xG X 47 [(5, .int (nI (A.S.F 13 k + x))), (3, .long (lN (tot (sgm.take x)))), (0, .ref M.1), (1, .int (nI k)), (2, .int (nI 1))] [] (mH h0 M S) 0 0 := by
    intro m
    induction m with
    | zero =>
      intro x hx
      have ex : x = sgm.length := by omega
      subst ex
      rw [List.take_length]
      refine xgo [89] 30 hA ?_
      refine ya (by rfl) ?_
      refine yl (i := k) hM (by rfl) rfl k1 ?_
      rw [c23]
      refine xt (nI_le (by omega) (by omega)) ?_
      refine xb (fun c => ?_) (fun c => ?_)
      · have z := (pk_lLE (b := 16384) (by omega) (by decide)).mp ((lg_cmp_le _ _).mp c)
        exact (k89 z).locs (by simp [nI_zero, nI_one, bI])
      · have z : ¬ tot sgm ≤ 16384 := fun y => c ((lg_cmp_le _ _).mpr ((pk_lLE (b := 16384) (by omega) (by decide)).mpr y))
        rw [if_pos (by omega)] at aT
        rw [aT] at hP
        refine xcV (mH_m _ _ _) (c_Mo_refuse) (by rfl) (by rfl) (by rfl) (Nat.zero_le _) (Nat.zero_le _) ?_
        rintro o h' ⟨rfl, rfl⟩
        exact xP hP ⟨_, rfl, ⟨rfl, _, rfl⟩, R.thr _⟩
    | succ m ih =>
      intro x hx
      have hxl : x < sgm.length := by omega
      obtain ⟨pp, hpp⟩ : ∃ pp, sgm[x]? = some pp := ⟨_, List.getElem?_eq_getElem hxl⟩
      have hps := sat x pp hpp
      obtain ⟨u1, u2, u3⟩ := sps _ pp hps
      obtain ⟨w1, w2, w3⟩ := one (S1 := S) (fun _ => rfl) _ pp hps
      refine xgo [47] 30 hA ?_
      refine ya (by rfl) ?_
      refine yl (i := k) hM (by rfl) rfl k1 ?_
      rw [c23]
      refine xf (fun z => by have := (nI_leI (a := A.S.F 14 k) (b := A.S.F 13 k + x) (by omega) (by omega)).mp z; omega) ?_
      refine ya (by rfl) ?_
      refine yl (i := A.S.F 13 k + x) hM (by rfl) rfl (by show A.S.F 13 k + x < 20000; omega) ?_
      rw [u2]
      have q := ih (x + 1) (by omega)
      rw [tot_snoc hpp, ← lN_add, ← nI_l (show pp.2 < 2 ^ 31 by omega), ← Nat.add_assoc, ← nI_1] at q
      exact q.locs (by simp [nI_zero, nI_one, bI])
  refine xgo [47] 30 hA ?_
  refine xfn rfl ?_
  refine ya (by rfl) ?_
  refine yl (i := k) hM (by rfl) rfl k1 ?_
  rw [b4]
  exact (cnt sgm.length 0 (by omega)).locs (by simp [lv_args, Value.category, tot]; rfl)
end
