/-! CONTRACTS, 26: selectors of an element -/
theorem nI_dec {a : Nat} (h : 0 < a) : nI a + (-1) = nI (a - 1) := by
  have e1 : nI a = nI (a - 1) + 1 := by rw [nI_1]; congr 1; omega
  rw [e1, Int32.add_assoc]
  show nI (a - 1) + 0 = _
  rw [Int32.add_zero]
theorem nI_dec0 : nI 0 + (-1) = (-1 : Int32) := rfl
theorem nI_neg {a : Nat} (h : a < 2 ^ 31) : ¬ nI a < (0 : Int32) := fun z => by
  have := (nI_ltI (a := a) (b := 0) h (by decide)).mp z
  omega
def vO (ad : Nat → Nat) (q : Option Nat) : Value := match q with
  | none => .null
  | some i => .ref (ad i)
/-- the first n places of an array of elements -/
def aR (vs : List Value) (ad : Nat → Nat) (n : Nat) (R : RW) : Prop := vs.length = 20 ∧ ∀ d, d < n → vs[d]? = some (vO ad (R d))
theorem aR.put {vs : List Value} {ad : Nat → Nat} {n d : Nat} {R R' : RW} (A : aR vs ad n R) (q : Option Nat) (hd : d < 20) (h1 : R' d = q) (h2 : ∀ d', d' ≠ d → d' < n → R' d' = R d') (n' : Nat) (hn : ∀ d', d' < n' → d' < n ∨ d' = d) : aR (vs.set d (vO ad q)) ad n' R' := by
  refine ⟨by rw [List.length_set]; exact A.1, fun d' hd' => ?_⟩
  by_cases z : d' = d
  · subst z
    rw [List.getElem?_set_self (by rw [A.1]; exact hd), h1]
  · rw [List.getElem?_set_ne (fun w => z w.symm)]
    rcases hn d' hd' with y | y
    · rw [h2 d' z y]; exact A.2 d' y
    · exact absurd y z
theorem aR.congr {vs : List Value} {ad : Nat → Nat} {n : Nat} {R R' : RW} (A : aR vs ad n R) (h : ∀ d, d < n → R' d = R d) : aR vs ad n R' := ⟨A.1, fun d hd => by rw [h d hd]; exact A.2 d hd⟩
theorem rfn_vO (ad : Nat → Nat) (F : SF) (i : Nat) : rfn ad (F 3 i) = vO ad (befO F i) := by
  unfold rfn befO
  cases F 3 i <;> rfl
theorem pad_ne {ad : Nat → Nat} {ro x : Nat} (h : x ≠ 0) : pad ad ro x = ad (x - 1) := by
  cases x with
  | zero => exact absurd rfl h
  | succ k => rfl
/-- elements that stand, and an array beside them -/
def zE (D : xD) (B : Nat → Prop) (z h : xH) (ts : List Nat) (S : SS) (G : SG) (rc : Nat) : Prop := fr [] z h ∧ z rc = none ∧ (∀ i, i < S.n → elI D B z ts S G i) ∧ SW S
theorem elI.ext {D : xD} {B : Nat → Prop} {z z' : xH} {ts : List Nat} {S : SS} {G : SG} {i : Nat} (E : elI D B z ts S G i) (f : fr [] z z') : elI D B z' ts S G i :=
  ⟨f _ _ E.1 (by simp), E.2.1.ext f, E.2.2.1.ext f, E.2.2.2.mono fun a b q => q.kept (ext_kp f)⟩
theorem zE.at {D : xD} {B : Nat → Prop} {z h : xH} {ts : List Nat} {S : SS} {G : SG} {rc i : Nat} (Z : zE D B z h ts S G rc) (hi : i < S.n) : elI D B h ts S G i := (Z.2.2.1 i hi).ext Z.1
theorem zE.put {D : xD} {B : Nat → Prop} {z h : xH} {ts : List Nat} {S : SS} {G : SG} {rc : Nat} {c : xC} (Z : zE D B z h ts S G rc) : zE D B z (xset h rc c) ts S G rc := ⟨Z.1.put (Or.inr Z.2.1), Z.2⟩
theorem zE.b {D : xD} {B : Nat → Prop} {z h : xH} {ts : List Nat} {S : SS} {G : SG} {rc i : Nat} (Z : zE D B z h ts S G rc) (hi : i < S.n) : elB S i := (Z.2.2.2.2 i hi).2.2.2.2
set_option maxRecDepth 20000 in
theorem c_moveBack {B : Nat → Prop} {l : Launch} {D : xD} {z h : xH} {ts : List Nat} {S : SS} {G : SG} {rc e lk : Nat} {R : RW} {vs : List Value} (Z : zE D B z h ts S G rc) (he : e < S.n) (hR : rwOk S e R) (hrc : h rc = some (105, vs)) (A : aR vs G.ad (S.F 5 e + 1) R) (hlk : lk ≤ 256) : xMet l D 0 y_Se_moveBack [.ref rc, .int (nI (S.F 5 e)), .int (cI lk)] h 0 0 (fun o h' => o = .inl none ∧ ∃ vs', h' = xset h rc (105, vs') ∧ aR vs' G.ad (S.F 5 e + 1) (mvR S.F lk R (S.F 5 e))) := by
  have W := Z.2.2.2
  have hdep := (W.2 e he).1.2.2
  refine m_Se_moveBack (Nat.le_of_ble_eq_true rfl) fun X hl hD hP hA => ?_
  subst hl hD
  by_cases h43 : lk = 43
  · have key : ∀ d : Nat, (∃ vs1 : List Value, d ≤ S.F 5 e + 1 ∧ aR vs1 G.ad (S.F 5 e + 1) (fun d' => if d' < d then mvR S.F lk R (S.F 5 e) d' else R d') ∧ True) → ∀ vs1 : List Value, aR vs1 G.ad (S.F 5 e + 1) (fun d' => if d' < d then mvR S.F lk R (S.F 5 e) d' else R d') → xG X 8 [(3, .int (nI d)), (0, .ref rc), (1, .int (nI (S.F 5 e))), (2, .int (cI lk))] [] (xset h rc (105, vs1)) 0 0 := by
      refine xind _ _ (fun d => S.F 5 e + 1 - d) (fun d hk ih => ?_)
      obtain ⟨-, hd, -, -⟩ := hk
      intro vs1 A1
      have Z1 := Z.put (c := (105, vs1))
      have hrc1 : xset h rc (105, vs1) rc = some (105, vs1) := xset_same _ _ _
      refine xgo [8] 60 hA ?_
      by_cases hle : d ≤ S.F 5 e
      · refine xf (fun w => by have := (nI_ltI (a := S.F 5 e) (b := d) (by omega) (by omega)).mp w; omega) ?_
        have hv : vs1[d]? = some (vO G.ad (if d < d then mvR S.F lk R (S.F 5 e) d else R d)) := A1.2 d (by omega)
        rw [show (if d < d then mvR S.F lk R (S.F 5 e) d else R d) = R d from if_neg (Nat.lt_irrefl _)] at hv
        have nxt : ∀ q, mvR S.F lk R (S.F 5 e) d = q → xG X 8 [(3, .int (nI (d + 1))), (0, .ref rc), (1, .int (nI (S.F 5 e))), (2, .int (cI lk))] [] (xset h rc (105, vs1.set d (vO G.ad q))) 0 0 := by
          intro q hq
          have A2 : aR (vs1.set d (vO G.ad q)) G.ad (S.F 5 e + 1) (fun d' => if d' < d + 1 then mvR S.F lk R (S.F 5 e) d' else R d') := A1.put q (by omega) (by rw [if_pos (Nat.lt_succ_self d)]; exact hq) (fun d' h1 h2 => by
            by_cases w : d' < d
            · rw [if_pos w, if_pos (by omega)]
            · rw [if_neg w, if_neg (by omega)]) _ (fun d' h => Or.inl h)
          exact ih (d + 1) ⟨_, by omega, A2, trivial⟩ (by omega) _ A2
        cases hRd : R d with
        | none =>
          rw [hRd] at hv
          have hm : mvR S.F lk R (S.F 5 e) d = none := by unfold mvR; rw [if_pos h43, hRd]; rfl
          refine xld (Or.inl hrc1) (by rfl) hv ?_
          refine xsn (ok := xok5) hrc1 (by rfl) (by rw [A1.1]; omega) ?_
          have := nxt none hm
          rw [← nI_1] at this
          rw [xset_set]
          exact this
        | some x =>
          rw [hRd] at hv
          obtain ⟨b1, b2, b3⟩ := hR d x hle hRd
          have hm : mvR S.F lk R (S.F 5 e) d = befO S.F x := by unfold mvR; rw [if_pos h43, hRd]; rfl
          obtain ⟨g1, -⟩ := Z1.at b1
          refine xld (Or.inl hrc1) (by rfl) hv ?_
          refine xld (Or.inl hrc1) (by rfl) hv ?_
          cases hb : befO S.F x with
          | none =>
            refine xg (v := .null) g1 (by show some (rfn G.ad (S.F 3 x)) = _; rw [rfn_vO, hb]; rfl) ?_
            refine xsn (ok := xok5) hrc1 (by rfl) (by rw [A1.1]; omega) ?_
            have := nxt none (hm.trans hb)
            rw [← nI_1] at this
            rw [xset_set]
            exact this
          | some y =>
            have hy : y < S.n := by
              have w := (W.2 x b1).1.2.1
              unfold befO at hb
              split at hb
              · cases hb
              · cases hb; omega
            obtain ⟨gy, -⟩ := Z1.at hy
            refine xg (v := .ref (G.ad y)) g1 (by show some (rfn G.ad (S.F 3 x)) = _; rw [rfn_vO, hb]; rfl) ?_
            refine xsq hrc1 (by rfl) (by rw [A1.1]; omega) gy rfl ?_
            have := nxt (some y) (hm.trans hb)
            rw [← nI_1] at this
            rw [xset_set]
            exact this
      · refine xt ((nI_ltI (a := S.F 5 e) (b := d) (by omega) (by omega)).mpr (by omega)) ?_
        exact xP hP ⟨rfl, vs1, rfl, A1.congr fun d' hd' => (if_pos (by omega)).symm⟩
    refine xgo [8] 60 hA ?_
    refine xfn (by rw [h43]; rfl) ?_
    have A0 : aR vs G.ad (S.F 5 e + 1) (fun d' => if d' < 0 then mvR S.F lk R (S.F 5 e) d' else R d') := A.congr fun d' _ => if_neg (Nat.not_lt_zero _)
    have := key 0 ⟨vs, by omega, A0, trivial⟩ vs A0
    rw [xset_self hrc] at this
    exact this
  · -- outwards
    have nw : ∀ k, k ≤ S.F 5 e → mvR S.F lk R (S.F 5 e) (S.F 5 e - k) = (dpR S.F lk R (S.F 5 e) k).bind (parO S.F) := fun k hk => by
      unfold mvR
      rw [if_neg h43, show S.F 5 e - (S.F 5 e - k) = k by omega]
    have hlkc : cI lk = 47 ↔ lk = 47 := cI_lit (k := 47) hlk (by decide)
    have key : ∀ n k : Nat, k + n = S.F 5 e + 1 → ∀ (dv ov : Value) (vs1 : List Value), aR vs1 G.ad (S.F 5 e + 1) (fun d' => if S.F 5 e < d' + k then mvR S.F lk R (S.F 5 e) d' else R d') → dv = vO G.ad (dpR S.F lk R (S.F 5 e) k) → ∀ ls : xL, (∀ q ∈ [(4, Value.int (if k ≤ S.F 5 e then nI (S.F 5 e - k) else -1)), (3, dv), (0, .ref rc), (1, .int (nI (S.F 5 e))), (2, .int (cI lk))], q ∈ ls) → xG X 44 ls [] (xset h rc (105, vs1)) 0 0 := by
      intro n
      induction n with
      | zero =>
        intro k hk dv ov vs1 A1 hdv ls hls
        refine xG.locs ?_ hls
        rw [if_neg (by omega)]
        refine xgo [] 60 hA ?_
        refine xt (by decide) ?_
        exact xP hP ⟨rfl, vs1, rfl, A1.congr fun d' hd' => (if_pos (by omega)).symm⟩
      | succ n ih =>
        intro k hk dv ov vs1 A1 hdv ls hls
        refine xG.locs ?_ hls
        rw [if_pos (by omega)]
        have Z1 := Z.put (c := (105, vs1))
        have hrc1 : xset h rc (105, vs1) rc = some (105, vs1) := xset_same _ _ _
        have hv : vs1[S.F 5 e - k]? = some (vO G.ad (if S.F 5 e < S.F 5 e - k + k then mvR S.F lk R (S.F 5 e) (S.F 5 e - k) else R (S.F 5 e - k))) := A1.2 (S.F 5 e - k) (by omega)
        rw [if_neg (by omega)] at hv
        -- the store
        have fin : ∀ (ov dv' : Value) (oq : Option Nat), (dpR S.F lk R (S.F 5 e) k).bind (parO S.F) = oq → ov = vO G.ad oq → dv' = vO G.ad (dpR S.F lk R (S.F 5 e) (k + 1)) → xG X 84 [(3, dv'), (5, ov), (4, .int (nI (S.F 5 e - k))), (0, .ref rc), (1, .int (nI (S.F 5 e))), (2, .int (cI lk))] [] (xset h rc (105, vs1)) 0 0 := by
          intro ov dv' oq h1 h2 h3
          have A2 : aR (vs1.set (S.F 5 e - k) (vO G.ad oq)) G.ad (S.F 5 e + 1) (fun d' => if S.F 5 e < d' + (k + 1) then mvR S.F lk R (S.F 5 e) d' else R d') := A1.put oq (by omega) (by rw [if_pos (by omega), nw k (by omega)]; exact h1) (fun d' q1 q2 => by
            by_cases w : S.F 5 e < d' + k
            · rw [if_pos w, if_pos (by omega)]
            · rw [if_neg w, if_neg (by omega)]) _ (fun d' h => Or.inl h)
          have hdec : nI (S.F 5 e - k) + (-1) = (if k + 1 ≤ S.F 5 e then nI (S.F 5 e - (k + 1)) else -1) := by
            by_cases w : k + 1 ≤ S.F 5 e
            · rw [if_pos w, nI_dec (by omega)]; congr 1
            · rw [if_neg w, show S.F 5 e - k = 0 by omega]; rfl
          have hyn : ∀ y, oq = some y → y < S.n := fun y hoq => by
            subst hoq
            cases h4 : dpR S.F lk R (S.F 5 e) k with
            | none => rw [h4] at h1; cases h1
            | some j =>
              rw [h4] at h1
              have h1 : parO S.F j = some y := h1
              obtain ⟨a1, -⟩ := dpR_ok W he hR k (by omega) j h4
              have w := (W.2 j a1).1.1
              unfold parO at h1
              split at h1
              · cases h1
              · cases h1; omega
          have go : ∀ (dv' : Value), dv' = vO G.ad (dpR S.F lk R (S.F 5 e) (k + 1)) → (∃ w, dv' = .null ∨ dv' = .ref w) → ∀ (ov : Value), ov = vO G.ad oq → xG X 84 [(3, dv'), (5, ov), (4, .int (nI (S.F 5 e - k))), (0, .ref rc), (1, .int (nI (S.F 5 e))), (2, .int (cI lk))] [] (xset h rc (105, vs1)) 0 0 := by
            intro dv' h3 hw ov h2
            have nxt : ∀ ls : xL, (∀ q ∈ [(4, Value.int (nI (S.F 5 e - k) + (-1))), (3, dv'), (0, .ref rc), (1, .int (nI (S.F 5 e))), (2, .int (cI lk))], q ∈ ls) → xG X 44 ls [] (xset h rc (105, vs1.set (S.F 5 e - k) (vO G.ad oq))) 0 0 := by
              intro ls hls
              rw [hdec] at hls
              exact ih (k + 1) (by omega) dv' .null _ A2 h3 ls hls
            obtain ⟨w, hw | hw⟩ := hw
            · subst hw
              cases oq with
              | none =>
                subst h2
                refine xgo [44] 60 hA ?_
                refine xsn (ok := xok5) hrc1 (by rfl) (by rw [A1.1]; omega) ?_
                rw [xset_set]
                exact nxt _ (by simp)
              | some y =>
                subst h2
                obtain ⟨gy, -⟩ := Z1.at (hyn y rfl)
                refine xgo [44] 60 hA ?_
                refine xsq hrc1 (by rfl) (by rw [A1.1]; omega) gy rfl ?_
                rw [xset_set]
                exact nxt _ (by simp)
            · subst hw
              cases oq with
              | none =>
                subst h2
                refine xgo [44] 60 hA ?_
                refine xsn (ok := xok5) hrc1 (by rfl) (by rw [A1.1]; omega) ?_
                rw [xset_set]
                exact nxt _ (by simp)
              | some y =>
                subst h2
                obtain ⟨gy, -⟩ := Z1.at (hyn y rfl)
                refine xgo [44] 60 hA ?_
                refine xsq hrc1 (by rfl) (by rw [A1.1]; omega) gy rfl ?_
                rw [xset_set]
                exact nxt _ (by simp)
          refine go dv' h3 ?_ ov h2
          cases hdq : dpR S.F lk R (S.F 5 e) (k + 1) with
          | none => exact ⟨0, Or.inl (by rw [h3, hdq]; rfl)⟩
          | some w => exact ⟨G.ad w, Or.inr (by rw [h3, hdq]; rfl)⟩
        -- from 61 on
        have mid : ∀ (oq : Option Nat), (dpR S.F lk R (S.F 5 e) k).bind (parO S.F) = oq → xG X 63 [(5, vO G.ad oq), (4, .int (nI (S.F 5 e - k))), (3, dv), (0, .ref rc), (1, .int (nI (S.F 5 e))), (2, .int (cI lk))] [] (xset h rc (105, vs1)) 0 0 := by
          intro oq h1
          have old : ¬ (lk = 47 ∧ oq.isSome = true) → vO G.ad (R (S.F 5 e - k)) = vO G.ad (dpR S.F lk R (S.F 5 e) (k + 1)) := fun w => by
            show _ = vO G.ad (if lk = 47 ∧ ((dpR S.F lk R (S.F 5 e) k).bind (parO S.F)).isSome = true then _ else _)
            rw [h1, if_neg w]
          have l79 : ¬ (lk = 47 ∧ oq.isSome = true) → xG X 79 [(5, vO G.ad oq), (4, .int (nI (S.F 5 e - k))), (3, dv), (0, .ref rc), (1, .int (nI (S.F 5 e))), (2, .int (cI lk))] [] (xset h rc (105, vs1)) 0 0 := by
            intro w
            refine xgo [83] 60 hA ?_
            refine xld (Or.inl hrc1) (by rfl) hv ?_
            cases hRd : R (S.F 5 e - k) with
            | none =>
              refine xgo [84] 20 hA ?_
              exact (fin _ .null oq h1 rfl (by rw [← old w, hRd]; rfl)).locs (by simp)
            | some y =>
              refine xgo [84] 20 hA ?_
              exact (fin _ (.ref (G.ad y)) oq h1 rfl (by rw [← old w, hRd]; rfl)).locs (by simp)
          refine xgo [79, 69] 60 hA ?_
          refine xb (fun c => ?_) (fun c => ?_)
          · exact l79 fun w => c (hlkc.mpr w.1)
          · have c1 := hlkc.mp c
            cases oq with
            | none =>
              refine xgo [79] 60 hA ?_
              exact l79 fun w => by cases w.2
            | some y =>
              refine xgo [84] 60 hA ?_
              refine (fin _ (.ref (G.ad y)) (some y) h1 rfl ?_).locs (by simp)
              show Value.ref (G.ad y) = vO G.ad (if lk = 47 ∧ ((dpR S.F lk R (S.F 5 e) k).bind (parO S.F)).isSome = true then _ else _)
              rw [if_pos ⟨c1, by rw [h1]; rfl⟩, h1]; rfl
        cases hdp : dpR S.F lk R (S.F 5 e) k with
        | none =>
          rw [hdp] at hdv mid
          subst hdv
          refine xgo [63] 60 hA ?_
          refine xf (nI_neg (by omega)) ?_
          exact (mid none rfl).locs (by simp [vO])
        | some j =>
          obtain ⟨a1, a2, a3⟩ := dpR_ok W he hR k (by omega) j hdp
          have hne : S.F 2 j ≠ 0 := fun w => by have := (W.2 j a1).2.1 w; omega
          rw [hdp] at hdv mid
          subst hdv
          obtain ⟨gj, -⟩ := Z1.at a1
          refine xgo [63] 60 hA ?_
          refine xf (nI_neg (by omega)) ?_
          refine xg (v := .ref (G.ad (S.F 2 j - 1))) gj (by show some (Value.ref (pad G.ad G.ro (S.F 2 j))) = _; rw [pad_ne hne]) ?_
          have e1 : (some j).bind (parO S.F) = some (S.F 2 j - 1) := by show parO S.F j = _; rw [parO, if_neg hne]
          exact (mid (some (S.F 2 j - 1)) e1).locs (by simp [vO])
    refine xgo [44] 60 hA ?_
    refine xtn (fun w => h43 ((cI_lit (k := 43) hlk (by decide)).mp w)) ?_
    have A0 : aR vs G.ad (S.F 5 e + 1) (fun d' => if S.F 5 e < d' + 0 then mvR S.F lk R (S.F 5 e) d' else R d') := A.congr fun d' hd' => if_neg (by omega)
    have := key (S.F 5 e + 1) 0 (by omega) .null .null vs A0 rfl [(4, .int (nI (S.F 5 e))), (3, .null), (0, .ref rc), (1, .int (nI (S.F 5 e))), (2, .int (cI lk))] (by simp)
    rw [xset_self hrc] at this
    exact this
