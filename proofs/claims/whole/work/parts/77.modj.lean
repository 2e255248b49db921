/-! THE REFERENCE, 10: known names, values -/
theorem sg.sub {S : MS} {b : Nat} {t : List Nat} {a : Nat × Nat} (T : sg S b t) (h : a.1 + a.2 ≤ t.length) : sg S (b + a.1) (sub t a) := by
  obtain ⟨t1, t2, t3⟩ := T
  refine ⟨fun k hk => ?_, by rw [sub_len h]; omega, fun x hx => t3 x (List.mem_of_mem_drop (List.mem_of_mem_take hx))⟩
  rw [sub_len h] at hk
  rw [sub_ch h hk, Nat.add_assoc]
  exact t1 (a.1 + k) (by omega)
theorem sg.eq {S S' : MS} {b : Nat} {t : List Nat} (T : sg S b t) (h : ∀ i, b ≤ i → i < b + t.length → S'.2 7 i = S.2 7 i) : sg S' b t := ⟨fun k hk => by rw [h _ (by omega) (by omega)]; exact T.1 k hk, T.2⟩
theorem sg_tx {S : MS} {b : Nat} {t : List Nat} (T : tx S b t) : sg S b t := ⟨T.2.2.1, by have := T.2.2.2.1; have := T.2.2.2.2.1; omega, T.2.2.2.2.2⟩
def nsM (S : MS) (b : Nat) (t : List Nat) (ns : List (Nat × Nat)) : Prop := ∀ i a, ns[i]? = some a → S.2 77 i = nI (b + a.1) ∧ S.2 78 i = nI a.2 ∧ a.1 + a.2 ≤ t.length
theorem fndN_at {t : List Nat} {ns : List (Nat × Nat)} {w : List Nat} {k : Nat} {a : Nat × Nat} (hk : ns[k]? = some a) (h1 : sub t a = w) (h2 : ∀ j a, j < k → ns[j]? = some a → ¬ sub t a = w) : fndN t ns w = k := by
  obtain ⟨hl, e⟩ := List.getElem?_eq_some_iff.mp hk
  unfold fndN
  refine (List.findIdx_eq hl).mpr ⟨by rw [e]; exact decide_eq_true h1, fun j hj => ?_⟩
  exact decide_eq_false (h2 j _ hj (List.getElem?_eq_getElem (by omega)))
theorem fndN_no {t : List Nat} {ns : List (Nat × Nat)} {w : List Nat} (h2 : ∀ (j : Nat) a, ns[j]? = some a → ¬ sub t a = w) : fndN t ns w = ns.length := by
  unfold fndN
  refine List.findIdx_eq_length.mpr fun x hx => ?_
  obtain ⟨j, hj, rfl⟩ := List.mem_iff_getElem.mp hx
  simpa using h2 j _ (List.getElem?_eq_getElem hj)
theorem tk_dg {t : List Nat} {s : Nat} (h : tkK t s = 2) : dg (ch t s) = true := by
  unfold tkK at h
  split at h
  · cases h
  · split at h
    · split at h <;> cases h
    · split at h
      · assumption
      · split at h
        · split at h <;> cases h
        · cases h
theorem sm_no : ∀ c, c < 257 → sm c = true → dg c = false ∧ c ≠ 34 := by decide +kernel
theorem dg_no : ∀ c, c < 257 → dg c = true → c ≠ 34 := by decide +kernel
theorem tkK_lt (t : List Nat) (s : Nat) : tkK t s < 6 := by
  unfold tkK
  repeat' split
  all_goals decide
/-- a value -/
def vlM (S : MS) (b : Nat) (t : List Nat) (i : Nat) (v : Nat × (Nat × Nat) × Nat × Nat) : Prop := S.2 72 i = nI (if 0 < v.2.2.2 then 4 else v.1) ∧ (v.1 ≠ 2 → S.2 73 i = nI (b + v.2.1.1) ∧ S.2 74 i = nI v.2.1.2 ∧ v.2.1.1 + v.2.1.2 ≤ t.length ∧ v.2.2.2 = 0) ∧ (v.1 = 2 → S.2 75 i = nI v.2.2.1 ∧ v.2.2.1 < 10000000 ∧ (0 < v.2.2.2 → v.2.2.2 = v.2.2.1 ∧ v.2.2.2 ≤ 1000)) ∧ 1 ≤ v.1 ∧ v.1 ≤ 3
section
variable {l : Launch} {D : xD} {h0 : xH} {M : MA} {S : MS}
set_option maxRecDepth 20000 in
theorem c_known2 {b a : Nat} {t w : List Nat} {ns : List (Nat × Nat)} (hM : mok M) (G : sg S b t) (N : nsM S b t ns) (h69 : S.1 69 = nI ns.length) (hn : ns.length ≤ 30) (A : sg S a w) : xMet l D 1 y_Mo_known [.ref M.1, .int (nI a), .int (nI w.length)] (mH h0 M S) 0 0 (fun o h' => h' = mH h0 M S ∧ o = .inl (some (.int (if fndN t ns w < ns.length then nI (fndN t ns w) else -1)))) := by
  refine m_Mo_known (Nat.le_of_ble_eq_true rfl) fun X hl hD hP hA => ?_
  subst hl hD
  have key : ∀ k : Nat, (k ≤ ns.length ∧ ∀ j a, j < k → ns[j]? = some a → ¬ sub t a = w) → xG X 2 [(3, .int (nI k)), (0, .ref M.1), (1, .int (nI a)), (2, .int (nI w.length))] [] (mH h0 M S) 0 0 := by
    refine xind _ _ (fun k => ns.length - k) (fun k hk ih => ?_)
    obtain ⟨hk, he⟩ := hk
    refine xgo [2] 40 hA ?_
    refine yg (by rfl) ?_
    rw [h69]
    refine xb (fun c => ?_) (fun c => ?_)
    · have : k = ns.length := Nat.le_antisymm hk ((nI_leI (a := ns.length) (b := k) (by omega) (by omega)).mp c)
      subst this
      exact xP hP ⟨rfl, by rw [fndN_no (fun j a h => he j a (List.getElem?_eq_some_iff.mp h).1 h), if_neg (Nat.lt_irrefl _)]⟩
    · have c1 : k < ns.length := Nat.lt_of_not_le fun z => c (nI_le z (by omega))
      obtain ⟨n1, n2, n3⟩ := N k _ (List.getElem?_eq_getElem c1)
      refine ya (by rfl) ?_
      refine yl (i := k) hM (by rfl) rfl (by show k < 30; omega) ?_
      refine ya (by rfl) ?_
      refine yl (i := k) hM (by rfl) rfl (by show k < 30; omega) ?_
      have B := G.sub n3
      have e := sub_len n3
      rw [n1, n2, ← e]
      refine xcV (mH_m _ _ _) (c_Mo_same hM B A) (by rfl) (by rfl) (by rfl) (Nat.zero_le _) (Nat.zero_le _) ?_
      rintro o h' ⟨rfl, rfl⟩
      refine xb (fun c => ?_) (fun c => ?_)
      · have n := of_decide_eq_false ((bI_0 _).mp c)
        have q := ih (k + 1) ⟨c1, fun j a hj h => by
          rcases Nat.lt_succ_iff_lt_or_eq.mp hj with z | z
          · exact he j a z h
          · subst z
            rw [List.getElem?_eq_getElem c1] at h
            cases h
            exact n⟩ (by omega)
        rw [← nI_1] at q
        exact q
      · have n := of_decide_eq_true ((bI_n0 _).mp c)
        have f := fndN_at (List.getElem?_eq_getElem c1) n he
        exact xP hP ⟨rfl, by rw [f, if_pos c1]⟩
  refine xgo [2] 10 hA ?_
  exact key 0 ⟨Nat.zero_le _, fun j _ hj => absurd hj (Nat.not_lt_zero _)⟩
set_option maxRecDepth 20000 in
theorem c_Mo_needF {c : Int32} {w : Nat} (hf : S.1 6 = nI w) (hw : w < 2 ^ 31) : xMet l D 2 y_Mo_need [.ref M.1, .int c] (mH h0 M S) 0 0 (fun o h' => o = .inl none ∧ h' = mH h0 M S) := by
  refine m_Mo_need (Nat.le_of_ble_eq_true rfl) fun X hl hD hP hA => ?_
  subst hl hD
  refine xgo [] 30 hA ?_
  refine yg (by rfl) ?_
  rw [hf]
  refine xf (nI_neg hw) ?_
  exact xP hP ⟨rfl, rfl⟩
set_option maxRecDepth 20000 in
theorem c_oneValueF {w : Nat} (hf : S.1 6 = nI w) (hw : w < 2 ^ 31) : xMet l D 2 y_Mo_oneValue [.ref M.1] (mH h0 M S) 0 0 (fun o h' => o = .inl none ∧ h' = mH h0 M S) := by
  refine m_Mo_oneValue (Nat.le_of_ble_eq_true rfl) fun X hl hD hP hA => ?_
  subst hl hD
  refine xgo [] 30 hA ?_
  refine yg (by rfl) ?_
  rw [hf]
  refine xf (nI_neg hw) ?_
  exact xP hP ⟨rfl, rfl⟩
set_option maxRecDepth 20000 in
theorem c_oneValue2 {b p i : Nat} {t : List Nat} (hM : mok M) (A : atA S b t p) (h68 : S.1 68 = nI i) (hi : i < 600) : xMet l D 2 y_Mo_oneValue [.ref M.1] (mH h0 M S) 0 0 (fun o h' => ∃ S', h' = mH h0 M S' ∧ o = .inl none ∧ gF tL (fun k x => 72 ≤ k ∧ k ≤ 76 ∧ x = i) S S' ∧ mRes S' b t (pVal2 t p) (fun v => vlM S' b t i v.1 ∧ S'.2 76 i = bI v.2)) := by
  obtain ⟨T, K, hf, hp⟩ := id A
  obtain ⟨k1, k2, k3, k4, k5⟩ := id K
  have hB := T.2.2.2.2.2
  have hl := T.2.2.2.2.1
  have hsc := scan_le1 (p := bl) hp
  have hK := tkK_lt t (scan bl t p)
  refine m_Mo_oneValue (Nat.le_of_ble_eq_true rfl) fun X hl hD hP hA => ?_
  subst hl hD
  -- behind the value
  have tail : ∀ (S' : MS) (j : Nat) (v : Nat × (Nat × Nat) × Nat × Nat), gF tL (fun k x => 72 ≤ k ∧ k ≤ 76 ∧ x = i) S S' → atA S' b t j → vlM S' b t i v → pVal2 t p = (if ch t (scan bl t j) = 33 then .ok ((v, true), scan bl t j + 1) else .ok ((v, false), scan bl t j)) → xG X 193 [(1, .int (nI i)), (0, .ref M.1)] [] (mH h0 M S') 0 0 := by
    intro S' j v g A' W eV
    obtain ⟨T', K', hf', hp'⟩ := id A'
    obtain ⟨q1, q2, q3, q4, q5⟩ := id K'
    refine xgo [205] 30 hA ?_
    refine ya (by rfl) ?_
    refine xcV (mH_m _ _ _) (c_Mo_isSign T' K' (c := 33) (by rfl)) (by rfl) (by rfl) (by rfl) (Nat.zero_le _) (Nat.zero_le _) ?_
    rintro o h' ⟨rfl, rfl⟩
    refine ysz (i := i) hM (by rfl) rfl hi (by cases decide (ch t (scan bl t j) = 33) <;> simp [bI]) ?_
    obtain ⟨S2, hS2⟩ : ∃ S2, S2 = s2 S' 76 i (bI (decide (ch t (scan bl t j) = 33))) := ⟨_, rfl⟩
    have g2 : gF [] (fun k x => k = 76 ∧ x = i) S' S2 := by rw [hS2]; exact (gF.refl _ _ _).s ⟨rfl, rfl⟩
    have e76 : S2.2 76 i = bI (decide (ch t (scan bl t j) = 33)) := by rw [hS2, s2_eq]
    have A2 := A'.gf g2 (by decide) (fun i _ _ => by omega)
    have W2 : vlM S2 b t i v := by
      unfold vlM
      rw [g2.2 72 i (by omega), g2.2 73 i (by omega), g2.2 74 i (by omega), g2.2 75 i (by omega)]
      exact W
    have gg := g.tr g2 (by simp) (fun k x z => by omega)
    suffices this : xG X 205 [(1, .int (nI i)), (0, .ref M.1)] [] (mH h0 M S2) 0 0 by
      rw [hS2] at this
      exact this
    obtain ⟨T2, K2, hf2, hp2⟩ := id A2
    obtain ⟨r1, r2, r3, r4, r5⟩ := id K2
    refine xgo [] 30 hA ?_
    refine xcV (mH_m _ _ _) (c_Mo_isSign T2 K2 (c := 33) (by rfl)) (by rfl) (by rfl) (by rfl) (Nat.zero_le _) (Nat.zero_le _) ?_
    rintro o h' ⟨rfl, rfl⟩
    refine xb (fun c1 => ?_) (fun c1 => ?_)
    · have n1 := of_decide_eq_false ((bI_0 _).mp c1)
      refine xP hP ⟨_, rfl, rfl, gg, ?_⟩
      rw [eV, if_neg n1]
      exact ⟨A2.sc, W2, by rw [e76, decide_eq_false n1]⟩
    · have n1 := of_decide_eq_true ((bI_n0 _).mp c1)
      have hlt := ch_lt n1 (by decide)
      refine xcV (mH_m _ _ _) (c_Mo_nextA (p := 0) hM T2 (by rw [r2, (tk_sg (c := 33) (by rfl) n1).2.2]) hf2 (by omega)) (by rfl) (by rfl) (by rfl) (Nat.zero_le _) (Nat.zero_le _) ?_
      rintro o h' ⟨S3, rfl, rfl, f3, A3⟩
      have d3 := fun k => f3.2 k (by simp)
      refine xP hP ⟨_, rfl, rfl, gg.tr f3.g0 (by simp) (fun _ _ z => z), ?_⟩
      rw [eV, if_pos n1]
      refine ⟨A3, ?_, by rw [d3, e76, decide_eq_true n1]⟩
      unfold vlM
      rw [d3, d3, d3, d3]
      exact W2
  obtain ⟨s0, hs0⟩ : ∃ s0, s0 = scan bl t p := ⟨_, rfl⟩
  obtain ⟨E, hE⟩ : ∃ E, E = tkE t s0 := ⟨_, rfl⟩
  rw [← hs0] at k1 k2 k3 k5 hsc hK
  rw [← hE] at k2
  have hEl := tkE_le (t := t) hsc
  rw [← hE] at hEl
  have k143 : ∀ (kk : Nat) (v1 v2 u : Int32), tkK t s0 = kk → ((kk = 3 ∧ v1 = 1 ∧ v2 = 2 ∧ u = 0) ∨ (kk = 2 ∧ v1 = 0 ∧ v2 = 0 ∧ u = 1) ∨ (kk = 1 ∧ v1 = 0 ∧ v2 = 0 ∧ u = 0)) → xG X 143 [(3, .int (S.1 46)), (2, .int u), (1, .int (S.1 68)), (0, .ref M.1)] [] (mH h0 M (s2 (s2 (s2 (s2 S 72 i (S.1 45)) 73 i (S.1 8 + S.1 46 + v1)) 74 i (S.1 47 - S.1 46 - v2)) 75 i (S.1 48))) 0 0 := by
    intro kk v1 v2 u hkk hv
    obtain ⟨S1, hS1⟩ : ∃ S1, S1 = s2 (s2 (s2 (s2 S 72 i (S.1 45)) 73 i (S.1 8 + S.1 46 + v1)) 74 i (S.1 47 - S.1 46 - v2)) 75 i (S.1 48) := ⟨_, rfl⟩
    rw [← hS1]
    have g1 : gF [] (fun k x => 72 ≤ k ∧ k ≤ 76 ∧ x = i) S S1 := by
      rw [hS1]
      refine ((((gF.refl _ _ _).s ?_).s ?_).s ?_).s ?_
      all_goals omega
    have A1 := A.gf g1 (by decide) (fun i _ _ => by omega)
    have e72 : S1.2 72 i = nI kk := by rw [hS1]; simp [s2, k3, hkk]
    have e73 : S1.2 73 i = nI (b + s0) + v1 := by rw [hS1]; simp [s2, T.1, k1, nI_add]
    have e74 : S1.2 74 i = nI E - nI s0 - v2 := by rw [hS1]; simp [s2, k2, k1]
    have e75 : S1.2 75 i = S.1 48 := by rw [hS1]; simp [s2]
    refine xgo [193] 30 hA ?_
    obtain ⟨T1, ⟨-, m2, -⟩, hf1, -⟩ := id A1
    rw [← hs0, ← hE] at m2
    refine xcV (mH_m _ _ _) (c_Mo_nextA (p := 0) hM T1 m2 hf1 hEl) (by rfl) (by rfl) (by rfl) (Nat.zero_le _) (Nat.zero_le _) ?_
    rintro o h' ⟨S2, rfl, rfl, f2, A2⟩
    have d2 := fun k => f2.2 k (by simp)
    have gg := (g1.wk (L := tL) (by simp) (fun _ _ z => z)).tr f2.g0 (by simp) (fun _ _ z => z)
    rcases hv with ⟨z1, z2, z3, z4⟩ | ⟨z1, z2, z3, z4⟩ | ⟨z1, z2, z3, z4⟩
    · -- a string
      subst z1 z2 z3 z4
      refine xt rfl ?_
      have eS := pStr_1 hkk
      obtain ⟨r1, r2, r3, r4, r5⟩ := pStr_sub eS
      simp only [] at r2
      rw [← hE] at eS r2 r3
      refine (tail S2 E (3, (s0 + 1, E - s0 - 2), 0, 0) gg A2 ?_ ?_).locs (by rw [h68]; simp)
      · refine ⟨by rw [d2, e72]; rfl, fun _ => ⟨?_, ?_, ?_, rfl⟩, fun z => (by cases z), (Nat.le_of_ble_eq_true rfl), (Nat.le_of_ble_eq_true rfl)⟩
        · rw [d2, e73]; exact nI_1 _
        · rw [d2, e74, nI_sub (by omega)]; exact nI_sub (b := 2) (by omega)
        · show s0 + 1 + (E - s0 - 2) ≤ t.length
          omega
      · rw [pVal2, ← hs0, pVal, if_pos r4, pB_ok eS]; rfl
    · -- a number
      subst z1 z2 z3 z4
      refine xf (by decide) ?_
      have eN := pNum_1 hkk
      have hlt := pNum_lt eN
      rw [← hE] at eN
      have hd := tk_dg hkk
      have h34 := dg_no _ (Nat.lt_succ_of_le (hB.le s0)) hd
      have e48 := k5 hkk
      obtain ⟨N, hN⟩ : ∃ N, N = nmv ((t.drop s0).take (scan dg t s0 - s0)) := ⟨_, rfl⟩
      rw [← hN] at eN hlt e48
      have eV : pVal2 t p = (pB (if ch t (scan bl t E) = 37 then (if N < 1 ∨ 1000 < N then .error s0 else .ok ((N, N), scan bl t E + 1)) else .ok ((N, 0), scan bl t E) : Except Nat ((Nat × Nat) × Nat)) fun q j => if ch t (scan bl t j) = 33 then .ok (((2, (0, 0), q.1, q.2), true), scan bl t j + 1) else .ok (((2, (0, 0), q.1, q.2), false), scan bl t j)) := by
        rw [pVal2, ← hs0, pVal, if_neg h34, if_pos hd, pAmt, pB_ok eN]
        by_cases z : ch t (scan bl t E) = 37
        · rw [if_pos z]
          by_cases y : N < 1 ∨ 1000 < N
          · rw [if_pos y]; rfl
          · rw [if_neg y]; rfl
        · rw [if_neg z]; rfl
      obtain ⟨T2, K2, hf2, hp2⟩ := id A2
      obtain ⟨r1, r2, r3, r4, r5⟩ := id K2
      refine xcV (mH_m _ _ _) (c_Mo_isSign T2 K2 (c := 37) (by rfl)) (by rfl) (by rfl) (by rfl) (Nat.zero_le _) (Nat.zero_le _) ?_
      rintro o h' ⟨rfl, rfl⟩
      refine xb (fun c1 => ?_) (fun c1 => ?_)
      · have n1 := of_decide_eq_false ((bI_0 _).mp c1)
        refine (tail S2 (scan bl t E) (2, (0, 0), N, 0) gg A2.sc ?_ ?_).locs (by rw [h68]; simp)
        · exact ⟨by rw [d2, e72]; rfl, fun z => absurd rfl z, fun _ => ⟨by rw [d2, e75, e48], hlt, fun z => absurd z (Nat.lt_irrefl 0)⟩, (Nat.le_of_ble_eq_true rfl), (Nat.le_of_ble_eq_true rfl)⟩
        · rw [eV, if_neg n1]; rfl
      · have n1 := of_decide_eq_true ((bI_n0 _).mp c1)
        rw [if_pos n1] at eV
        have hlE := ch_lt n1 (by decide)
        refine ya (by rfl) ?_
        refine yl (i := i) hM (by rfl) h68 hi ?_
        rw [d2, e75, e48]
        refine xcS (c_Mo_in) (by rfl) (by rfl) (by rfl) (Nat.zero_le _) (Nat.zero_le _) ?_
        rintro o h' ⟨rfl, rfl⟩
        refine xb (fun c2 => ?_) (fun c2 => ?_)
        · have n2 := of_decide_eq_true ((bI_n0 _).mp c2)
          have b1 := (nI_leI (a := 1) (b := N) (by decide) (by omega)).mp n2.1
          have b2 := (nI_leI (a := N) (b := 1000) (by omega) (by decide)).mp n2.2
          rw [if_neg (by omega)] at eV
          refine ya (by rfl) ?_
          refine ys (i := i) hM (by rfl) h68 hi ?_
          obtain ⟨S3, hS3⟩ : ∃ S3, S3 = s2 S2 72 i 4 := ⟨_, rfl⟩
          have g3 : gF [] (fun k x => k = 72 ∧ x = i) S2 S3 := by rw [hS3]; exact (gF.refl _ _ _).s ⟨rfl, rfl⟩
          have A3 := A2.gf g3 (by decide) (fun i _ _ => by omega)
          rw [← hS3]
          obtain ⟨T3, ⟨-, m3, -⟩, hf3, -⟩ := id A3
          refine xcV (mH_m _ _ _) (c_Mo_nextA (p := 0) hM T3 (by rw [m3, (tk_sg (c := 37) (by rfl) n1).2.2]) hf3 (by omega)) (by rfl) (by rfl) (by rfl) (Nat.zero_le _) (Nat.zero_le _) ?_
          rintro o h' ⟨S4, rfl, rfl, f4, A4⟩
          have d4 := fun k => f4.2 k (by simp)
          refine (tail S4 _ (2, (0, 0), N, N) ((gg.tr g3 (by simp) (fun k x z => by omega)).tr f4.g0 (by simp) (fun _ _ z => z)) A4 ?_ ?_).locs (by rw [h68]; simp)
          · refine ⟨?_, fun z => absurd rfl z, fun _ => ⟨?_, hlt, fun _ => ⟨rfl, b2⟩⟩, (Nat.le_of_ble_eq_true rfl), (Nat.le_of_ble_eq_true rfl)⟩
            · rw [d4, hS3, s2_eq]
              show (4 : Int32) = nI (if 0 < N then 4 else 2)
              rw [if_pos (by omega)]; rfl
            · rw [d4, g3.2 75 i (by omega), d2, e75, e48]
          · rw [eV]; rfl
        · have n2 := of_decide_eq_false ((bI_0 _).mp c2)
          rw [if_pos (by
            rcases Nat.lt_or_ge N 1 with z | z
            · exact Or.inl z
            · refine Or.inr (Nat.lt_of_not_le fun y => n2 ⟨?_, ?_⟩)
              · exact (nI_leI (a := 1) (b := N) (by decide) (by omega)).mpr z
              · exact (nI_leI (a := N) (b := 1000) (by omega) (by decide)).mpr y)] at eV
          refine xcV (mH_m _ _ _) (c_Mo_wrong hf2) (by rfl) (by rfl) (by rfl) (Nat.zero_le _) (Nat.zero_le _) ?_
          rintro o h' ⟨rfl, rfl⟩
          refine xP hP ⟨_, rfl, rfl, gg.p (by decide), ?_⟩
          rw [eV]
          exact ⟨T2.p (by decide) (by decide), k1, hsc, _, r2, tkE_le (scan_le1 hEl)⟩
    · -- a name
      subst z1 z2 z3 z4
      refine xt rfl ?_
      have eS := pName_1 hkk
      obtain ⟨r1, r2, r3, r4, r5, r6, r7⟩ := pName_sub eS
      simp only [] at r2
      rw [← hE] at eS r2 r6
      have h34 := sm_no _ (Nat.lt_succ_of_le (hB.le s0)) r7
      refine (tail S2 E (1, (s0, E - s0), 0, 0) gg A2 ?_ ?_).locs (by rw [h68]; simp)
      · refine ⟨by rw [d2, e72]; rfl, fun _ => ⟨?_, ?_, ?_, rfl⟩, fun z => (by cases z), (Nat.le_of_ble_eq_true rfl), (Nat.le_of_ble_eq_true rfl)⟩
        · rw [d2, e73]; show nI _ + nI 0 = _; rw [nI_add]; rfl
        · rw [d2, e74, nI_sub (by omega)]; exact nI_sub (b := 0) (by omega)
        · show s0 + (E - s0) ≤ t.length
          omega
      · rw [pVal2, ← hs0, pVal, if_neg h34.2, if_neg (by rw [h34.1]; decide), pB_ok eS]; rfl
  have go : ∀ kk : Nat, tkK t s0 = kk → (kk = 1 ∨ kk = 2 ∨ kk = 3) → xG X 41 [(0, .ref M.1)] [] (mH h0 M S) 0 0 := by
    intro kk hkk hor
    refine xgo [143] 90 hA ?_
    refine yg (by rfl) ?_
    refine ya (by rfl) ?_
    refine yg (by rfl) ?_
    refine ys (i := i) hM (by rfl) h68 hi ?_
    refine ya (by rfl) ?_
    refine yg (by rfl) ?_
    refine yg (by rfl) ?_
    refine yg (by rfl) ?_
    rcases hor with z | z | z
    · subst z
      refine xtn (by show ¬ S.1 45 = 3; rw [k3, hkk]; decide) ?_
      refine ys (i := i) hM (by rfl) h68 hi ?_
      refine ya (by rfl) ?_
      refine yg (by rfl) ?_
      refine yg (by rfl) ?_
      refine yg (by rfl) ?_
      refine xtn (by show ¬ S.1 45 = 3; rw [k3, hkk]; decide) ?_
      refine ys (i := i) hM (by rfl) h68 hi ?_
      refine ya (by rfl) ?_
      refine yg (by rfl) ?_
      refine ys (i := i) hM (by rfl) h68 hi ?_
      refine yg (by rfl) ?_
      refine xtn (by show ¬ S.1 45 = 2; rw [k3, hkk]; decide) ?_
      refine yg (by rfl) ?_
      exact k143 1 0 0 0 hkk (Or.inr (Or.inr ⟨rfl, rfl, rfl, rfl⟩))
    · subst z
      refine xtn (by show ¬ S.1 45 = 3; rw [k3, hkk]; decide) ?_
      refine ys (i := i) hM (by rfl) h68 hi ?_
      refine ya (by rfl) ?_
      refine yg (by rfl) ?_
      refine yg (by rfl) ?_
      refine yg (by rfl) ?_
      refine xtn (by show ¬ S.1 45 = 3; rw [k3, hkk]; decide) ?_
      refine ys (i := i) hM (by rfl) h68 hi ?_
      refine ya (by rfl) ?_
      refine yg (by rfl) ?_
      refine ys (i := i) hM (by rfl) h68 hi ?_
      refine yg (by rfl) ?_
      refine xfn (by show S.1 45 = 2; rw [k3, hkk]; rfl) ?_
      refine yg (by rfl) ?_
      exact k143 2 0 0 1 hkk (Or.inr (Or.inl ⟨rfl, rfl, rfl, rfl⟩))
    · subst z
      refine xfn (by show S.1 45 = 3; rw [k3, hkk]; rfl) ?_
      refine ys (i := i) hM (by rfl) h68 hi ?_
      refine ya (by rfl) ?_
      refine yg (by rfl) ?_
      refine yg (by rfl) ?_
      refine yg (by rfl) ?_
      refine xfn (by show S.1 45 = 3; rw [k3, hkk]; rfl) ?_
      refine ys (i := i) hM (by rfl) h68 hi ?_
      refine ya (by rfl) ?_
      refine yg (by rfl) ?_
      refine ys (i := i) hM (by rfl) h68 hi ?_
      refine yg (by rfl) ?_
      refine xtn (by show ¬ S.1 45 = 2; rw [k3, hkk]; decide) ?_
      refine yg (by rfl) ?_
      exact k143 3 1 2 0 hkk (Or.inl ⟨rfl, rfl, rfl, rfl⟩)
  refine xgo [41] 60 hA ?_
  refine yg (by rfl) ?_
  rw [hf]
  refine xt (by decide) ?_
  refine yg (by rfl) ?_
  refine xb (fun c1 => ?_) (fun c1 => ?_)
  · exact go 1 ((nI_eq (b := 1) (by omega) (by decide)).mp (by rw [← k3]; exact c1)) (Or.inl rfl)
  refine yg (by rfl) ?_
  refine xb (fun c2 => ?_) (fun c2 => ?_)
  · exact go 2 ((nI_eq (b := 2) (by omega) (by decide)).mp (by rw [← k3]; exact c2)) (Or.inr (Or.inl rfl))
  refine yg (by rfl) ?_
  refine xb (fun c3 => ?_) (fun c3 => ?_)
  · exact go 3 ((nI_eq (b := 3) (by omega) (by decide)).mp (by rw [← k3]; exact c3)) (Or.inr (Or.inr rfl))
  refine yg (by rfl) ?_
  refine xcV (mH_m _ _ _) (c_Mo_wrong hf) (by rfl) (by rfl) (by rfl) (Nat.zero_le _) (Nat.zero_le _) ?_
  rintro o h' ⟨rfl, rfl⟩
  refine xP hP ⟨_, rfl, rfl, (gF.refl _ _ _).p (by decide), ?_⟩
  have e : pVal2 t p = .error s0 := by
    rw [pVal2, ← hs0, pB_er]
    unfold pVal
    by_cases z : ch t s0 = 34
    · rw [if_pos z, pB_er (pStr_0 (fun y => c3 (by rw [k3, y]; rfl)))]
    · rw [if_neg z]
      by_cases y : dg (ch t s0) = true
      · rw [if_pos y, pB_er]
        rw [pAmt, pB_er (pNum_0 hB (fun y => c2 (by rw [k3, y]; rfl)))]
      · rw [if_neg y, pB_er (pName_0 (fun y => c1 (by rw [k3, y]; rfl)))]
  rw [e]
  exact ⟨T.p (by decide) (by decide), k1, hsc, _, k2, hEl⟩
end
