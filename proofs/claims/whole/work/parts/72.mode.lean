/-! THE REFERENCE, 5: signs, conditions -/
theorem tkE_le {t : List Nat} {s : Nat} (h : s ≤ t.length + 1) : tkE t s ≤ t.length + 1 := by
  unfold tkE
  by_cases z : ch t s = 256
  · rw [if_pos z]; exact h
  · have hlt : s < t.length := Nat.lt_of_not_le fun y => z (ch_out y)
    rw [if_neg z]
    have a1 := scan_le (p := nmc) (t := t) (i := s) (by omega)
    have a2 := scan_le (p := dg) (t := t) (i := s) (by omega)
    have a3 := scan_le (p := qsc) (t := t) (i := s + 1) (by omega)
    split
    · omega
    · split
      · omega
      · split <;> omega
theorem scan_le1 {p : Nat → Bool} {t : List Nat} {i : Nat} (h : i ≤ t.length + 1) : scan p t i ≤ t.length + 1 := by
  by_cases z : i ≤ t.length
  · have := scan_le z (p := p); omega
  · rw [scan_stop (fun y => by omega)]; omega
theorem pName_1 {t : List Nat} {s : Nat} (h : tkK t s = 1) : pName t s = .ok ((s, tkE t s - s), tkE t s) := by
  unfold tkK at h
  split at h
  · cases h
  · rename_i h256
    split at h
    · rename_i hsm
      split at h
      · rename_i hl
        have e : tkE t s = scan nmc t s := by unfold tkE; rw [if_neg h256, if_pos hsm]
        rw [e, pName, if_pos ⟨hsm, hl⟩]
      · cases h
    · split at h
      · split at h <;> cases h
      · split at h
        · split at h <;> cases h
        · cases h
theorem pName_0 {t : List Nat} {s : Nat} (h : tkK t s ≠ 1) : pName t s = .error s := by
  unfold pName
  rw [if_neg]
  rintro ⟨h1, h2⟩
  apply h
  unfold tkK
  rw [if_neg (fun z => by rw [z] at h1; cases h1), if_pos h1, if_pos h2]
theorem pNum_1 {t : List Nat} {s : Nat} (h : tkK t s = 2) : pNum t s = .ok (nmv ((t.drop s).take (scan dg t s - s)), tkE t s) := by
  unfold tkK at h
  split at h
  · cases h
  · rename_i h256
    split at h
    · split at h <;> cases h
    · rename_i hsm
      split at h
      · rename_i hdg
        split at h
        · rename_i hl
          have hlt : s < t.length := Nat.lt_of_not_le fun y => h256 (ch_out y)
          have e : tkE t s = scan dg t s := by unfold tkE; rw [if_neg h256, if_neg hsm, if_pos hdg]
          have h1 : scan dg t s ≠ s := by
            rw [scan_step hlt hdg]
            have := scan_ge dg t (s + 1)
            omega
          rw [e, pNum, if_neg]
          rintro (z | z)
          · exact h1 z
          · omega
        · cases h
      · split at h
        · split at h <;> cases h
        · cases h
theorem dg_sm : ∀ c, c < 257 → dg c = true → sm c = false := by decide +kernel
theorem pNum_0 {t : List Nat} {s : Nat} (hB : bytesOk t) (h : tkK t s ≠ 2) : pNum t s = .error s := by
  unfold pNum
  rw [if_pos]
  by_cases hdg : dg (ch t s) = true
  · refine Or.inr (Nat.lt_of_not_le fun hl => h ?_)
    unfold tkK
    rw [if_neg (fun z => by rw [z] at hdg; cases hdg), if_neg (by rw [dg_sm _ (Nat.lt_succ_of_le (hB.le s)) hdg]; decide), if_pos hdg, if_pos hl]
  · exact Or.inl (scan_no (by simpa using hdg))
theorem pStr_1 {t : List Nat} {s : Nat} (h : tkK t s = 3) : pStr t s = .ok ((s + 1, tkE t s - s - 2), tkE t s) := by
  unfold tkK at h
  split at h
  · cases h
  · rename_i h256
    split at h
    · split at h <;> cases h
    · rename_i hsm
      split at h
      · split at h <;> cases h
      · rename_i hdg
        split at h
        · rename_i h34
          split at h
          · rename_i h2
            have e : tkE t s = scan qsc t (s + 1) + 1 := by unfold tkE; rw [if_neg h256, if_neg hsm, if_neg hdg, if_pos h34]
            rw [pStr, if_pos ⟨h34, h2⟩, e]
            congr 3
            omega
          · cases h
        · cases h
theorem pStr_0 {t : List Nat} {s : Nat} (h : tkK t s ≠ 3) : pStr t s = .error s := by
  unfold pStr
  rw [if_neg]
  rintro ⟨h1, h2⟩
  apply h
  unfold tkK
  rw [h1, if_neg (by decide), if_neg (by decide), if_neg (by decide), if_pos rfl, if_pos h2]
/-- signs that stand for themselves -/
def sgn (c : Nat) : Bool := decide (c < 256) && !sm c && !dg c && !(c == 34)
theorem tk_sg {t : List Nat} {s c : Nat} (hc : sgn c = true) (h : ch t s = c) : tkK t s = 4 ∧ tkS t s = nI c ∧ tkE t s = s + 1 := by
  unfold sgn at hc
  simp only [Bool.and_eq_true, decide_eq_true_iff, Bool.not_eq_true', beq_eq_false_iff_ne] at hc
  obtain ⟨⟨⟨h1, h2⟩, h3⟩, h4⟩ := hc
  have n1 : ¬ ch t s = 256 := by omega
  have n2 : ¬ sm (ch t s) = true := by rw [h, h2]; decide
  have n3 : ¬ dg (ch t s) = true := by rw [h, h3]; decide
  have n4 : ¬ ch t s = 34 := by rw [h]; exact h4
  unfold tkK tkS tkE
  rw [if_neg n1, if_neg n2, if_neg n3, if_neg n4, if_neg (by rintro (z | z | z | z); exact n1 z; exact n2 z; exact n3 z; exact n4 z), if_neg n1, if_neg n2, if_neg n3, if_neg n4, h]
  exact ⟨rfl, rfl, rfl⟩
theorem tk_ns {t : List Nat} {s c : Nat} (hB : bytesOk t) (hc : sgn c = true) (h : tkS t s = nI c) : ch t s = c := by
  unfold sgn at hc
  simp only [Bool.and_eq_true, decide_eq_true_iff, Bool.not_eq_true', beq_eq_false_iff_ne] at hc
  unfold tkS at h
  split at h
  · exfalso
    have : nI c < (0 : Int32) := by rw [← h]; decide
    exact nI_neg (by omega) this
  · rename_i hn
    have h1 : ch t s ≠ 256 := fun z => hn (Or.inl z)
    have h2 := hB.le s
    exact (nI_eq (by omega) (by omega)).mp h
section
variable {l : Launch} {D : xD} {h0 : xH} {M : MA} {S : MS}
/-- the reading stands at p -/
def atA (S : MS) (b : Nat) (t : List Nat) (p : Nat) : Prop := tx S b t ∧ tkA S t p ∧ S.1 6 = -1 ∧ p ≤ t.length + 1
set_option maxRecDepth 20000 in
theorem c_Mo_isSign {b p c : Nat} {t : List Nat} (T : tx S b t) (K : tkA S t p) (hc : sgn c = true) : xMet l D 0 y_Mo_isSign [.ref M.1, .int (nI c)] (mH h0 M S) 0 0 (fun o h' => h' = mH h0 M S ∧ o = .inl (some (.int (bI (decide (ch t (scan bl t p) = c)))))) := by
  obtain ⟨k1, k2, k3, k4, k5⟩ := K
  have hB := T.2.2.2.2.2
  refine m_Mo_isSign (Nat.le_of_ble_eq_true rfl) fun X hl hD hP hA => ?_
  subst hl hD
  have fin : ∀ (v' : Int32) (q' : Bool), decide (ch t (scan bl t p) = c) = q' → v' = bI q' → narrow .boolean (.int v') = .int v' ∧ X.P (.inl (some (.int v'))) (mH h0 M S) := by
    intro v' q' e1 e2
    subst e2
    exact ⟨bI_nar q', xP hP ⟨rfl, by rw [e1]⟩⟩
  refine xgo [] 20 hA ?_
  refine yg (by rfl) ?_
  rw [k3]
  refine xb (fun c1 => ?_) (fun c1 => ?_)
  · exact fin 0 false (decide_eq_false fun z => c1 (by rw [(tk_sg hc z).1]; rfl)) rfl
  · refine yg (by rfl) ?_
    rw [k4]
    refine xb (fun c2 => ?_) (fun c2 => ?_)
    · exact fin 0 false (decide_eq_false fun z => c2 (tk_sg hc z).2.1) rfl
    · exact fin 1 true (decide_eq_true (tk_ns hB hc c2)) rfl
/-- fields of the token reader and the fault -/
abbrev tL : List Nat := [6, 45, 46, 47, 48, 49]
/-- a reading's end -/
def mRes {α : Type} (S' : MS) (b : Nat) (t : List Nat) (res : Except Nat (α × Nat)) (ok : α → Prop) : Prop := match res with
  | .error w => tx S' b t ∧ S'.1 6 = nI w ∧ w ≤ t.length + 1 ∧ ∃ e, S'.1 47 = nI e ∧ e ≤ t.length + 1
  | .ok q => atA S' b t q.2 ∧ ok q.1
set_option maxRecDepth 20000 in
theorem c_Mo_nextA {b p e : Nat} {t : List Nat} (hM : mok M) (T : tx S b t) (hp : S.1 47 = nI e) (hf : S.1 6 = -1) (he : e ≤ t.length + 1) : xMet l D 1 y_Mo_next [.ref M.1] (mH h0 M S) 0 0 (fun o h' => ∃ S', h' = mH h0 M S' ∧ o = .inl none ∧ mF tL [] S S' ∧ atA S' b t e) := by
  refine (c_Mo_next hM T hp he).mono ?_
  rintro o h' ⟨S', rfl, rfl, f, k⟩
  exact ⟨S', rfl, rfl, (mF.refl _ _ _).tr f (by decide) (by simp), T.fr f (by decide), k, by rw [f.1 6 (by decide)]; exact hf, he⟩
set_option maxRecDepth 20000 in
theorem c_Mo_need {b p c : Nat} {t : List Nat} (hM : mok M) (A : atA S b t p) (hc : sgn c = true) : xMet l D 2 y_Mo_need [.ref M.1, .int (nI c)] (mH h0 M S) 0 0 (fun o h' => ∃ S', h' = mH h0 M S' ∧ o = .inl none ∧ mF tL [] S S' ∧ mRes S' b t (pSig c t p) (fun _ => True)) := by
  obtain ⟨T, K, hf, hp⟩ := A
  have hs := scan_le1 (p := bl) hp
  have K' := K
  obtain ⟨k1, k2, k3, k4, k5⟩ := K
  refine m_Mo_need (Nat.le_of_ble_eq_true rfl) fun X hl hD hP hA => ?_
  subst hl hD
  refine xgo [] 30 hA ?_
  refine yg (by rfl) ?_
  rw [hf]
  refine xt (by decide) ?_
  refine xcV (mH_m _ _ _) (c_Mo_isSign T K' hc) (by rfl) (by rfl) (by rfl) (Nat.zero_le _) (Nat.zero_le _) ?_
  rintro o h' ⟨rfl, rfl⟩
  refine xb (fun c1 => ?_) (fun c1 => ?_)
  · have n := of_decide_eq_false ((bI_0 _).mp c1)
    refine yg (by rfl) ?_
    refine xcV (mH_m _ _ _) (c_Mo_wrong hf) (by rfl) (by rfl) (by rfl) (Nat.zero_le _) (Nat.zero_le _) ?_
    rintro o h' ⟨rfl, rfl⟩
    refine xP hP ⟨_, rfl, rfl, (mF.refl _ _ _).p (by decide), ?_⟩
    rw [pSig, pExp, if_neg n]
    exact ⟨T.p (by decide) (by decide), k1, hs, _, k2, tkE_le hs⟩
  · have n := of_decide_eq_true ((bI_n0 _).mp c1)
    obtain ⟨g1, g2, g3⟩ := tk_sg hc n
    have hlt : scan bl t p < t.length := Nat.lt_of_not_le fun z => by
      rw [ch_out z] at n
      unfold sgn at hc
      simp only [Bool.and_eq_true, decide_eq_true_iff] at hc
      omega
    refine xcV (mH_m _ _ _) (c_Mo_nextA (p := p) hM T (by rw [k2, g3]) hf (by omega)) (by rfl) (by rfl) (by rfl) (Nat.zero_le _) (Nat.zero_le _) ?_
    rintro o h' ⟨S', rfl, rfl, f, A'⟩
    refine xP hP ⟨S', rfl, rfl, f, ?_⟩
    rw [pSig, pExp, if_pos n]
    exact ⟨A', trivial⟩
set_option maxRecDepth 20000 in
theorem c_Mo_needKind {b p k : Nat} {t : List Nat} (A : atA S b t p) (hk : k < 6) : xMet l D 1 y_Mo_needKind [.ref M.1, .int (nI k)] (mH h0 M S) 0 0 (fun o h' => o = .inl none ∧ ((tkK t (scan bl t p) = k ∧ h' = mH h0 M S) ∨ (tkK t (scan bl t p) ≠ k ∧ h' = mH h0 M (s1 S 6 (nI (scan bl t p)))))) := by
  obtain ⟨T, ⟨k1, k2, k3, k4, k5⟩, hf, hp⟩ := A
  have hK : tkK t (scan bl t p) < 6 := by
    unfold tkK
    repeat' split
    all_goals decide
  refine m_Mo_needKind (Nat.le_of_ble_eq_true rfl) fun X hl hD hP hA => ?_
  subst hl hD
  refine xgo [] 30 hA ?_
  refine yg (by rfl) ?_
  rw [hf]
  refine xf (by decide) ?_
  refine yg (by rfl) ?_
  rw [k3]
  refine xb (fun c1 => ?_) (fun c1 => ?_)
  · exact xP hP ⟨rfl, Or.inl ⟨(nI_eq (by omega) (by omega)).mp c1, rfl⟩⟩
  · refine yg (by rfl) ?_
    refine xcV (mH_m _ _ _) (c_Mo_wrong hf) (by rfl) (by rfl) (by rfl) (Nat.zero_le _) (Nat.zero_le _) ?_
    rintro o h' ⟨rfl, rfl⟩
    rw [k1]
    exact xP hP ⟨rfl, Or.inr ⟨fun z => c1 (by rw [z]), rfl⟩⟩
end
