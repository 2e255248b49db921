/-! CONTRACTS, 3: numbers, strings, comments; slices; String constants -/
theorem nI_mul (a b : Nat) : nI a * nI b = nI (a * b) := by
  apply Int32.toBitVec_inj.mp
  simp [nI, Int32.toBitVec_mul, BitVec.ofNat_mul]
theorem dg_sub : ∀ c, c < 256 → dg c = true → sb_b c - 48 = nI (c - 48) := by decide +kernel
theorem nmv_snoc (l : List Nat) (c : Nat) : nmv (l ++ [c]) = nmv l * 10 + (c - 48) := by simp [nmv, List.foldl_append]
theorem take_snoc {t : List Nat} {i s : Nat} (h1 : i ≤ s) (h2 : s < t.length) : (t.drop i).take (s + 1 - i) = (t.drop i).take (s - i) ++ [ch t s] := by
  have e : s + 1 - i = s - i + 1 := by omega
  have hl : s - i < (t.drop i).length := by rw [List.length_drop]; omega
  rw [e, List.take_succ_eq_append_getElem hl, ch_in h2, List.getElem_drop]
  congr 3
  omega
set_option maxRecDepth 20000 in
theorem c_readNumber {l : Launch} {D : xD} {r b i : Nat} {t : List Nat} {h : xH} (H : rdr h r b t i (-1)) : xMet l D 7 y_Rd_readNumber [.ref r] h 1 6 (xRes r b t [] h (pNum t i) (fun n o _ => o = .inl (some (.int (nI n))))) := by
  have H' := H
  obtain ⟨hr, hb, hi, ht, hB⟩ := H
  have hbr := H'.ne
  refine m_Rd_readNumber (Nat.le_of_ble_eq_true rfl) fun X hl hD hP hA => ?_
  have tail : ∀ s : Nat, i ≤ s → s ≤ t.length → scan dg t i = s → xG X 65 [(2, .int (nI (nmv ((t.drop i).take (s - i))))), (1, .int (nI i)), (0, .ref r)] [] (xset h r (rdc b s (-1))) 1 6 := by
    intro s hge hs he
    have H2 := H'.mv (br' := -1) hs
    have bad : (s = i ∨ 7 < s - i) → xG X 84 [(2, .int (nI (nmv ((t.drop i).take (s - i))))), (1, .int (nI i)), (0, .ref r)] [] (xset h r (rdc b s (-1))) 1 6 := by
      intro c
      refine xgo [] 40 hA ?_
      refine xfail H2 i (by rfl) rfl (Nat.le_refl _) (Nat.le_refl _) fun e h1 q => xP hP ?_
      exact xRes.er (by rw [pNum, he, if_pos c]) (q.tr (fr.set _ _ _) (fun _ z => absurd z List.not_mem_nil))
    refine xgo [84] 40 hA ?_
    refine xg (by first | assumption | exact xset_same _ _ _ | exact xst2 (by first | assumption | exact Ne.symm (by assumption)) (by first | assumption | exact xset_same _ _ _ | exact xst2 (by first | assumption | exact Ne.symm (by assumption)) (by first | assumption | exact xset_same _ _ _ | exact xst2 (by first | assumption | exact Ne.symm (by assumption)) (by first | assumption | exact xset_same _ _ _ | exact xst2 (by first | assumption | exact Ne.symm (by assumption)) (by first | assumption | exact xset_same _ _ _))))) (by rfl) ?_
    refine xb (fun c => ?_) (fun c => ?_)
    · exact bad (Or.inl ((nI_eq (by omega) (by omega)).mp c))
    · have c1 : ¬ s = i := fun z => c (by rw [z])
      refine xg (by first | assumption | exact xset_same _ _ _ | exact xst2 (by first | assumption | exact Ne.symm (by assumption)) (by first | assumption | exact xset_same _ _ _ | exact xst2 (by first | assumption | exact Ne.symm (by assumption)) (by first | assumption | exact xset_same _ _ _ | exact xst2 (by first | assumption | exact Ne.symm (by assumption)) (by first | assumption | exact xset_same _ _ _ | exact xst2 (by first | assumption | exact Ne.symm (by assumption)) (by first | assumption | exact xset_same _ _ _))))) (by rfl) ?_
      refine xb (fun c => ?_) (fun c => ?_)
      · have c2 : s - i ≤ 7 := (nI_leI (by omega) (by omega)).mp (nI_sub hge ▸ c)
        exact xP hP (xRes.ok (by rw [pNum, he, if_neg (by omega)]) H2 (fr.set _ _ _) rfl)
      · exact bad (Or.inr (Nat.lt_of_not_le fun z => c (by rw [nI_sub hge]; exact (nI_leI (b := 7) (by omega) (by omega)).mpr z)))
  have key : ∀ s : Nat, (i ≤ s ∧ s ≤ t.length ∧ scan dg t i = scan dg t s) → xG X 7 [(2, .int (nI (nmv ((t.drop i).take (s - i))))), (1, .int (nI i)), (0, .ref r)] [] (xset h r (rdc b s (-1))) 1 6 := by
    refine xind _ _ (fun s => t.length - s) (fun s hs ih => ?_)
    obtain ⟨hge, hs, he⟩ := hs
    have hb1 : xset h r (rdc b s (-1)) b = some (101, txv t) := xst2 hbr hb
    refine xgo [7, 65] 40 hA ?_
    refine xg (by first | assumption | exact xset_same _ _ _ | exact xst2 (by first | assumption | exact Ne.symm (by assumption)) (by first | assumption | exact xset_same _ _ _ | exact xst2 (by first | assumption | exact Ne.symm (by assumption)) (by first | assumption | exact xset_same _ _ _ | exact xst2 (by first | assumption | exact Ne.symm (by assumption)) (by first | assumption | exact xset_same _ _ _ | exact xst2 (by first | assumption | exact Ne.symm (by assumption)) (by first | assumption | exact xset_same _ _ _))))) (by rfl) ?_
    refine xg (by first | assumption | exact xset_same _ _ _ | exact xst2 (by first | assumption | exact Ne.symm (by assumption)) (by first | assumption | exact xset_same _ _ _ | exact xst2 (by first | assumption | exact Ne.symm (by assumption)) (by first | assumption | exact xset_same _ _ _ | exact xst2 (by first | assumption | exact Ne.symm (by assumption)) (by first | assumption | exact xset_same _ _ _ | exact xst2 (by first | assumption | exact Ne.symm (by assumption)) (by first | assumption | exact xset_same _ _ _))))) (by rfl) ?_
    refine xln (t := 1) (Or.inl hb1) (by decide) ?_
    rw [txv_len]
    refine xb (fun c => ?_) (fun c => ?_)
    · exact tail s hge hs (by rw [he, scan_stop (fun z => absurd c (nI_ge z (by omega)))])
    · have hlt : s < t.length := Nat.lt_of_not_le fun z => c (nI_le z (by omega))
      refine xg (by first | assumption | exact xset_same _ _ _ | exact xst2 (by first | assumption | exact Ne.symm (by assumption)) (by first | assumption | exact xset_same _ _ _ | exact xst2 (by first | assumption | exact Ne.symm (by assumption)) (by first | assumption | exact xset_same _ _ _ | exact xst2 (by first | assumption | exact Ne.symm (by assumption)) (by first | assumption | exact xset_same _ _ _ | exact xst2 (by first | assumption | exact Ne.symm (by assumption)) (by first | assumption | exact xset_same _ _ _))))) (by rfl) ?_
      refine xg (by first | assumption | exact xset_same _ _ _ | exact xst2 (by first | assumption | exact Ne.symm (by assumption)) (by first | assumption | exact xset_same _ _ _ | exact xst2 (by first | assumption | exact Ne.symm (by assumption)) (by first | assumption | exact xset_same _ _ _ | exact xst2 (by first | assumption | exact Ne.symm (by assumption)) (by first | assumption | exact xset_same _ _ _ | exact xst2 (by first | assumption | exact Ne.symm (by assumption)) (by first | assumption | exact xset_same _ _ _))))) (by rfl) ?_
      refine xld (Or.inl hb1) rfl (txv_at hlt) ?_
      refine xcS (c_isDigit (dg_b _ (hB.lt hlt)) _) (by rfl) (by rfl) (by rfl) (Nat.zero_le _) (Nat.zero_le _) ?_
      rintro o h' ⟨rfl, rfl⟩
      refine xb (fun c => ?_) (fun c => ?_)
      · exact tail s hge hs (by rw [he, scan_stop (fun _ => (bI_0 _).mp c)])
      · have hd := (bI_n0 _).mp c
        refine xg (by first | assumption | exact xset_same _ _ _ | exact xst2 (by first | assumption | exact Ne.symm (by assumption)) (by first | assumption | exact xset_same _ _ _ | exact xst2 (by first | assumption | exact Ne.symm (by assumption)) (by first | assumption | exact xset_same _ _ _ | exact xst2 (by first | assumption | exact Ne.symm (by assumption)) (by first | assumption | exact xset_same _ _ _ | exact xst2 (by first | assumption | exact Ne.symm (by assumption)) (by first | assumption | exact xset_same _ _ _))))) (by rfl) ?_
        refine xg (by first | assumption | exact xset_same _ _ _ | exact xst2 (by first | assumption | exact Ne.symm (by assumption)) (by first | assumption | exact xset_same _ _ _ | exact xst2 (by first | assumption | exact Ne.symm (by assumption)) (by first | assumption | exact xset_same _ _ _ | exact xst2 (by first | assumption | exact Ne.symm (by assumption)) (by first | assumption | exact xset_same _ _ _ | exact xst2 (by first | assumption | exact Ne.symm (by assumption)) (by first | assumption | exact xset_same _ _ _))))) (by rfl) ?_
        refine xld (Or.inl hb1) rfl (txv_at hlt) ?_
        refine xg (by first | assumption | exact xset_same _ _ _ | exact xst2 (by first | assumption | exact Ne.symm (by assumption)) (by first | assumption | exact xset_same _ _ _ | exact xst2 (by first | assumption | exact Ne.symm (by assumption)) (by first | assumption | exact xset_same _ _ _ | exact xst2 (by first | assumption | exact Ne.symm (by assumption)) (by first | assumption | exact xset_same _ _ _ | exact xst2 (by first | assumption | exact Ne.symm (by assumption)) (by first | assumption | exact xset_same _ _ _))))) (by rfl) ?_
        refine xp (by first | assumption | exact xset_same _ _ _ | exact xst2 (by first | assumption | exact Ne.symm (by assumption)) (by first | assumption | exact xset_same _ _ _ | exact xst2 (by first | assumption | exact Ne.symm (by assumption)) (by first | assumption | exact xset_same _ _ _ | exact xst2 (by first | assumption | exact Ne.symm (by assumption)) (by first | assumption | exact xset_same _ _ _ | exact xst2 (by first | assumption | exact Ne.symm (by assumption)) (by first | assumption | exact xset_same _ _ _))))) rfl rfl ?_
        have q := ih (s + 1) ⟨by omega, hlt, by rw [he, scan_step hlt hd]⟩ (by omega)
        rw [take_snoc hge hlt, nmv_snoc, ← nI_add, ← dg_sub _ (hB.lt hlt) hd, ← nI_mul] at q
        rw [xset_set, nI_1]
        exact q
  refine xgo [7] 40 hA ?_
  refine xg (by first | assumption | exact xset_same _ _ _ | exact xst2 (by first | assumption | exact Ne.symm (by assumption)) (by first | assumption | exact xset_same _ _ _ | exact xst2 (by first | assumption | exact Ne.symm (by assumption)) (by first | assumption | exact xset_same _ _ _ | exact xst2 (by first | assumption | exact Ne.symm (by assumption)) (by first | assumption | exact xset_same _ _ _ | exact xst2 (by first | assumption | exact Ne.symm (by assumption)) (by first | assumption | exact xset_same _ _ _))))) (by rfl) ?_
  have := key i ⟨Nat.le_refl _, hi, rfl⟩
  rw [xset_self hr, Nat.sub_self] at this
  exact this
set_option maxRecDepth 20000 in
theorem c_readString {l : Launch} {D : xD} {r b i : Nat} {t : List Nat} {h : xH} (H : rdr h r b t i (-1)) : xMet l D 7 y_Rd_readString [.ref r] h 1 6 (xRes r b t [] h (pStr t i) (fun a o h' => ∃ s, o = .inl (some (.ref s)) ∧ h s = none ∧ h' s = some (slc b a))) := by
  have H' := H
  obtain ⟨hr, hb, hi, ht, hB⟩ := H
  have hbr := H'.ne
  refine m_Rd_readString (Nat.le_of_ble_eq_true rfl) fun X hl hD hP hA => ?_
  have tail : ∀ s : Nat, i + 1 ≤ s → s ≤ t.length → scan qsc t (i + 1) = s → ch t i = 34 → xG X 83 [(1, .int (nI i)), (0, .ref r)] [] (xset h r (rdc b s (-1))) 1 6 := by
    intro s hge hs he h0
    have H2 := H'.mv (br' := -1) hs
    refine xgo [] 40 hA ?_
    refine xcV (by first | assumption | exact xset_same _ _ _ | exact xst2 (by first | assumption | exact Ne.symm (by assumption)) (by first | assumption | exact xset_same _ _ _ | exact xst2 (by first | assumption | exact Ne.symm (by assumption)) (by first | assumption | exact xset_same _ _ _ | exact xst2 (by first | assumption | exact Ne.symm (by assumption)) (by first | assumption | exact xset_same _ _ _ | exact xst2 (by first | assumption | exact Ne.symm (by assumption)) (by first | assumption | exact xset_same _ _ _))))) (c_here H2) (by rfl) (by rfl) (by rfl) (Nat.zero_le _) (Nat.zero_le _) ?_
    rintro o h1 ⟨rfl, rfl⟩
    refine xb (fun c => ?_) (fun c => ?_)
    · have c1 : ch t s = 34 := (cI_lit (hB.le s) (by omega)).mp c
      have hlt : s < t.length := Nat.lt_of_not_le fun z => by rw [ch_out z] at c1; omega
      refine xg (by first | assumption | exact xset_same _ _ _ | exact xst2 (by first | assumption | exact Ne.symm (by assumption)) (by first | assumption | exact xset_same _ _ _ | exact xst2 (by first | assumption | exact Ne.symm (by assumption)) (by first | assumption | exact xset_same _ _ _ | exact xst2 (by first | assumption | exact Ne.symm (by assumption)) (by first | assumption | exact xset_same _ _ _ | exact xst2 (by first | assumption | exact Ne.symm (by assumption)) (by first | assumption | exact xset_same _ _ _))))) (by rfl) ?_
      refine xp (by first | assumption | exact xset_same _ _ _ | exact xst2 (by first | assumption | exact Ne.symm (by assumption)) (by first | assumption | exact xset_same _ _ _ | exact xst2 (by first | assumption | exact Ne.symm (by assumption)) (by first | assumption | exact xset_same _ _ _ | exact xst2 (by first | assumption | exact Ne.symm (by assumption)) (by first | assumption | exact xset_same _ _ _ | exact xst2 (by first | assumption | exact Ne.symm (by assumption)) (by first | assumption | exact xset_same _ _ _))))) rfl rfl ?_
      rw [xset_set]
      refine xn (Nat.le_refl _) (by decide) fun a ha => ?_
      have hra : r ≠ a := xnn (xset_same _ _ _) ha
      refine xg (by first | assumption | exact xset_same _ _ _ | exact xst2 (by first | assumption | exact Ne.symm (by assumption)) (by first | assumption | exact xset_same _ _ _ | exact xst2 (by first | assumption | exact Ne.symm (by assumption)) (by first | assumption | exact xset_same _ _ _ | exact xst2 (by first | assumption | exact Ne.symm (by assumption)) (by first | assumption | exact xset_same _ _ _ | exact xst2 (by first | assumption | exact Ne.symm (by assumption)) (by first | assumption | exact xset_same _ _ _))))) (by rfl) ?_
      refine xg (by first | assumption | exact xset_same _ _ _ | exact xst2 (by first | assumption | exact Ne.symm (by assumption)) (by first | assumption | exact xset_same _ _ _ | exact xst2 (by first | assumption | exact Ne.symm (by assumption)) (by first | assumption | exact xset_same _ _ _ | exact xst2 (by first | assumption | exact Ne.symm (by assumption)) (by first | assumption | exact xset_same _ _ _ | exact xst2 (by first | assumption | exact Ne.symm (by assumption)) (by first | assumption | exact xset_same _ _ _))))) (by rfl) ?_
      refine xcI (c_Sl_init (xset_same _ _ _) rfl) (by rfl) (by rfl) (by rfl) (Nat.zero_le _) (Nat.zero_le _) ?_
      rintro o h1 ⟨rfl, rfl⟩
      have hn : h a = none := by rw [xset_ne _ _ (Ne.symm hra)] at ha; exact ha
      have e1 : nI s + 1 - nI i - 2 = nI (s - i - 1) := by
        rw [nI_1, nI_sub (by omega)]
        exact (nI_sub (b := 2) (by omega)).trans (congrArg nI (by omega))
      refine xP hP (xRes.ok (by rw [pStr, he, if_pos ⟨h0, c1⟩]) ?_ ?_ ⟨a, rfl, hn, by rw [xset_same, e1, nI_1]⟩)
      · rw [xset_set, nI_1]; exact (H'.mv (br' := -1) (j := s + 1) hlt).new (by rw [nI_1] at ha; exact ha)
      · rw [xset_set]; exact (fr.set _ _ _).put (Or.inr hn)
    · have c1 : ¬ ch t s = 34 := fun z => c (by rw [z]; rfl)
      refine xfail H2 i (by rfl) rfl (Nat.le_refl _) (Nat.le_refl _) fun e h1 q => xP hP ?_
      exact xRes.er (by rw [pStr, he, if_neg (fun z => c1 z.2)]) (q.tr (fr.set _ _ _) (fun _ z => absurd z List.not_mem_nil))
  have key : ∀ s : Nat, (i + 1 ≤ s ∧ s ≤ t.length ∧ scan qsc t (i + 1) = scan qsc t s ∧ ch t i = 34) → xG X 29 [(1, .int (nI i)), (0, .ref r)] [] (xset h r (rdc b s (-1))) 1 6 := by
    refine xind _ _ (fun s => t.length - s) (fun s hs ih => ?_)
    obtain ⟨hge, hs, he, h0⟩ := hs
    have hb1 : xset h r (rdc b s (-1)) b = some (101, txv t) := xst2 hbr hb
    refine xgo [29, 83] 40 hA ?_
    refine xg (by first | assumption | exact xset_same _ _ _ | exact xst2 (by first | assumption | exact Ne.symm (by assumption)) (by first | assumption | exact xset_same _ _ _ | exact xst2 (by first | assumption | exact Ne.symm (by assumption)) (by first | assumption | exact xset_same _ _ _ | exact xst2 (by first | assumption | exact Ne.symm (by assumption)) (by first | assumption | exact xset_same _ _ _ | exact xst2 (by first | assumption | exact Ne.symm (by assumption)) (by first | assumption | exact xset_same _ _ _))))) (by rfl) ?_
    refine xg (by first | assumption | exact xset_same _ _ _ | exact xst2 (by first | assumption | exact Ne.symm (by assumption)) (by first | assumption | exact xset_same _ _ _ | exact xst2 (by first | assumption | exact Ne.symm (by assumption)) (by first | assumption | exact xset_same _ _ _ | exact xst2 (by first | assumption | exact Ne.symm (by assumption)) (by first | assumption | exact xset_same _ _ _ | exact xst2 (by first | assumption | exact Ne.symm (by assumption)) (by first | assumption | exact xset_same _ _ _))))) (by rfl) ?_
    refine xln (t := 1) (Or.inl hb1) (by decide) ?_
    rw [txv_len]
    refine xb (fun c => ?_) (fun c => ?_)
    · exact tail s hge hs (by rw [he, scan_stop (fun z => absurd c (nI_ge z (by omega)))]) h0
    · have hlt : s < t.length := Nat.lt_of_not_le fun z => c (nI_le z (by omega))
      refine xg (by first | assumption | exact xset_same _ _ _ | exact xst2 (by first | assumption | exact Ne.symm (by assumption)) (by first | assumption | exact xset_same _ _ _ | exact xst2 (by first | assumption | exact Ne.symm (by assumption)) (by first | assumption | exact xset_same _ _ _ | exact xst2 (by first | assumption | exact Ne.symm (by assumption)) (by first | assumption | exact xset_same _ _ _ | exact xst2 (by first | assumption | exact Ne.symm (by assumption)) (by first | assumption | exact xset_same _ _ _))))) (by rfl) ?_
      refine xg (by first | assumption | exact xset_same _ _ _ | exact xst2 (by first | assumption | exact Ne.symm (by assumption)) (by first | assumption | exact xset_same _ _ _ | exact xst2 (by first | assumption | exact Ne.symm (by assumption)) (by first | assumption | exact xset_same _ _ _ | exact xst2 (by first | assumption | exact Ne.symm (by assumption)) (by first | assumption | exact xset_same _ _ _ | exact xst2 (by first | assumption | exact Ne.symm (by assumption)) (by first | assumption | exact xset_same _ _ _))))) (by rfl) ?_
      refine xld (Or.inl hb1) rfl (txv_at hlt) ?_
      refine xb (fun c => ?_) (fun c => ?_)
      · exact tail s hge hs (by rw [he, scan_stop (fun _ => by rw [qsc, (sb_lit (hB.lt hlt) (by decide)).mp c]; rfl)]) h0
      · have c0 : ¬ ch t s = 34 := fun z => c (by rw [z]; rfl)
        refine xg (by first | assumption | exact xset_same _ _ _ | exact xst2 (by first | assumption | exact Ne.symm (by assumption)) (by first | assumption | exact xset_same _ _ _ | exact xst2 (by first | assumption | exact Ne.symm (by assumption)) (by first | assumption | exact xset_same _ _ _ | exact xst2 (by first | assumption | exact Ne.symm (by assumption)) (by first | assumption | exact xset_same _ _ _ | exact xst2 (by first | assumption | exact Ne.symm (by assumption)) (by first | assumption | exact xset_same _ _ _))))) (by rfl) ?_
        refine xg (by first | assumption | exact xset_same _ _ _ | exact xst2 (by first | assumption | exact Ne.symm (by assumption)) (by first | assumption | exact xset_same _ _ _ | exact xst2 (by first | assumption | exact Ne.symm (by assumption)) (by first | assumption | exact xset_same _ _ _ | exact xst2 (by first | assumption | exact Ne.symm (by assumption)) (by first | assumption | exact xset_same _ _ _ | exact xst2 (by first | assumption | exact Ne.symm (by assumption)) (by first | assumption | exact xset_same _ _ _))))) (by rfl) ?_
        refine xld (Or.inl hb1) rfl (txv_at hlt) ?_
        refine xcS (c_isPrinted (pr_b _ (hB.lt hlt)) _) (by rfl) (by rfl) (by rfl) (Nat.zero_le _) (Nat.zero_le _) ?_
        rintro o h' ⟨rfl, rfl⟩
        refine xb (fun c => ?_) (fun c => ?_)
        · exact tail s hge hs (by rw [he, scan_stop (fun _ => by rw [qsc, (bI_0 _).mp c]; rfl)]) h0
        · refine xg (by first | assumption | exact xset_same _ _ _ | exact xst2 (by first | assumption | exact Ne.symm (by assumption)) (by first | assumption | exact xset_same _ _ _ | exact xst2 (by first | assumption | exact Ne.symm (by assumption)) (by first | assumption | exact xset_same _ _ _ | exact xst2 (by first | assumption | exact Ne.symm (by assumption)) (by first | assumption | exact xset_same _ _ _ | exact xst2 (by first | assumption | exact Ne.symm (by assumption)) (by first | assumption | exact xset_same _ _ _))))) (by rfl) ?_
          refine xp (by first | assumption | exact xset_same _ _ _ | exact xst2 (by first | assumption | exact Ne.symm (by assumption)) (by first | assumption | exact xset_same _ _ _ | exact xst2 (by first | assumption | exact Ne.symm (by assumption)) (by first | assumption | exact xset_same _ _ _ | exact xst2 (by first | assumption | exact Ne.symm (by assumption)) (by first | assumption | exact xset_same _ _ _ | exact xst2 (by first | assumption | exact Ne.symm (by assumption)) (by first | assumption | exact xset_same _ _ _))))) rfl rfl ?_
          rw [xset_set, nI_1]
          exact ih (s + 1) ⟨by omega, hlt, by rw [he, scan_step hlt (by rw [qsc, (bI_n0 _).mp c]; simp [c0])], h0⟩ (by omega)
  refine xgo [29] 40 hA ?_
  refine xg (by first | assumption | exact xset_same _ _ _ | exact xst2 (by first | assumption | exact Ne.symm (by assumption)) (by first | assumption | exact xset_same _ _ _ | exact xst2 (by first | assumption | exact Ne.symm (by assumption)) (by first | assumption | exact xset_same _ _ _ | exact xst2 (by first | assumption | exact Ne.symm (by assumption)) (by first | assumption | exact xset_same _ _ _ | exact xst2 (by first | assumption | exact Ne.symm (by assumption)) (by first | assumption | exact xset_same _ _ _))))) (by rfl) ?_
  refine xcV (by first | assumption | exact xset_same _ _ _ | exact xst2 (by first | assumption | exact Ne.symm (by assumption)) (by first | assumption | exact xset_same _ _ _ | exact xst2 (by first | assumption | exact Ne.symm (by assumption)) (by first | assumption | exact xset_same _ _ _ | exact xst2 (by first | assumption | exact Ne.symm (by assumption)) (by first | assumption | exact xset_same _ _ _ | exact xst2 (by first | assumption | exact Ne.symm (by assumption)) (by first | assumption | exact xset_same _ _ _))))) (c_here H') (by rfl) (by rfl) (by rfl) (Nat.zero_le _) (Nat.zero_le _) ?_
  rintro o h1 ⟨rfl, rfl⟩
  refine xb (fun c => ?_) (fun c => ?_)
  · have c1 : ch t i = 34 := (cI_lit (hB.le i) (by omega)).mp c
    have hlt : i < t.length := Nat.lt_of_not_le fun z => by rw [ch_out z] at c1; omega
    refine xg (by first | assumption | exact xset_same _ _ _ | exact xst2 (by first | assumption | exact Ne.symm (by assumption)) (by first | assumption | exact xset_same _ _ _ | exact xst2 (by first | assumption | exact Ne.symm (by assumption)) (by first | assumption | exact xset_same _ _ _ | exact xst2 (by first | assumption | exact Ne.symm (by assumption)) (by first | assumption | exact xset_same _ _ _ | exact xst2 (by first | assumption | exact Ne.symm (by assumption)) (by first | assumption | exact xset_same _ _ _))))) (by rfl) ?_
    refine xp (by first | assumption | exact xset_same _ _ _ | exact xst2 (by first | assumption | exact Ne.symm (by assumption)) (by first | assumption | exact xset_same _ _ _ | exact xst2 (by first | assumption | exact Ne.symm (by assumption)) (by first | assumption | exact xset_same _ _ _ | exact xst2 (by first | assumption | exact Ne.symm (by assumption)) (by first | assumption | exact xset_same _ _ _ | exact xst2 (by first | assumption | exact Ne.symm (by assumption)) (by first | assumption | exact xset_same _ _ _))))) rfl rfl ?_
    rw [nI_1]
    exact key (i + 1) ⟨Nat.le_refl _, hlt, rfl, c1⟩
  · have c1 : ¬ ch t i = 34 := fun z => c (by rw [z]; rfl)
    refine xfail H' i (by rfl) rfl (Nat.le_refl _) (Nat.le_refl _) fun e h1 q => xP hP ?_
    exact xRes.er (by rw [pStr, if_neg (fun z => c1 z.1)]) q

/-- does a comment end at i -/
def cme (t : List Nat) (i : Nat) : Bool := ch t i == 45 && (ch t (i + 1) == 45 && ch t (i + 2) == 62)
def cnd (t : List Nat) : Nat → Nat → Nat
  | 0, i => i
  | n + 1, i => if i + 2 < t.length ∧ cme t i = false then cnd t n (i + 1) else i
def pCom (t : List Nat) (i : Nat) : Except Nat (Unit × Nat) := if cnd t t.length i + 2 < t.length then .ok ((), cnd t t.length i + 3) else .error t.length
set_option maxRecDepth 20000 in
theorem c_commentEndsHere {l : Launch} {D : xD} {r b i : Nat} {t : List Nat} {h : xH} (H : rdr h r b t i (-1)) (h2 : i + 2 < t.length) : xMet l D 0 y_Rd_commentEndsHere [.ref r] h 0 0 (fun o h' => h' = h ∧ o = .inl (some (.int (bI (cme t i))))) := by
  have H' := H
  obtain ⟨hr, hb, hi, ht, hB⟩ := H
  refine m_Rd_commentEndsHere (Nat.le_of_ble_eq_true rfl) fun X hl hD hP hA => ?_
  have f : ∀ j k : Nat, j < t.length → k < 128 → (¬ sb_b (ch t j) = nI k ↔ ¬ ch t j = k) := fun j k h1 h2 => not_congr (sb_lit (hB.lt h1) h2)
  refine xgo [] 40 hA ?_
  refine xg (by first | assumption | exact xset_same _ _ _ | exact xst2 (by first | assumption | exact Ne.symm (by assumption)) (by first | assumption | exact xset_same _ _ _ | exact xst2 (by first | assumption | exact Ne.symm (by assumption)) (by first | assumption | exact xset_same _ _ _ | exact xst2 (by first | assumption | exact Ne.symm (by assumption)) (by first | assumption | exact xset_same _ _ _ | exact xst2 (by first | assumption | exact Ne.symm (by assumption)) (by first | assumption | exact xset_same _ _ _))))) (by rfl) ?_ -- 1 f1.0
  refine xg (by first | assumption | exact xset_same _ _ _ | exact xst2 (by first | assumption | exact Ne.symm (by assumption)) (by first | assumption | exact xset_same _ _ _ | exact xst2 (by first | assumption | exact Ne.symm (by assumption)) (by first | assumption | exact xset_same _ _ _ | exact xst2 (by first | assumption | exact Ne.symm (by assumption)) (by first | assumption | exact xset_same _ _ _ | exact xst2 (by first | assumption | exact Ne.symm (by assumption)) (by first | assumption | exact xset_same _ _ _))))) (by rfl) ?_ -- 5 f1.1
  refine xld (Or.inl (by first | assumption | exact xset_same _ _ _ | exact xst2 (by first | assumption | exact Ne.symm (by assumption)) (by first | assumption | exact xset_same _ _ _ | exact xst2 (by first | assumption | exact Ne.symm (by assumption)) (by first | assumption | exact xset_same _ _ _ | exact xst2 (by first | assumption | exact Ne.symm (by assumption)) (by first | assumption | exact xset_same _ _ _ | exact xst2 (by first | assumption | exact Ne.symm (by assumption)) (by first | assumption | exact xset_same _ _ _)))))) (by rfl) (txv_at (by omega)) ?_ -- 8 t1
  refine xb (fun c => ?_) (fun c => ?_) -- 11 o_icne 50 14
  · exact And.intro rfl (xP hP ⟨rfl, by rw [cme, beq_eq_false_iff_ne.mpr ((f i 45 (by omega) (by omega)).mp c)]; rfl⟩)
  · have c1 := (sb_lit (hB.lt (by omega)) (by decide)).mp c
    refine xg (by first | assumption | exact xset_same _ _ _ | exact xst2 (by first | assumption | exact Ne.symm (by assumption)) (by first | assumption | exact xset_same _ _ _ | exact xst2 (by first | assumption | exact Ne.symm (by assumption)) (by first | assumption | exact xset_same _ _ _ | exact xst2 (by first | assumption | exact Ne.symm (by assumption)) (by first | assumption | exact xset_same _ _ _ | exact xst2 (by first | assumption | exact Ne.symm (by assumption)) (by first | assumption | exact xset_same _ _ _))))) (by rfl) ?_ -- 15 f1.0
    refine xg (by first | assumption | exact xset_same _ _ _ | exact xst2 (by first | assumption | exact Ne.symm (by assumption)) (by first | assumption | exact xset_same _ _ _ | exact xst2 (by first | assumption | exact Ne.symm (by assumption)) (by first | assumption | exact xset_same _ _ _ | exact xst2 (by first | assumption | exact Ne.symm (by assumption)) (by first | assumption | exact xset_same _ _ _ | exact xst2 (by first | assumption | exact Ne.symm (by assumption)) (by first | assumption | exact xset_same _ _ _))))) (by rfl) ?_ -- 19 f1.1
    refine xld (Or.inl (by first | assumption | exact xset_same _ _ _ | exact xst2 (by first | assumption | exact Ne.symm (by assumption)) (by first | assumption | exact xset_same _ _ _ | exact xst2 (by first | assumption | exact Ne.symm (by assumption)) (by first | assumption | exact xset_same _ _ _ | exact xst2 (by first | assumption | exact Ne.symm (by assumption)) (by first | assumption | exact xset_same _ _ _ | exact xst2 (by first | assumption | exact Ne.symm (by assumption)) (by first | assumption | exact xset_same _ _ _)))))) (nI_1 i) (txv_at (by omega)) ?_ -- 24 t1
    refine xb (fun c => ?_) (fun c => ?_) -- 27 o_icne 50 30
    · exact And.intro rfl (xP hP ⟨rfl, by rw [cme, beq_eq_false_iff_ne.mpr ((f (i + 1) 45 (by omega) (by omega)).mp c)]; simp [bI]⟩)
    · have c2 := (sb_lit (hB.lt (by omega)) (by decide)).mp c
      refine xg (by first | assumption | exact xset_same _ _ _ | exact xst2 (by first | assumption | exact Ne.symm (by assumption)) (by first | assumption | exact xset_same _ _ _ | exact xst2 (by first | assumption | exact Ne.symm (by assumption)) (by first | assumption | exact xset_same _ _ _ | exact xst2 (by first | assumption | exact Ne.symm (by assumption)) (by first | assumption | exact xset_same _ _ _ | exact xst2 (by first | assumption | exact Ne.symm (by assumption)) (by first | assumption | exact xset_same _ _ _))))) (by rfl) ?_ -- 31 f1.0
      refine xg (by first | assumption | exact xset_same _ _ _ | exact xst2 (by first | assumption | exact Ne.symm (by assumption)) (by first | assumption | exact xset_same _ _ _ | exact xst2 (by first | assumption | exact Ne.symm (by assumption)) (by first | assumption | exact xset_same _ _ _ | exact xst2 (by first | assumption | exact Ne.symm (by assumption)) (by first | assumption | exact xset_same _ _ _ | exact xst2 (by first | assumption | exact Ne.symm (by assumption)) (by first | assumption | exact xset_same _ _ _))))) (by rfl) ?_ -- 35 f1.1
      refine xld (Or.inl (by first | assumption | exact xset_same _ _ _ | exact xst2 (by first | assumption | exact Ne.symm (by assumption)) (by first | assumption | exact xset_same _ _ _ | exact xst2 (by first | assumption | exact Ne.symm (by assumption)) (by first | assumption | exact xset_same _ _ _ | exact xst2 (by first | assumption | exact Ne.symm (by assumption)) (by first | assumption | exact xset_same _ _ _ | exact xst2 (by first | assumption | exact Ne.symm (by assumption)) (by first | assumption | exact xset_same _ _ _)))))) (nI_add i 2) (txv_at (by omega)) ?_ -- 40 t1
      refine xb (fun c => ?_) (fun c => ?_) -- 43 o_icne 50 46
      · exact And.intro rfl (xP hP ⟨rfl, by rw [cme, beq_eq_false_iff_ne.mpr ((f (i + 2) 62 (by omega) (by omega)).mp c)]; simp [bI]⟩)
      · have c3 := (sb_lit (hB.lt (by omega)) (by decide)).mp c
        exact And.intro rfl (xP hP ⟨rfl, by rw [cme, c1, c2, c3]; rfl⟩)
set_option maxRecDepth 20000 in
theorem c_skipComment {l : Launch} {D : xD} {r b i : Nat} {t : List Nat} {h : xH} (H : rdr h r b t i (-1)) : xMet l D 7 y_Rd_skipComment [.ref r] h 1 6 (xRes r b t [] h (pCom t i) (fun _ o _ => o = .inl none)) := by
  have H' := H
  obtain ⟨hr, hb, hi, ht, hB⟩ := H
  have hbr := H'.ne
  refine m_Rd_skipComment (Nat.le_of_ble_eq_true rfl) fun X hl hD hP hA => ?_
  have e2 : ∀ s, nI s + 2 = nI (s + 2) := fun s => nI_add s 2
  have tail : ∀ s : Nat, s ≤ t.length → cnd t t.length i = s → xG X 34 [(0, .ref r)] [] (xset h r (rdc b s (-1))) 1 6 := by
    intro s hs he
    have H2 := H'.mv (br' := -1) hs
    have hb1 : xset h r (rdc b s (-1)) b = some (101, txv t) := xst2 hbr hb
    refine xgo [] 40 hA ?_
    refine xg (by first | assumption | exact xset_same _ _ _ | exact xst2 (by first | assumption | exact Ne.symm (by assumption)) (by first | assumption | exact xset_same _ _ _ | exact xst2 (by first | assumption | exact Ne.symm (by assumption)) (by first | assumption | exact xset_same _ _ _ | exact xst2 (by first | assumption | exact Ne.symm (by assumption)) (by first | assumption | exact xset_same _ _ _ | exact xst2 (by first | assumption | exact Ne.symm (by assumption)) (by first | assumption | exact xset_same _ _ _))))) (by rfl) ?_ -- 35 f1.1
    refine xg (by first | assumption | exact xset_same _ _ _ | exact xst2 (by first | assumption | exact Ne.symm (by assumption)) (by first | assumption | exact xset_same _ _ _ | exact xst2 (by first | assumption | exact Ne.symm (by assumption)) (by first | assumption | exact xset_same _ _ _ | exact xst2 (by first | assumption | exact Ne.symm (by assumption)) (by first | assumption | exact xset_same _ _ _ | exact xst2 (by first | assumption | exact Ne.symm (by assumption)) (by first | assumption | exact xset_same _ _ _))))) (by rfl) ?_ -- 41 f1.0
    refine xln (t := 1) (Or.inl (by first | assumption | exact xset_same _ _ _ | exact xst2 (by first | assumption | exact Ne.symm (by assumption)) (by first | assumption | exact xset_same _ _ _ | exact xst2 (by first | assumption | exact Ne.symm (by assumption)) (by first | assumption | exact xset_same _ _ _ | exact xst2 (by first | assumption | exact Ne.symm (by assumption)) (by first | assumption | exact xset_same _ _ _ | exact xst2 (by first | assumption | exact Ne.symm (by assumption)) (by first | assumption | exact xset_same _ _ _)))))) (by decide) ?_ -- 44
    rw [txv_len]
    refine xb (fun c => ?_) (fun c => ?_) -- 45 o_iclt 57 48
    · have c1 : s + 2 < t.length := (nI_ltI (by omega) (by omega)).mp (e2 s ▸ c)
      refine xg (by first | assumption | exact xset_same _ _ _ | exact xst2 (by first | assumption | exact Ne.symm (by assumption)) (by first | assumption | exact xset_same _ _ _ | exact xst2 (by first | assumption | exact Ne.symm (by assumption)) (by first | assumption | exact xset_same _ _ _ | exact xst2 (by first | assumption | exact Ne.symm (by assumption)) (by first | assumption | exact xset_same _ _ _ | exact xst2 (by first | assumption | exact Ne.symm (by assumption)) (by first | assumption | exact xset_same _ _ _))))) (by rfl) ?_ -- 59 f1.1
      refine xp (by first | assumption | exact xset_same _ _ _ | exact xst2 (by first | assumption | exact Ne.symm (by assumption)) (by first | assumption | exact xset_same _ _ _ | exact xst2 (by first | assumption | exact Ne.symm (by assumption)) (by first | assumption | exact xset_same _ _ _ | exact xst2 (by first | assumption | exact Ne.symm (by assumption)) (by first | assumption | exact xset_same _ _ _ | exact xst2 (by first | assumption | exact Ne.symm (by assumption)) (by first | assumption | exact xset_same _ _ _))))) rfl rfl ?_ -- 64 f1.1
      refine xP hP (xRes.ok (by rw [pCom, he, if_pos c1]) ?_ ?_ rfl)
      · rw [show nI s + 3 = nI (s + 3) from nI_add s 3]
        exact H2.mv (by omega)
      · exact (fr.set _ _ _).tr (fr.set _ _ _)
    · have c1 : ¬ s + 2 < t.length := fun z => c (by rw [e2]; exact nI_lt z (by omega))
      refine xg (by first | assumption | exact xset_same _ _ _ | exact xst2 (by first | assumption | exact Ne.symm (by assumption)) (by first | assumption | exact xset_same _ _ _ | exact xst2 (by first | assumption | exact Ne.symm (by assumption)) (by first | assumption | exact xset_same _ _ _ | exact xst2 (by first | assumption | exact Ne.symm (by assumption)) (by first | assumption | exact xset_same _ _ _ | exact xst2 (by first | assumption | exact Ne.symm (by assumption)) (by first | assumption | exact xset_same _ _ _))))) (by rfl) ?_ -- 50 f1.0
      refine xln (t := 1) (Or.inl (by first | assumption | exact xset_same _ _ _ | exact xst2 (by first | assumption | exact Ne.symm (by assumption)) (by first | assumption | exact xset_same _ _ _ | exact xst2 (by first | assumption | exact Ne.symm (by assumption)) (by first | assumption | exact xset_same _ _ _ | exact xst2 (by first | assumption | exact Ne.symm (by assumption)) (by first | assumption | exact xset_same _ _ _ | exact xst2 (by first | assumption | exact Ne.symm (by assumption)) (by first | assumption | exact xset_same _ _ _)))))) (by decide) ?_ -- 53
      rw [txv_len]
      refine xfail H2 t.length (by rfl) rfl (Nat.le_refl _) (Nat.le_refl _) fun e h1 q => xP hP ?_
      exact xRes.er (by rw [pCom, he, if_neg c1]) (q.tr (fr.set _ _ _) (fun _ z => absurd z List.not_mem_nil))
  have key : ∀ s : Nat, (s ≤ t.length ∧ ∃ n, t.length ≤ n + s ∧ cnd t t.length i = cnd t n s) → xG X 0 [(0, .ref r)] [] (xset h r (rdc b s (-1))) 1 6 := by
    refine xind _ _ (fun s => t.length - s) (fun s hs ih => ?_)
    obtain ⟨hs, n, hn, he⟩ := hs
    have H2 := H'.mv (br' := -1) hs
    have hb1 : xset h r (rdc b s (-1)) b = some (101, txv t) := xst2 hbr hb
    refine xgo [0, 34] 40 hA ?_
    refine xg (by first | assumption | exact xset_same _ _ _ | exact xst2 (by first | assumption | exact Ne.symm (by assumption)) (by first | assumption | exact xset_same _ _ _ | exact xst2 (by first | assumption | exact Ne.symm (by assumption)) (by first | assumption | exact xset_same _ _ _ | exact xst2 (by first | assumption | exact Ne.symm (by assumption)) (by first | assumption | exact xset_same _ _ _ | exact xst2 (by first | assumption | exact Ne.symm (by assumption)) (by first | assumption | exact xset_same _ _ _))))) (by rfl) ?_ -- 1 f1.1
    refine xg (by first | assumption | exact xset_same _ _ _ | exact xst2 (by first | assumption | exact Ne.symm (by assumption)) (by first | assumption | exact xset_same _ _ _ | exact xst2 (by first | assumption | exact Ne.symm (by assumption)) (by first | assumption | exact xset_same _ _ _ | exact xst2 (by first | assumption | exact Ne.symm (by assumption)) (by first | assumption | exact xset_same _ _ _ | exact xst2 (by first | assumption | exact Ne.symm (by assumption)) (by first | assumption | exact xset_same _ _ _))))) (by rfl) ?_ -- 7 f1.0
    refine xln (t := 1) (Or.inl (by first | assumption | exact xset_same _ _ _ | exact xst2 (by first | assumption | exact Ne.symm (by assumption)) (by first | assumption | exact xset_same _ _ _ | exact xst2 (by first | assumption | exact Ne.symm (by assumption)) (by first | assumption | exact xset_same _ _ _ | exact xst2 (by first | assumption | exact Ne.symm (by assumption)) (by first | assumption | exact xset_same _ _ _ | exact xst2 (by first | assumption | exact Ne.symm (by assumption)) (by first | assumption | exact xset_same _ _ _)))))) (by decide) ?_ -- 10
    rw [txv_len]
    refine xb (fun c => ?_) (fun c => ?_) -- 11 o_icge 34 14
    · have c1 : t.length ≤ s + 2 := (nI_leI (by omega) (by omega)).mp (e2 s ▸ c)
      refine tail s hs ?_
      rw [he]
      cases n with
      | zero => rfl
      | succ n => rw [cnd, if_neg (by omega)]
    · have c1 : s + 2 < t.length := Nat.lt_of_not_le fun z => c (by rw [e2]; exact nI_le z (by omega))
      refine xcV (by first | assumption | exact xset_same _ _ _ | exact xst2 (by first | assumption | exact Ne.symm (by assumption)) (by first | assumption | exact xset_same _ _ _ | exact xst2 (by first | assumption | exact Ne.symm (by assumption)) (by first | assumption | exact xset_same _ _ _ | exact xst2 (by first | assumption | exact Ne.symm (by assumption)) (by first | assumption | exact xset_same _ _ _ | exact xst2 (by first | assumption | exact Ne.symm (by assumption)) (by first | assumption | exact xset_same _ _ _))))) (c_commentEndsHere H2 c1) (by rfl) (by rfl) (by rfl) (Nat.zero_le _) (Nat.zero_le _) ?_ -- 15
      rintro o h1 ⟨rfl, rfl⟩
      obtain ⟨n, rfl⟩ : ∃ m, n = m + 1 := ⟨n - 1, by omega⟩
      refine xb (fun c => ?_) (fun c => ?_) -- 18 o_ifne 34 21
      · exact tail s hs (by rw [he, cnd, if_neg (fun z => by rw [(bI_n0 _).mp c] at z; cases z.2)])
      · refine xg (by first | assumption | exact xset_same _ _ _ | exact xst2 (by first | assumption | exact Ne.symm (by assumption)) (by first | assumption | exact xset_same _ _ _ | exact xst2 (by first | assumption | exact Ne.symm (by assumption)) (by first | assumption | exact xset_same _ _ _ | exact xst2 (by first | assumption | exact Ne.symm (by assumption)) (by first | assumption | exact xset_same _ _ _ | exact xst2 (by first | assumption | exact Ne.symm (by assumption)) (by first | assumption | exact xset_same _ _ _))))) (by rfl) ?_ -- 23 f1.1
        refine xp (by first | assumption | exact xset_same _ _ _ | exact xst2 (by first | assumption | exact Ne.symm (by assumption)) (by first | assumption | exact xset_same _ _ _ | exact xst2 (by first | assumption | exact Ne.symm (by assumption)) (by first | assumption | exact xset_same _ _ _ | exact xst2 (by first | assumption | exact Ne.symm (by assumption)) (by first | assumption | exact xset_same _ _ _ | exact xst2 (by first | assumption | exact Ne.symm (by assumption)) (by first | assumption | exact xset_same _ _ _))))) rfl rfl ?_ -- 28 f1.1
        rw [xset_set, nI_1]
        exact ih (s + 1) ⟨by omega, n, by omega, by rw [he, cnd, if_pos ⟨c1, (bI_0 _).mp c⟩]⟩ (by omega)
  have := key i ⟨hi, t.length, by omega, rfl⟩
  rw [xset_self hr] at this
  exact this
