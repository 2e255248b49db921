/-! CONTRACTS, 24: new rules, new styles -/
set_option maxRecDepth 20000 in
theorem c_Ru_init {l : Launch} {D : xD} {h0 h : xH} {r b i ru : Nat} {t O : List Nat} {v0 v1 : Value} (C : cx D h0 h r b t i O) (hO : ru ∈ O) (hu : h ru = some (10, [v0, v1])) : xMet l D 4 y_Ru_init [.ref ru] h 2 6 (fun o h' => ∃ a3 e3 a4 e4, cx D h0 h' r b t i (a4 :: a3 :: O) ∧ fr [] (zz h0 O h) (zz h0 (a4 :: a3 :: O) h') ∧ isL D h' a3 e3 [] ∧ isL D h' a4 e4 [] ∧ h' ru = some (10, [.ref a3, .ref a4]) ∧ fr [ru] h h' ∧ h a3 = none ∧ h a4 = none ∧ a3 ≠ a4 ∧ o = .inl none) := by
  refine m_Ru_init (Nat.le_of_ble_eq_true rfl) fun X hl hD hP hA => ?_
  subst hl hD
  refine xgo [] 60 hA ?_
  refine xn (by omega) (by omega) fun a ha => ?_
  have hua : ru ≠ a := xnn hu ha
  obtain ⟨C1, z1⟩ := C.new (c := (12, [.int 0, .null, .int 0])) ha rfl
  refine xcI (c_AL_init C1.2.1 (xset_same _ _ _)) (by rfl) (by rfl) (by rfl) (Nat.zero_le _) (Nat.zero_le _) ?_
  rintro o h1 ⟨e3, L3, rfl, rfl⟩
  rw [xset_set] at L3 ⊢
  obtain ⟨C2, z2⟩ := C.new (c := (12, [.int 0, .ref e3, .int 0])) ha rfl
  have u2 : xset h a (12, [.int 0, .ref e3, .int 0]) ru = some (10, [v0, v1]) := xst2 hua hu
  have f2 : fr [ru] h (xset h a (12, [.int 0, .ref e3, .int 0])) := (fr.refl _ _).put (Or.inr ha)
  obtain ⟨h2, hh2⟩ : ∃ h2, h2 = xset h a (12, [.int 0, .ref e3, .int 0]) := ⟨_, rfl⟩
  rw [← hh2] at L3 C2 z2 u2 f2 ⊢
  refine xp (fs' := [.ref a, v1]) u2 rfl rfl ?_
  obtain ⟨C3, z3⟩ := C2.put (c := (10, [.ref a, v1])) (List.mem_cons_of_mem _ hO) rfl
  have f3 := f2.put (a := ru) (c := (10, [.ref a, v1])) (Or.inl (by simp))
  have u3 : xset h2 ru (10, [.ref a, v1]) ru = _ := xset_same _ _ _
  have L3' : isL X.D (xset h2 ru (10, [.ref a, v1])) a e3 [] := isL.frm (M := [ru]) L3 (fr.set _ _ _) ((kp.refl _).put u2 rfl) (by simpa using Ne.symm hua) (fun z => absurd rfl z)
  obtain ⟨h3, hh3⟩ : ∃ h3, h3 = xset h2 ru (10, [.ref a, v1]) := ⟨_, rfl⟩
  rw [← hh3] at L3' C3 z3 u3 f3 ⊢
  refine xn (by omega) (by omega) fun c hc => ?_
  have huc : ru ≠ c := xnn u3 hc
  obtain ⟨C4, z4⟩ := C3.new (c := (12, [.int 0, .null, .int 0])) hc rfl
  refine xcI (c_AL_init C4.2.1 (xset_same _ _ _)) (by rfl) (by rfl) (by rfl) (Nat.zero_le _) (Nat.zero_le _) ?_
  rintro o h4 ⟨e4, L4, rfl, rfl⟩
  rw [xset_set] at L4 ⊢
  obtain ⟨C5, z5⟩ := C3.new (c := (12, [.int 0, .ref e4, .int 0])) hc rfl
  obtain ⟨av, hav⟩ := L3'.cell
  have hac : a ≠ c := xnn hav hc
  have hc0 : h c = none := fr_non f3 (fun q hq => by rw [List.mem_singleton.mp hq, u3]; simp) hc
  have L5 := L3'.new (c := (12, [.int 0, .ref e4, .int 0])) hc
  have u5 : xset h3 c (12, [.int 0, .ref e4, .int 0]) ru = some (10, [.ref a, v1]) := xst2 huc u3
  refine xp (fs' := [.ref a, .ref c]) u5 rfl rfl ?_
  obtain ⟨C6, z6⟩ := C5.put (c := (10, [.ref a, .ref c])) (List.mem_cons_of_mem _ (List.mem_cons_of_mem _ hO)) rfl
  refine xP hP ⟨a, e3, c, e4, C6, ((z2.tr z3).tr z5).tr z6, ?_, ?_, xset_same _ _ _, (f3.put (Or.inr hc0)).put (Or.inl (by simp)), ha, hc0, hac, rfl⟩
  · exact isL.frm (M := [ru]) L5 (fr.set _ _ _) ((kp.refl _).put u5 rfl) (by simpa using Ne.symm hua) (fun z => absurd rfl z)
  · exact isL.frm (M := [ru]) L4 (fr.set _ _ _) ((kp.refl _).put u5 rfl) (by simpa using Ne.symm huc) (fun z => absurd rfl z)
/-- the lists with two new ones -/
def g5 (G : Nat → LG) (a3 e3 a4 e4 : Nat) : Nat → LG := fun k => if k = 3 then (a3, e3, []) else if k = 4 then (a4, e4, []) else G k
theorem sY.rule {D : xD} {B : Nat → Prop} {h0 h h' : xH} {r b i sy ru tc a3 e3 a4 e4 : Nat} {t O : List Nat} {G : Nat → LG} {rs : List RU} {ss : List (List ST)} {ns : List (Nat × Nat)} {c : xC} (W : sY D B h0 h r b t i O sy G rs ss ns tc) (hru : h ru = none) (C' : cx D h0 h' r b t i (a4 :: a3 :: ru :: O)) (z : fr [] (zz h0 (ru :: O) (xset h ru c)) (zz h0 (a4 :: a3 :: ru :: O) h')) (hc : immK c.1 = false) (L3 : isL D h' a3 e3 []) (L4 : isL D h' a4 e4 []) (u : h' ru = some (10, [.ref a3, .ref a4])) (f : fr [ru] (xset h ru c) h') (n3 : xset h ru c a3 = none) (n4 : xset h ru c a4 = none) (n34 : a3 ≠ a4) : sX D B h0 h' r b t i (a4 :: a3 :: ru :: O) sy ru (g5 G a3 e3 a4 e4) rs ss ns [] [] tc := by
  obtain ⟨C, Ls, ⟨s1, s2⟩, A0, A1, A2⟩ := W
  obtain ⟨C1, z1⟩ := C.new (c := c) hru hc
  have f1 : fr [] h h' := fun q d e _ => f q d (xst2 (xnn e hru) e) (by simpa using xnn e hru)
  have zt := z1.tr z
  have k1 : kp h h' := f1.im fun q hq => by cases hq
  have o3 : ∀ k, k < 3 → g5 G a3 e3 a4 e4 k = G k := fun k hk => by unfold g5; rw [if_neg (by omega), if_neg (by omega)]
  have nA : ∀ k, k < 3 → (G k).1 ≠ a3 ∧ (G k).1 ≠ a4 := fun k hk => by
    obtain ⟨v, hv⟩ := (Ls.1 k hk).1.cell
    have hv' := xst2 (c := c) (xnn hv hru) hv
    exact ⟨xnn hv' n3, xnn hv' n4⟩
  have sO : ∀ q ∈ O, q ∈ a4 :: a3 :: ru :: O := fun q hq => by simp [hq]
  refine ⟨C', ⟨fun k hk => ?_, fun j k hj hk hjk => ?_⟩, ⟨sO _ s1, f1 _ _ s2 (by simp)⟩, ⟨by simp, u⟩, A0.mono fun a b q => q.ext zt, A1.mono fun a b q => q.ext zt, A2.mono fun a b q => q.ext zt, trivial, trivial⟩
  · by_cases h3 : k < 3
    · rw [o3 k h3]
      obtain ⟨q1, q2, q3⟩ := Ls.1 k h3
      exact ⟨q1.frm f1 k1 (by simp) (by simp), sO _ q2, fun w => sO _ (q3 w)⟩
    · rcases (show k = 3 ∨ k = 4 by omega) with w | w
      · subst w; exact ⟨L3, by show a3 ∈ _; simp, fun y => absurd rfl y⟩
      · subst w; exact ⟨L4, by show a4 ∈ _; simp, fun y => absurd rfl y⟩
  · by_cases hj3 : j < 3
    · by_cases hk3 : k < 3
      · rw [o3 j hj3, o3 k hk3]; exact Ls.2 j k hj3 hk3 hjk
      · rw [o3 j hj3]
        rcases (show k = 3 ∨ k = 4 by omega) with w | w
        · subst w; exact ⟨(nA j hj3).1, fun _ y => absurd rfl y⟩
        · subst w; exact ⟨(nA j hj3).2, fun _ y => absurd rfl y⟩
    · by_cases hk3 : k < 3
      · rw [o3 k hk3]
        rcases (show j = 3 ∨ j = 4 by omega) with w | w
        · subst w; exact ⟨Ne.symm (nA k hk3).1, fun y => absurd rfl y⟩
        · subst w; exact ⟨Ne.symm (nA k hk3).2, fun y => absurd rfl y⟩
      · rcases (show (j = 3 ∧ k = 4) ∨ (j = 4 ∧ k = 3) by omega) with ⟨rfl, rfl⟩ | ⟨rfl, rfl⟩
        · exact ⟨n34, fun y => absurd rfl y⟩
        · exact ⟨Ne.symm n34, fun y => absurd rfl y⟩
def g3 (a0 e0 a1 e1 a2 e2 : Nat) : Nat → LG := fun k => if k = 0 then (a0, e0, []) else if k = 1 then (a1, e1, []) else (a2, e2, [])
set_option maxRecDepth 20000 in
theorem c_Sy_init {B : Nat → Prop} {l : Launch} {D : xD} {h0 h : xH} {r b i sy : Nat} {t O : List Nat} {v0 v1 v2 v3 : Value} (C : cx D h0 h r b t i O) (hO : sy ∈ O) (hu : h sy = some (11, [v0, v1, v2, v3])) : xMet l D 4 y_Sy_init [.ref sy] h 3 9 (fun o h' => o = .inl none ∧ fr [sy] h h' ∧ ∃ O' G, sY D B h0 h' r b t i O' sy G [] [] [] 0 ∧ (∀ q ∈ O, q ∈ O')) := by
  refine m_Sy_init (Nat.le_of_ble_eq_true rfl) fun X hl hD hP hA => ?_
  subst hl hD
  refine xgo [] 60 hA ?_
  refine xn (by omega) (by omega) fun a ha => ?_
  have hua : sy ≠ a := xnn hu ha
  obtain ⟨C1, -⟩ := C.new (c := (12, [.int 0, .null, .int 0])) ha rfl
  refine xcI (c_AL_init C1.2.1 (xset_same _ _ _)) (by rfl) (by rfl) (by rfl) (Nat.zero_le _) (Nat.zero_le _) ?_
  rintro o h1 ⟨e3, L3, rfl, rfl⟩
  rw [xset_set] at L3 ⊢
  obtain ⟨C2, z2⟩ := C.new (c := (12, [.int 0, .ref e3, .int 0])) ha rfl
  have u2 : xset h a (12, [.int 0, .ref e3, .int 0]) sy = some (11, [v0, v1, v2, v3]) := xst2 hua hu
  have f2 : fr [sy] h (xset h a (12, [.int 0, .ref e3, .int 0])) := (fr.refl _ _).put (Or.inr ha)
  obtain ⟨h2, hh2⟩ : ∃ h2, h2 = xset h a (12, [.int 0, .ref e3, .int 0]) := ⟨_, rfl⟩
  rw [← hh2] at L3 C2 z2 u2 f2 ⊢
  refine xp (fs' := [.ref a, v1, v2, v3]) u2 rfl rfl ?_
  obtain ⟨C3, z3⟩ := C2.put (c := (11, [.ref a, v1, v2, v3])) (List.mem_cons_of_mem _ hO) rfl
  have f3 := f2.put (a := sy) (c := (11, [.ref a, v1, v2, v3])) (Or.inl (by simp))
  have u3 : xset h2 sy (11, [.ref a, v1, v2, v3]) sy = _ := xset_same _ _ _
  have L3' : isL X.D (xset h2 sy (11, [.ref a, v1, v2, v3])) a e3 [] := isL.frm (M := [sy]) L3 (fr.set _ _ _) ((kp.refl _).put u2 rfl) (by simpa using Ne.symm hua) (fun z => absurd rfl z)
  obtain ⟨h3, hh3⟩ : ∃ h3, h3 = xset h2 sy (11, [.ref a, v1, v2, v3]) := ⟨_, rfl⟩
  rw [← hh3] at L3' C3 z3 u3 f3 ⊢
  refine xn (by omega) (by omega) fun c hc => ?_
  have huc : sy ≠ c := xnn u3 hc
  obtain ⟨C4, -⟩ := C3.new (c := (12, [.int 0, .null, .int 0])) hc rfl
  refine xcI (c_AL_init C4.2.1 (xset_same _ _ _)) (by rfl) (by rfl) (by rfl) (Nat.zero_le _) (Nat.zero_le _) ?_
  rintro o h4 ⟨e4, L4, rfl, rfl⟩
  rw [xset_set] at L4 ⊢
  obtain ⟨C5, z5⟩ := C3.new (c := (12, [.int 0, .ref e4, .int 0])) hc rfl
  obtain ⟨av, hav⟩ := L3'.cell
  have hac : a ≠ c := xnn hav hc
  have hc0 : h c = none := fr_non f3 (fun q hq => by rw [List.mem_singleton.mp hq, u3]; simp) hc
  have L5 := L3'.new (c := (12, [.int 0, .ref e4, .int 0])) hc
  have u5 : xset h3 c (12, [.int 0, .ref e4, .int 0]) sy = some (11, [.ref a, v1, v2, v3]) := xst2 huc u3
  refine xp (fs' := [.ref a, .ref c, v2, v3]) u5 rfl rfl ?_
  obtain ⟨C6, z6⟩ := C5.put (c := (11, [.ref a, .ref c, v2, v3])) (List.mem_cons_of_mem _ (List.mem_cons_of_mem _ hO)) rfl
  have f6 := (f3.put (a := c) (c := (12, [.int 0, .ref e4, .int 0])) (Or.inr hc0)).put (a := sy) (c := (11, [.ref a, .ref c, v2, v3])) (Or.inl (by simp))
  have u6 : xset (xset h3 c (12, [.int 0, .ref e4, .int 0])) sy (11, [.ref a, .ref c, v2, v3]) sy = _ := xset_same _ _ _
  have La : isL X.D (xset (xset h3 c (12, [.int 0, .ref e4, .int 0])) sy (11, [.ref a, .ref c, v2, v3])) a e3 [] := isL.frm (M := [sy]) L5 (fr.set _ _ _) ((kp.refl _).put u5 rfl) (by simpa using Ne.symm hua) (fun z => absurd rfl z)
  have Lc : isL X.D (xset (xset h3 c (12, [.int 0, .ref e4, .int 0])) sy (11, [.ref a, .ref c, v2, v3])) c e4 [] := isL.frm (M := [sy]) L4 (fr.set _ _ _) ((kp.refl _).put u5 rfl) (by simpa using Ne.symm huc) (fun z => absurd rfl z)
  obtain ⟨h6, hh6⟩ : ∃ h6, h6 = xset (xset h3 c (12, [.int 0, .ref e4, .int 0])) sy (11, [.ref a, .ref c, v2, v3]) := ⟨_, rfl⟩
  rw [← hh6] at La Lc C6 z6 u6 f6 ⊢
  refine xn (by omega) (by omega) fun d hd => ?_
  have hud : sy ≠ d := xnn u6 hd
  obtain ⟨C7, -⟩ := C6.new (c := (12, [.int 0, .null, .int 0])) hd rfl
  refine xcI (c_AL_init C7.2.1 (xset_same _ _ _)) (by rfl) (by rfl) (by rfl) (Nat.zero_le _) (Nat.zero_le _) ?_
  rintro o h7 ⟨e5, L7, rfl, rfl⟩
  rw [xset_set] at L7 ⊢
  obtain ⟨C8, z8⟩ := C6.new (c := (12, [.int 0, .ref e5, .int 0])) hd rfl
  obtain ⟨av, hav⟩ := La.cell
  obtain ⟨cv, hcv⟩ := Lc.cell
  have had : a ≠ d := xnn hav hd
  have hcd : c ≠ d := xnn hcv hd
  have hd0 : h d = none := fr_non f6 (fun q hq => by rw [List.mem_singleton.mp hq, u6]; simp) hd
  have La8 := La.new (c := (12, [.int 0, .ref e5, .int 0])) hd
  have Lc8 := Lc.new (c := (12, [.int 0, .ref e5, .int 0])) hd
  have u8 : xset h6 d (12, [.int 0, .ref e5, .int 0]) sy = some (11, [.ref a, .ref c, v2, v3]) := xst2 hud u6
  refine xp (fs' := [.ref a, .ref c, .ref d, v3]) u8 rfl rfl ?_
  refine xp (fs' := [.ref a, .ref c, .ref d, .int 0]) (xset_same _ _ _) rfl rfl ?_
  rw [xset_set]
  obtain ⟨C9, z9⟩ := C8.put (y := sy) (c := (11, [.ref a, .ref c, .ref d, .int 0])) (by simp [hO]) rfl
  have kk : kp (xset h6 d (12, [.int 0, .ref e5, .int 0])) (xset (xset h6 d (12, [.int 0, .ref e5, .int 0])) sy (11, [.ref a, .ref c, .ref d, .int 0])) := (kp.refl _).put u8 rfl
  have La9 := La8.frm (M := [sy]) (fr.set _ sy (11, [.ref a, .ref c, .ref d, .int 0])) kk (by simpa using Ne.symm hua) (fun z => absurd rfl z)
  have Lc9 := Lc8.frm (M := [sy]) (fr.set _ sy (11, [.ref a, .ref c, .ref d, .int 0])) kk (by simpa using Ne.symm huc) (fun z => absurd rfl z)
  have Ld9 := isL.frm (xs := []) (M := [sy]) L7 (fr.set _ sy (11, [.ref a, .ref c, .ref d, .int 0])) kk (by simpa using Ne.symm hud) (fun z => absurd rfl z)
  refine xP hP ⟨rfl, (f6.put (Or.inr hd0)).put (Or.inl (by simp)), d :: c :: a :: O, g3 a e3 c e4 d e5, ⟨C9, ⟨fun k hk => ?_, fun j k hj hk hjk => ?_⟩, ⟨by simp [hO], xset_same _ _ _⟩, trivial, trivial, trivial⟩, fun q hq => by simp [hq]⟩
  · match k, hk with
    | 0, _ => exact ⟨La9, by show a ∈ _; simp, fun y => absurd rfl y⟩
    | 1, _ => exact ⟨Lc9, by show c ∈ _; simp, fun y => absurd rfl y⟩
    | 2, _ => exact ⟨Ld9, by show d ∈ _; simp, fun y => absurd rfl y⟩
  · match j, k, hj, hk, hjk with
    | 0, 1, _, _, _ => exact ⟨hac, fun y => absurd rfl y⟩
    | 0, 2, _, _, _ => exact ⟨had, fun y => absurd rfl y⟩
    | 1, 0, _, _, _ => exact ⟨Ne.symm hac, fun y => absurd rfl y⟩
    | 1, 2, _, _, _ => exact ⟨hcd, fun y => absurd rfl y⟩
    | 2, 0, _, _, _ => exact ⟨Ne.symm had, fun y => absurd rfl y⟩
    | 2, 1, _, _, _ => exact ⟨Ne.symm hcd, fun y => absurd rfl y⟩
    | 0, 0, _, _, h => exact absurd rfl h
    | 1, 1, _, _, h => exact absurd rfl h
    | 2, 2, _, _, h => exact absurd rfl h
