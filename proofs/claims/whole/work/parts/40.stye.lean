/-! CONTRACTS, 19: what is told -/
set_option maxRecDepth 20000 in
theorem c_To_init {l : Launch} {D : xD} {h : xH} {x : Nat} {a b : Int32} {v0 v1 v2 v3 v4 v5 v6 : Value} (hx : h x = some (9, [v0, v1, v2, v3, v4, v5, v6])) : xMet l D 1 y_To_init [.ref x, .int a, .int b] h 0 0 (fun o h' => h' = xset h x (9, [.int a, .int b, .int 0, .null, .int 0, .int 0, .int 0]) ∧ o = .inl none) := by
  refine m_To_init (Nat.le_of_ble_eq_true rfl) fun X hl hD hP hA => ?_
  subst hl hD
  refine xgo [] 60 hA ?_
  refine xp (by first | assumption | exact xset_same _ _ _ | exact xst2 (by first | assumption | exact Ne.symm (by assumption)) (by first | assumption | exact xset_same _ _ _ | exact xst2 (by first | assumption | exact Ne.symm (by assumption)) (by first | assumption | exact xset_same _ _ _ | exact xst2 (by first | assumption | exact Ne.symm (by assumption)) (by first | assumption | exact xset_same _ _ _ | exact xst2 (by first | assumption | exact Ne.symm (by assumption)) (by first | assumption | exact xset_same _ _ _ | exact xst2 (by first | assumption | exact Ne.symm (by assumption)) (by first | assumption | exact xset_same _ _ _ | exact xst2 (by first | assumption | exact Ne.symm (by assumption)) (by first | assumption | exact xset_same _ _ _))))))) rfl rfl ?_
  refine xp (by first | assumption | exact xset_same _ _ _ | exact xst2 (by first | assumption | exact Ne.symm (by assumption)) (by first | assumption | exact xset_same _ _ _ | exact xst2 (by first | assumption | exact Ne.symm (by assumption)) (by first | assumption | exact xset_same _ _ _ | exact xst2 (by first | assumption | exact Ne.symm (by assumption)) (by first | assumption | exact xset_same _ _ _ | exact xst2 (by first | assumption | exact Ne.symm (by assumption)) (by first | assumption | exact xset_same _ _ _ | exact xst2 (by first | assumption | exact Ne.symm (by assumption)) (by first | assumption | exact xset_same _ _ _ | exact xst2 (by first | assumption | exact Ne.symm (by assumption)) (by first | assumption | exact xset_same _ _ _))))))) rfl rfl ?_
  refine xp (by first | assumption | exact xset_same _ _ _ | exact xst2 (by first | assumption | exact Ne.symm (by assumption)) (by first | assumption | exact xset_same _ _ _ | exact xst2 (by first | assumption | exact Ne.symm (by assumption)) (by first | assumption | exact xset_same _ _ _ | exact xst2 (by first | assumption | exact Ne.symm (by assumption)) (by first | assumption | exact xset_same _ _ _ | exact xst2 (by first | assumption | exact Ne.symm (by assumption)) (by first | assumption | exact xset_same _ _ _ | exact xst2 (by first | assumption | exact Ne.symm (by assumption)) (by first | assumption | exact xset_same _ _ _ | exact xst2 (by first | assumption | exact Ne.symm (by assumption)) (by first | assumption | exact xset_same _ _ _))))))) rfl rfl ?_
  refine xp (by first | assumption | exact xset_same _ _ _ | exact xst2 (by first | assumption | exact Ne.symm (by assumption)) (by first | assumption | exact xset_same _ _ _ | exact xst2 (by first | assumption | exact Ne.symm (by assumption)) (by first | assumption | exact xset_same _ _ _ | exact xst2 (by first | assumption | exact Ne.symm (by assumption)) (by first | assumption | exact xset_same _ _ _ | exact xst2 (by first | assumption | exact Ne.symm (by assumption)) (by first | assumption | exact xset_same _ _ _ | exact xst2 (by first | assumption | exact Ne.symm (by assumption)) (by first | assumption | exact xset_same _ _ _ | exact xst2 (by first | assumption | exact Ne.symm (by assumption)) (by first | assumption | exact xset_same _ _ _))))))) rfl rfl ?_
  refine xpz (by first | assumption | exact xset_same _ _ _ | exact xst2 (by first | assumption | exact Ne.symm (by assumption)) (by first | assumption | exact xset_same _ _ _ | exact xst2 (by first | assumption | exact Ne.symm (by assumption)) (by first | assumption | exact xset_same _ _ _ | exact xst2 (by first | assumption | exact Ne.symm (by assumption)) (by first | assumption | exact xset_same _ _ _ | exact xst2 (by first | assumption | exact Ne.symm (by assumption)) (by first | assumption | exact xset_same _ _ _ | exact xst2 (by first | assumption | exact Ne.symm (by assumption)) (by first | assumption | exact xset_same _ _ _ | exact xst2 (by first | assumption | exact Ne.symm (by assumption)) (by first | assumption | exact xset_same _ _ _))))))) ⟨rfl, rfl⟩ rfl ?_
  refine xp (by first | assumption | exact xset_same _ _ _ | exact xst2 (by first | assumption | exact Ne.symm (by assumption)) (by first | assumption | exact xset_same _ _ _ | exact xst2 (by first | assumption | exact Ne.symm (by assumption)) (by first | assumption | exact xset_same _ _ _ | exact xst2 (by first | assumption | exact Ne.symm (by assumption)) (by first | assumption | exact xset_same _ _ _ | exact xst2 (by first | assumption | exact Ne.symm (by assumption)) (by first | assumption | exact xset_same _ _ _ | exact xst2 (by first | assumption | exact Ne.symm (by assumption)) (by first | assumption | exact xset_same _ _ _ | exact xst2 (by first | assumption | exact Ne.symm (by assumption)) (by first | assumption | exact xset_same _ _ _))))))) rfl rfl ?_
  refine xp (by first | assumption | exact xset_same _ _ _ | exact xst2 (by first | assumption | exact Ne.symm (by assumption)) (by first | assumption | exact xset_same _ _ _ | exact xst2 (by first | assumption | exact Ne.symm (by assumption)) (by first | assumption | exact xset_same _ _ _ | exact xst2 (by first | assumption | exact Ne.symm (by assumption)) (by first | assumption | exact xset_same _ _ _ | exact xst2 (by first | assumption | exact Ne.symm (by assumption)) (by first | assumption | exact xset_same _ _ _ | exact xst2 (by first | assumption | exact Ne.symm (by assumption)) (by first | assumption | exact xset_same _ _ _ | exact xst2 (by first | assumption | exact Ne.symm (by assumption)) (by first | assumption | exact xset_same _ _ _))))))) rfl rfl ?_
  exact xP hP ⟨by simp only [xset_set]; rfl, rfl⟩
set_option maxRecDepth 20000 in
theorem c_readAmount {l : Launch} {D : xD} {h : xH} {r b i x : Nat} {t : List Nat} {v0 v1 v2 v3 v6 : Value} (H : rdr h r b t i (-1)) (hx : h x = some (9, [v0, v1, v2, v3, .int 0, .int 0, v6])) : xMet l D 8 y_To_readAmount [.ref x, .ref r] h 2 12 (xRes r b t [x] h (pAmt t i) (fun q o h' => o = .inl none ∧ h' x = some (9, [v0, v1, v2, v3, .int (nI q.1), .int (nI q.2), v6]) ∧ q.1 < 10000000 ∧ q.2 ≤ 1000)) := by
  have hxr : x ≠ r := xne' hx H.1 (by decide)
  have hxb : x ≠ b := xne' hx H.2.1 (by decide)
  refine m_To_readAmount (Nat.le_of_ble_eq_true rfl) fun X hl hD hP hA => ?_
  subst hl hD
  refine xgo [40] 60 hA ?_
  refine xg H.1 (by rfl) ?_
  refine xcV H.1 (c_readNumber H) (by rfl) (by rfl) (by rfl) (by omega) (by omega) ?_
  intro o h1 q
  rcases q.cs with ⟨w, e1, z⟩ | ⟨n, j, e1, H1, f1, rfl⟩
  · obtain ⟨ex, rfl⟩ := z.1
    exact xP hP (xRes.er (by rw [pAmt, pB_er e1]) (z.tr (fr.refl _ _) (fun _ z => absurd z List.not_mem_nil)))
  have hn := pNum_lt e1
  have x1 := f1.one hx hxr
  refine xp (fs' := [v0, v1, v2, v3, .int (nI n), .int 0, v6]) x1 rfl rfl ?_
  have f1' : fr [r, x] h h1 := (fr.refl _ _).trans f1 fun q hq => Or.inl (by rw [List.mem_singleton.mp hq]; simp)
  have H2 : rdr (xset h1 x (9, [v0, v1, v2, v3, .int (nI n), .int 0, v6])) r b t j (-1) := ⟨xst2 (Ne.symm hxr) H1.1, xst2 (Ne.symm hxb) H1.2.1, H1.2.2⟩
  have f2 : fr [r, x] h (xset h1 x (9, [v0, v1, v2, v3, .int (nI n), .int 0, v6])) := f1'.put (Or.inl (by simp))
  refine xcV H2.1 (c_nextSign H2) (by rfl) (by rfl) (by rfl) (Nat.zero_le _) (Nat.zero_le _) ?_
  rintro o h3 ⟨rfl, rfl⟩
  have H3 := H2.mv (br' := -1) (scan_le H2.2.2.1 (p := bl))
  have f3 := f2.put (a := r) (c := rdc b (scan bl t j) (-1)) (Or.inl (by simp))
  have x3 : xset (xset h1 x (9, [v0, v1, v2, v3, .int (nI n), .int 0, v6])) r (rdc b (scan bl t j) (-1)) x = some (9, [v0, v1, v2, v3, .int (nI n), .int 0, v6]) := xst2 hxr (xset_same _ _ _)
  obtain ⟨h4, hh4⟩ : ∃ h4, h4 = xset (xset h1 x (9, [v0, v1, v2, v3, .int (nI n), .int 0, v6])) r (rdc b (scan bl t j) (-1)) := ⟨_, rfl⟩
  rw [← hh4] at H3 f3 x3 ⊢
  have hct : ch t (scan bl t j) ≤ 256 := H.2.2.2.2.le _
  refine xb (fun c => ?_) (fun c => ?_) -- 19
  · have c1 : ¬ ch t (scan bl t j) = 37 := fun z => c (by rw [z]; rfl)
    exact xP hP (xRes.ok (by rw [pAmt, pB_ok e1, if_neg c1]) H3 f3 ⟨rfl, x3, hn, Nat.zero_le _⟩)
  · have c1 : ch t (scan bl t j) = 37 := (cI_lit hct (by decide)).mp c
    have hlt := ch_lt c1 (by decide)
    have bad : (n < 1 ∨ 1000 < n) → ∀ rc rs, 1 ≤ rc → 6 ≤ rs → xG X 40 [(2, .int (nI i)), (0, .ref x), (1, .ref r)] [] h4 rc rs := by
      intro z rc rs hrc hrs
      refine xgo [] 60 hA ?_
      refine xfail H3 i (by rfl) rfl hrc hrs fun e h1 q => xP hP (xRes.er (by rw [pAmt, pB_ok e1, if_pos c1, if_pos z]) (q.tr f3 (fun _ z => absurd z List.not_mem_nil)))
    refine xg x3 (by rfl) ?_
    refine xb (fun c2 => ?_) (fun c2 => ?_)
    · exact bad (Or.inl ((nI_ltI (b := 1) (by omega) (by omega)).mp c2)) _ _ (by omega) (by omega)
    refine xg x3 (by rfl) ?_
    have c3 : ¬ n < 1 := fun z => c2 ((nI_ltI (b := 1) (by omega) (by omega)).mpr z)
    refine xb (fun c4 => ?_) (fun c4 => ?_)
    · have c5 : n ≤ 1000 := (nI_leI (b := 1000) (by omega) (by omega)).mp c4
      refine xg H3.1 (by rfl) ?_
      refine xp (fs' := [.ref b, .int (nI (scan bl t j) + 1), .int (-1)]) H3.1 rfl rfl ?_
      rw [nI_1]
      have H5 := H3.mv (br' := -1) (j := scan bl t j + 1) hlt
      have x5 := xst2 (c := rdc b (scan bl t j + 1) (-1)) hxr x3
      refine xg x5 (by rfl) ?_
      refine xp (fs' := [v0, v1, v2, v3, .int (nI n), .int (nI n), v6]) x5 rfl rfl ?_
      refine xP hP (xRes.ok (by rw [pAmt, pB_ok e1, if_pos c1, if_neg (by omega)]) ⟨xst2 (Ne.symm hxr) H5.1, xst2 (Ne.symm hxb) H5.2.1, H5.2.2⟩ ((f3.put (Or.inl (by simp))).put (Or.inl (by simp))) ⟨rfl, xset_same _ _ _, hn, c5⟩)
    · exact bad (Or.inr (Nat.lt_of_not_le fun z => c4 ((nI_leI (b := 1000) (by omega) (by omega)).mpr z))) _ _ (by omega) (by omega)
set_option maxRecDepth 20000 in
theorem c_readValue {B : Nat → Prop} {l : Launch} {D : xD} {h : xH} {r b i x : Nat} {t : List Nat} {v0 v1 : Value} (H : rdr h r b t i (-1)) (hx : h x = some (9, [v0, v1, .int 0, .null, .int 0, .int 0, .int 0])) (hBb : B b) : xMet l D 9 y_To_readValue [.ref x, .ref r] h 2 12 (xRes r b t [x] h (pVal2 t i) (fun v o h' => o = .inl none ∧ ∃ tv, h' x = some (9, [v0, v1, .int (nI v.1.1), tv, .int (nI v.1.2.2.1), .int (nI v.1.2.2.2), .int (bI v.2)]) ∧ opS B (zz h [] h') tv (if v.1.1 = 2 then none else some (sub t v.1.2.1)) ∧ v.1.2.2.1 < 10000000 ∧ v.1.2.2.2 ≤ 1000)) := by
  have hxr : x ≠ r := xne' hx H.1 (by decide)
  have hxb : x ≠ b := xne' hx H.2.1 (by decide)
  have b0 : bas h r b t := ⟨⟨_, H.1⟩, H.2.1⟩
  refine m_To_readValue (Nat.le_of_ble_eq_true rfl) fun X hl hD hP hA => ?_
  subst hl hD
  have tail : ∀ (v : Nat × (Nat × Nat) × Nat × Nat) (j : Nat) (h1 : xH) (tv vs : Value) (rc rs : Nat), rdr h1 r b t j (-1) → fr [r, x] h h1 → h1 x = some (9, [v0, v1, .int (nI v.1), tv, .int (nI v.2.2.1), .int (nI v.2.2.2), .int 0]) → opS B (zz h [] h1) tv (if v.1 = 2 then none else some (sub t v.2.1)) → v.2.2.1 < 10000000 → v.2.2.2 ≤ 1000 → pVal t (scan bl t i) = .ok (v, j) → xG X 60 [(2, vs), (0, .ref x), (1, .ref r)] [] h1 rc rs := by
    intro v j h1 tv vs rc rs H1 f1 x1 T1 g1 g2 e1
    have hct : ch t (scan bl t j) ≤ 256 := H.2.2.2.2.le _
    refine xgo [] 60 hA ?_
    refine xcV H1.1 (c_nextSign H1) (by rfl) (by rfl) (by rfl) (Nat.zero_le _) (Nat.zero_le _) ?_
    rintro o h2 ⟨rfl, rfl⟩
    have H2 := H1.mv (br' := -1) (scan_le H1.2.2.1 (p := bl))
    have f2 := f1.put (a := r) (c := rdc b (scan bl t j) (-1)) (Or.inl (by simp))
    have x2 := xst2 (c := rdc b (scan bl t j) (-1)) hxr x1
    have zf : ∀ k, fr [] (zz h [] h1) (zz h [] (xset h1 r (rdc b k (-1)))) := fun k => zz_step (fr.set _ _ _) (fun q hq => Or.inr (by rw [List.mem_singleton.mp hq]; exact ⟨_, H.1, rfl⟩)) (fun q hq => by cases hq)
    refine xb (fun c => ?_) (fun c => ?_)
    · have c1 : ¬ ch t (scan bl t j) = 33 := fun z => c (by rw [z]; rfl)
      exact xP hP (xRes.ok (by rw [pVal2, pB_ok e1, if_neg c1]) H2 f2 ⟨rfl, tv, x2, T1.ext (zf _), g1, g2⟩)
    · have c1 : ch t (scan bl t j) = 33 := (cI_lit hct (by decide)).mp c
      have hlt := ch_lt c1 (by decide)
      refine xg H2.1 (by rfl) ?_
      refine xp (fs' := [.ref b, .int (nI (scan bl t j) + 1), .int (-1)]) H2.1 rfl rfl ?_
      rw [nI_1, xset_set]
      have H3 := H1.mv (br' := -1) (j := scan bl t j + 1) hlt
      have x3 := xst2 (c := rdc b (scan bl t j + 1) (-1)) hxr x1
      refine xpz (fs' := [v0, v1, .int (nI v.1), tv, .int (nI v.2.2.1), .int (nI v.2.2.2), .int 1]) x3 ⟨rfl, rfl⟩ rfl ?_
      refine xP hP (xRes.ok (by rw [pVal2, pB_ok e1, if_pos c1]) ⟨xst2 (Ne.symm hxr) H3.1, xst2 (Ne.symm hxb) H3.2.1, H3.2.2⟩ ((f1.put (Or.inl (by simp))).put (Or.inl (by simp))) ⟨rfl, tv, xset_same _ _ _, (T1.ext (zf _)).ext (zz_step (N := []) (N' := []) (fr.set _ x _) (fun q hq => Or.inr (by rw [List.mem_singleton.mp hq]; exact ⟨_, hx, rfl⟩)) (fun q hq => by cases hq)), g1, g2⟩)
  have hct : ch t (scan bl t i) ≤ 256 := H.2.2.2.2.le _
  refine xgo [60] 60 hA ?_
  refine xcV H.1 (c_nextSign H) (by rfl) (by rfl) (by rfl) (Nat.zero_le _) (Nat.zero_le _) ?_
  rintro o h1 ⟨rfl, rfl⟩
  have H1 := H.mv (br' := -1) (scan_le H.2.2.1 (p := bl))
  have f1 : fr [r, x] h (xset h r (rdc b (scan bl t i) (-1))) := (fr.refl _ _).put (Or.inl (by simp))
  have x1 := xst2 (c := rdc b (scan bl t i) (-1)) hxr hx
  obtain ⟨h1, hh1⟩ : ∃ h1, h1 = xset h r (rdc b (scan bl t i) (-1)) := ⟨_, rfl⟩
  rw [← hh1] at H1 f1 x1 ⊢
  -- the kind is set
  have kd : ∀ k : Nat, rdr (xset h1 x (9, [v0, v1, .int (nI k), .null, .int 0, .int 0, .int 0])) r b t (scan bl t i) (-1) ∧ fr [r, x] h (xset h1 x (9, [v0, v1, .int (nI k), .null, .int 0, .int 0, .int 0])) := fun k => ⟨⟨xst2 (Ne.symm hxr) H1.1, xst2 (Ne.symm hxb) H1.2.1, H1.2.2⟩, f1.put (Or.inl (by simp))⟩
  refine xb (fun c => ?_) (fun c => ?_) -- 8 o_icne 27 11
  · have c1 : ¬ ch t (scan bl t i) = 34 := fun z => c (by rw [z]; rfl)
    refine xcS (c_isDigit (dg_c _ (Nat.lt_succ_of_le hct)) _) (by rfl) (by rfl) (by rfl) (Nat.zero_le _) (Nat.zero_le _) ?_
    rintro o h2 ⟨rfl, rfl⟩
    refine xb (fun c => ?_) (fun c => ?_) -- 31 o_ifeq 47 34
    · have c2 : ¬ dg (ch t (scan bl t i)) = true := fun e => by rw [(bI_0 _).mp c] at e; cases e
      refine xp x1 rfl rfl ?_ -- 49 f9.2
      obtain ⟨H3, f3⟩ := kd 1
      have x3 : xset h2 x (9, [v0, v1, .int 1, .null, .int 0, .int 0, .int 0]) x = _ := xset_same _ _ _
      refine xcV H3.1 (c_readName H3) (by rfl) (by rfl) (by rfl) (by omega) (by omega) ?_ -- 54
      intro o h4 q
      rcases q.cs with ⟨w, e2, z⟩ | ⟨a, j, e2, H4, f4, s, rfl, hsn, hs4⟩
      · obtain ⟨ex, rfl⟩ := z.1
        exact xP hP (xRes.er (by rw [pVal2, pVal, if_neg c1, if_neg c2, pB_er e2]; rfl) (z.tr f3 (fun _ z => absurd z List.not_mem_nil)))
      have x4 := f4.one x3 hxr
      have f4' := f3.trans f4 fun q hq => Or.inl (by rw [List.mem_singleton.mp hq]; simp)
      obtain ⟨n1, n2, n3, n4, n5, n6, -⟩ := pName_sub e2
      have hsx : s ≠ x := xne' hs4 x4 (by decide)
      have hs0 : h s = none := fr_non f3 (fun q hq => by
        rcases List.mem_cons.mp hq with rfl | hq
        · rw [H3.1]; simp
        · rw [List.mem_singleton.mp hq, xset_same]; simp) hsn
      refine xp (fs' := [v0, v1, .int 1, .ref s, .int 0, .int 0, .int 0]) x4 rfl rfl ?_ -- 57 f9.3
      have H5 : rdr (xset h4 x (9, [v0, v1, .int 1, .ref s, .int 0, .int 0, .int 0])) r b t j (-1) := ⟨xst2 (Ne.symm hxr) H4.1, xst2 (Ne.symm hxb) H4.2.1, H4.2.2⟩
      refine tail (1, a, 0, 0) j _ (.ref s) _ _ _ H5 (f4'.put (Or.inl (by simp))) (xset_same _ _ _) ⟨s, rfl, ?_⟩ (by show 0 < 10000000; decide) (Nat.zero_le _) (by rw [pVal, if_neg c1, if_neg c2, pB_ok e2])
      exact isS.zz b0 H5 (xst2 hsx hs4) hs0 (by show a.1 + a.2 ≤ t.length; omega) hBb (by simp)
    · have c2 : dg (ch t (scan bl t i)) = true := (bI_n0 _).mp c
      refine xp x1 rfl rfl ?_ -- 36 f9.2
      obtain ⟨H3, f3⟩ := kd 2
      have x3 : xset h2 x (9, [v0, v1, .int 2, .null, .int 0, .int 0, .int 0]) x = _ := xset_same _ _ _
      refine xcV x3 (c_readAmount H3 x3) (by rfl) (by rfl) (by rfl) (by omega) (by omega) ?_ -- 41
      intro o h4 q
      rcases q.cs with ⟨w, e2, z⟩ | ⟨a, j, e2, H4, f4, rfl, x4, g1, g2⟩
      · obtain ⟨ex, rfl⟩ := z.1
        exact xP hP (xRes.er (by rw [pVal2, pVal, if_neg c1, if_pos c2, pB_er e2]; rfl) (z.tr f3 (fun _ z => Or.inl (by rw [List.mem_singleton.mp z]; simp))))
      exact tail (2, (0, 0), a.1, a.2) j h4 .null _ _ _ H4 (f3.tr f4) x4 rfl g1 g2 (by rw [pVal, if_neg c1, if_pos c2, pB_ok e2])
  · have c1 : ch t (scan bl t i) = 34 := (cI_lit hct (by decide)).mp c
    refine xp x1 rfl rfl ?_ -- 13 f9.2
    obtain ⟨H3, f3⟩ := kd 3
    have x3 : xset h1 x (9, [v0, v1, .int 3, .null, .int 0, .int 0, .int 0]) x = _ := xset_same _ _ _
    refine xcV H3.1 (c_readString H3) (by rfl) (by rfl) (by rfl) (by omega) (by omega) ?_ -- 18
    intro o h4 q
    rcases q.cs with ⟨w, e2, z⟩ | ⟨a, j, e2, H4, f4, s, rfl, hsn, hs4⟩
    · obtain ⟨ex, rfl⟩ := z.1
      exact xP hP (xRes.er (by rw [pVal2, pVal, if_pos c1, pB_er e2]; rfl) (z.tr f3 (fun _ z => absurd z List.not_mem_nil)))
    have x4 := f4.one x3 hxr
    have f4' := f3.trans f4 fun q hq => Or.inl (by rw [List.mem_singleton.mp hq]; simp)
    obtain ⟨n1, n2, n3, n4, n5⟩ := pStr_sub e2
    have hsx : s ≠ x := xne' hs4 x4 (by decide)
    have hs0 : h s = none := fr_non f3 (fun q hq => by
      rcases List.mem_cons.mp hq with rfl | hq
      · rw [H3.1]; simp
      · rw [List.mem_singleton.mp hq, xset_same]; simp) hsn
    refine xp (fs' := [v0, v1, .int 3, .ref s, .int 0, .int 0, .int 0]) x4 rfl rfl ?_ -- 21 f9.3
    have H5 : rdr (xset h4 x (9, [v0, v1, .int 3, .ref s, .int 0, .int 0, .int 0])) r b t j (-1) := ⟨xst2 (Ne.symm hxr) H4.1, xst2 (Ne.symm hxb) H4.2.1, H4.2.2⟩
    refine tail (3, a, 0, 0) j _ (.ref s) _ _ _ H5 (f4'.put (Or.inl (by simp))) (xset_same _ _ _) ⟨s, rfl, ?_⟩ (by show 0 < 10000000; decide) (Nat.zero_le _) (by rw [pVal, if_pos c1, pB_ok e2])
    exact isS.zz b0 H5 (xst2 hsx hs4) hs0 (by show a.1 + a.2 ≤ t.length; omega) hBb (by simp)
