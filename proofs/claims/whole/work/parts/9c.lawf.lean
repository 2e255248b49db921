/-! THE LAW, 6: one call -/
def zB (M : MA) (ou b q : Nat) : Bool := q == M.1 || arF.any (fun k => M.2 k == q) || q == ou || q == b
/-- what lies beside the class -/
def zH (M : MA) (ou b : Nat) (h : xH) : xH := fun q => if zB M ou b q = true then h q else none
theorem zB_cs {M : MA} {ou b q : Nat} (h : zB M ou b q = true) : q = M.1 ∨ (∃ k ∈ arF, M.2 k = q) ∨ q = ou ∨ q = b := by
  unfold zB at h
  simp only [Bool.or_eq_true, beq_iff_eq, List.any_eq_true] at h
  rcases h with ((h | h) | h) | h
  · exact Or.inl h
  · exact Or.inr (Or.inl h)
  · exact Or.inr (Or.inr (Or.inl h))
  · exact Or.inr (Or.inr (Or.inr h))
theorem zB_m (M : MA) (ou b : Nat) : zB M ou b M.1 = true := by unfold zB; simp
theorem zB_a {M : MA} {k : Nat} (hk : k ∈ arF) (ou b : Nat) : zB M ou b (M.2 k) = true := by
  unfold zB
  have : arF.any (fun j => M.2 j == M.2 k) = true := List.any_eq_true.mpr ⟨k, hk, by simp⟩
  rw [this]; simp
theorem zB_o (M : MA) (ou b : Nat) : zB M ou b ou = true := by unfold zB; simp
theorem zB_b (M : MA) (ou b : Nat) : zB M ou b b = true := by unfold zB; simp
theorem zH_in {M : MA} {ou b q : Nat} {h : xH} {c : xC} (h1 : zB M ou b q = true) (h2 : h q = some c) : zH M ou b h q = some c := by unfold zH; rw [if_pos h1]; exact h2
theorem zH_of {M : MA} {ou b q : Nat} {h : xH} {c : xC} (h1 : zH M ou b h q = some c) : zB M ou b q = true ∧ h q = some c := by
  unfold zH at h1
  split at h1
  · rename_i z; exact ⟨z, h1⟩
  · cases h1
theorem kd_cs (k : Nat) : kdK k = 103 ∨ kdK k = 100 := by unfold kdK; split <;> simp
theorem mH_self {h : xH} {M : MA} {S : MS} (h1 : h M.1 = some (13, mV M S)) (h2 : ∀ k ∈ arF, h (M.2 k) = some (kdK k, mA S k)) : h = mH h M S := by
  funext q
  unfold mH
  split
  · rename_i z; rw [z]; exact h1
  · split
    · rename_i k hk
      have e := List.find?_some hk
      have e : M.2 k = q := by simpa using e
      rw [← e]
      exact h2 k (List.mem_of_find?_eq_some hk)
    · rfl
def LJ (D : xD) (sc : Nat) (K : CK) (M : MA) (ou b : Nat) (sv : List Value) (h : xH) (A A' : AS) (S : MS) : Prop := scR (zH M ou b h) D h sc K A' ∧ (∃ h0, h = mH h0 M S) ∧ mR S A ∧ (∃ w0, h ou = some (102, [w0])) ∧ h b = some (200, sv)
section
variable {D : xD} {sc ou b : Nat} {K : CK} {M : MA} {sv : List Value} {h h' h2 : xH} {A A' : AS} {S S' : MS}
theorem LJ.ne (hM : mok M) (J : LJ D sc K M ou b sv h A A' S) : (ou ≠ M.1 ∧ b ≠ M.1) ∧ (∀ k ∈ arF, M.2 k ≠ ou ∧ M.2 k ≠ b) ∧ b ≠ ou := by
  obtain ⟨-, ⟨h0, e⟩, -, ⟨w0, e1⟩, e2⟩ := J
  have m1 : h M.1 = some (13, mV M S) := by rw [e]; exact mH_m _ _ _
  have m2 : ∀ k ∈ arF, h (M.2 k) = some (kdK k, mA S k) := fun k hk => by rw [e]; exact mH_a hM hk
  have nk : ∀ {q q' c c'}, h q = some c → h q' = some c' → c.1 ≠ c'.1 → q ≠ q' := fun a b c d => by subst d; rw [a] at b; cases b; exact c rfl
  refine ⟨⟨nk e1 m1 (by show (102 : Nat) ≠ 13; decide), nk e2 m1 (by show (200 : Nat) ≠ 13; decide)⟩, fun k hk => ?_, nk e2 e1 (by show (200 : Nat) ≠ 102; decide)⟩
  rcases kd_cs k with z | z
  · exact ⟨nk (m2 k hk) e1 (by show kdK k ≠ 102; rw [z]; decide), nk (m2 k hk) e2 (by show kdK k ≠ 200; rw [z]; decide)⟩
  · exact ⟨nk (m2 k hk) e1 (by show kdK k ≠ 102; rw [z]; decide), nk (m2 k hk) e2 (by show kdK k ≠ 200; rw [z]; decide)⟩
theorem LJ.one (hM : mok M) (J : LJ D sc K M ou b sv h A A S) (R' : scR (zH M ou b h) D h' sc K A') (hh : h2 = h' ∨ ∃ v, h2 = xset h' ou (102, [v])) : LJ D sc K M ou b sv h2 A A' S := by
  obtain ⟨⟨n1, n2⟩, n3, n4⟩ := J.ne hM
  obtain ⟨R, ⟨h0, e⟩, rS, ⟨w0, e1⟩, e2⟩ := J
  have m1 : h M.1 = some (13, mV M S) := by rw [e]; exact mH_m _ _ _
  have m2 : ∀ k ∈ arF, h (M.2 k) = some (kdK k, mA S k) := fun k hk => by rw [e]; exact mH_a hM hk
  have o : ∀ q, q ≠ ou → h2 q = h' q := fun q hq => by
    rcases hh with rfl | ⟨v, rfl⟩
    · rfl
    · exact xset_ne _ _ hq
  have k1 : h' M.1 = some (13, mV M S) := (R'.in (zH_in (zB_m _ _ _) m1)).1
  have k2 : ∀ k ∈ arF, h' (M.2 k) = some (kdK k, mA S k) := fun k hk => (R'.in (zH_in (zB_a hk _ _) (m2 k hk))).1
  have k3 := (R'.in (zH_in (zB_o _ _ _) e1)).1
  have k4 := (R'.in (zH_in (zB_b _ _ _) e2)).1
  have k5 : ∃ v, h2 ou = some (102, [v]) := by
    rcases hh with rfl | ⟨v, rfl⟩
    · exact ⟨w0, k3⟩
    · exact ⟨v, xset_same _ _ _⟩
  refine ⟨R'.mv (fun q c hc => ?_) (fun q c hc => ?_), ⟨h2, mH_self (by rw [o _ (Ne.symm n1)]; exact k1) (fun k hk => by rw [o _ (n3 k hk).1]; exact k2 k hk)⟩, rS, k5, by rw [o _ n4]; exact k4⟩
  · by_cases z : q = ou
    · subst z
      rw [k3] at hc
      cases hc
      exact Or.inr (Or.inr (Or.inr (Or.inl rfl)))
    · exact Or.inl (by rw [o q z]; exact hc)
  · obtain ⟨z1, z2⟩ := zH_of hc
    refine ⟨z2, ?_⟩
    by_cases z : q = ou
    · subst z
      obtain ⟨v, e5⟩ := k5
      rw [e5] at z2
      cases z2
      exact gd.k rfl
    · rw [o q z] at z2
      rcases zB_cs z1 with y | ⟨k, hk, y⟩ | y | y
      · subst y; rw [k1] at z2; cases z2; exact gd.k rfl
      · subst y
        rw [k2 k hk] at z2
        cases z2
        exact (R'.in (zH_in (zB_a hk _ _) (m2 k hk))).2
      · exact absurd y z
      · subst y; rw [k4] at z2; cases z2; exact gd.k rfl
theorem LJ.two {h0 : xH} (hM : mok M) (J : LJ D sc K M ou b sv (mH h0 M S) A A' S) (rS : mR S' A') : LJ D sc K M ou b sv (mH h0 M S') A' A' S' := by
  obtain ⟨⟨n1, n2⟩, n3, n4⟩ := J.ne hM
  obtain ⟨R, -, -, ⟨w0, e1⟩, e2⟩ := J
  have ee : ∀ q, q ≠ M.1 → (∀ k ∈ arF, M.2 k ≠ q) → mH h0 M S' q = mH h0 M S q := fun q a b => by rw [mH_o a b, mH_o a b]
  have e1' : mH h0 M S' ou = some (102, [w0]) := by rw [ee ou n1 (fun k hk => (n3 k hk).1)]; exact e1
  have e2' : mH h0 M S' b = some (200, sv) := by rw [ee b n2 (fun k hk => (n3 k hk).2)]; exact e2
  have bk : ∀ k ∈ arF, kdK k = 100 → bK K (M.2 k) := fun k hk z => (R.in (zH_in (zB_a hk _ _) (mH_a hM hk))).2.2.2.1 z
  refine ⟨R.mv (fun q c hc => ?_) (fun q c hc => ?_), ⟨h0, rfl⟩, rS, ⟨w0, e1'⟩, e2'⟩
  · by_cases z : q = M.1
    · subst z
      rw [mH_m] at hc
      cases hc
      exact Or.inr (Or.inl rfl)
    · by_cases y : ∃ k ∈ arF, M.2 k = q
      · obtain ⟨k, hk, rfl⟩ := y
        rw [mH_a hM hk] at hc
        cases hc
        rcases kd_cs k with w | w
        · exact Or.inr (Or.inr (Or.inl w))
        · exact Or.inr (Or.inr (Or.inr (Or.inr ⟨w, bk k hk w⟩)))
      · exact Or.inl (by rw [ee q z (fun k hk w => y ⟨k, hk, w⟩)]; exact hc)
  · obtain ⟨z1, z2⟩ := zH_of hc
    refine ⟨z2, ?_⟩
    rcases zB_cs z1 with y | ⟨k, hk, y⟩ | y | y
    · subst y; rw [mH_m] at z2; cases z2; exact gd.k rfl
    · subst y
      rw [mH_a hM hk] at z2
      cases z2
      rcases kd_cs k with w | w
      · rw [w]; exact gd.k rfl
      · rw [w]; exact ⟨fun z => (by cases z), fun z => (by cases z), fun _ => bk k hk w, fun z => (by cases z), fun z => (by cases z)⟩
    · subst y; rw [e1'] at z2; cases z2; exact gd.k rfl
    · subst y; rw [e2'] at z2; cases z2; exact gd.k rfl
end
def svL (L : Nat) (xs : Nat → Int32) : List Value := (List.range L).map (fun j => Value.int (xs j))
theorem svL_at {L j : Nat} {xs : Nat → Int32} (h : j < L) : (svL L xs)[j]? = some (.int (xs j)) := by
  unfold svL
  rw [List.getElem?_map, List.getElem?_range h]; rfl
theorem feed_tp (A : AS) (a b c d e : Int32) : (aFeed A a b c d e).2.tp.length ≤ A.tp.length + 20 := by
  unfold aFeed
  split
  · exact Nat.le_add_right _ _
  · show (A.tp ++ by4 a ++ by4 b ++ by4 c ++ by4 d ++ by4 e).length ≤ _
    simp only [List.length_append]
    have : ∀ x, (by4 x).length = 4 := fun x => rfl
    rw [this, this, this, this, this]
    omega
theorem end_tp (A : AS) (n : Int32) : (aEnd A n).2.tp.length ≤ A.tp.length := by
  unfold aEnd
  split
  · exact Nat.le_refl _
  · show (A.tp.take _).length ≤ _
    rw [List.length_take]; exact Nat.min_le_right _ _
theorem source_tp (A : AS) : (aSource A).2.tp.length = 0 := by unfold aSource; split <;> rfl
theorem style_tp (A : AS) : (aStyle A).2.tp.length = 0 := by unfold aStyle; split <;> rfl
theorem select_tp (A : AS) : (aSelect A).2.tp.length = 0 := by unfold aSelect; split <;> rfl
theorem property_tp (A : AS) (e : Int32) : (aProp A e).2.tp.length = 0 := by unfold aProp; split <;> rfl
theorem tell_tp (A : AS) (e p : Int32) : (aTell A e p).2.tp.length = A.tp.length := by
  unfold aTell
  split
  · rfl
  · split
    · rfl
    · split <;> rfl
section
variable {X : xX} {sc ou b L i rc rs : Nat} {K : CK} {M : MA} {xs : Nat → Int32} {h : xH} {A : AS} {S : MS}
abbrev lwL (M : MA) (sc ou b i : Nat) : xL := [(4, .int (nI i)), (3, .ref ou), (2, .ref M.1), (1, .ref sc), (0, .ref b)]
/-- what is behind a call -/
def lwN (X : xX) (sc ou b L i rc rs : Nat) (K : CK) (M : MA) (xs : Nat → Int32) (A : AS) : Prop := ∀ (h' : xH) (A' : AS) (S' : MS) (rc' rs' : Nat), LJ X.D sc K M ou b (svL L xs) h' A' A' S' → rc + 44 * A'.tp.length ≤ rc' + 900 + 44 * A.tp.length → rs + 551 * A'.tp.length ≤ rs' + 11100 + 551 * A.tp.length → xG X 900 (lwL M sc ou b i) [] h' rc' rs'
set_option maxRecDepth 20000 in
theorem lw_feed (hA : xAll X (tb_Lw_law X)) (hM : mok M) (J : LJ X.D sc K M ou b (svL L xs) h A A S) (hi : i + 6 ≤ L) (h1 : 900 + 44 * A.tp.length ≤ rc) (h2 : 11100 + 551 * A.tp.length ≤ rs) (nx : lwN X sc ou b L i rc rs K M xs A) : xG X 112 (lwL M sc ou b i) [] h rc rs := by
  obtain ⟨R, -, rS, ⟨w0, e1⟩, e2⟩ := id J
  have rA := R.ok
  clear e1
  obtain ⟨w0, e1⟩ := J.2.2.2.1
  have hou := zH_in (M := M) (b := b) (zB_o M ou b) e1
  refine xgo [149] 90 hA ?_
  refine xld (Or.inr (J.2.2.2.2)) (nI_add i 1) (svL_at (xs := xs) (show i + 1 < L by omega)) ?_
  refine xld (Or.inr (J.2.2.2.2)) (nI_add i 2) (svL_at (xs := xs) (show i + 2 < L by omega)) ?_
  refine xld (Or.inr (J.2.2.2.2)) (nI_add i 3) (svL_at (xs := xs) (show i + 3 < L by omega)) ?_
  refine xld (Or.inr (J.2.2.2.2)) (nI_add i 4) (svL_at (xs := xs) (show i + 4 < L by omega)) ?_
  refine xld (Or.inr (J.2.2.2.2)) (nI_add i 5) (svL_at (xs := xs) (show i + 5 < L by omega)) ?_
  refine xcS (h_feed R hou) (by rfl) (by rfl) (by rfl) (by omega) (by omega) ?_
  rintro o h2 ⟨h1, R1, ho⟩
  cases hq : (aFeed A (xs (i + 1)) (xs (i + 2)) (xs (i + 3)) (xs (i + 4)) (xs (i + 5))).1 with
  | none =>
    rw [hq] at ho
    obtain ⟨rfl, hh2⟩ := (show o = .inl (some (.int 1)) ∧ h2 = h1 from ho)
    have J2 := J.one hM R1 (Or.inl hh2)
    obtain ⟨-, ⟨h0, e0⟩, -⟩ := id J2
    subst e0
    show xG X 149 _ [] _ _ _
    refine xgo [900] 90 hA ?_
    refine xld (Or.inr J2.2.2.2.2) (nI_add i 1) (svL_at (xs := xs) (show i + 1 < L by omega)) ?_
    refine xld (Or.inr J2.2.2.2.2) (nI_add i 2) (svL_at (xs := xs) (show i + 2 < L by omega)) ?_
    refine xld (Or.inr J2.2.2.2.2) (nI_add i 3) (svL_at (xs := xs) (show i + 3 < L by omega)) ?_
    refine xld (Or.inr J2.2.2.2.2) (nI_add i 4) (svL_at (xs := xs) (show i + 4 < L by omega)) ?_
    refine xld (Or.inr J2.2.2.2.2) (nI_add i 5) (svL_at (xs := xs) (show i + 5 < L by omega)) ?_
    refine xcV (mH_m _ _ _) (c_feed2 hM rS rA) (by rfl) (by rfl) (by rfl) (Nat.zero_le _) (Nat.zero_le _) ?_
    rintro o3 h3 ⟨S3, rfl, hm, rS3⟩
    rw [hq] at hm
    obtain ⟨t1, v, rfl⟩ := hm
    refine xcV (mH_m _ _ _) c_Mo_thrown (by rfl) (by rfl) (by rfl) (Nat.zero_le _) (Nat.zero_le _) ?_
    rintro o4 h4 ⟨rfl, rfl⟩
    refine xt (by rw [t1]) ?_
    refine xtn (by decide) ?_
    exact (nx _ _ S3 _ _ (J2.two hM rS3) (by have tp := feed_tp A (xs (i + 1)) (xs (i + 2)) (xs (i + 3)) (xs (i + 4)) (xs (i + 5)); omega) (by have tp := feed_tp A (xs (i + 1)) (xs (i + 2)) (xs (i + 3)) (xs (i + 4)) (xs (i + 5)); omega)).locs (by simp)
  | some v =>
    rw [hq] at ho
    obtain ⟨rfl, hh2⟩ := (show o = .inl (some (.int 0)) ∧ h2 = xset h1 ou (102, [.long v.toInt64]) from ho)
    have J2 := J.one hM R1 (Or.inr ⟨_, hh2⟩)
    have eo : h2 ou = some (102, [.long v.toInt64]) := by rw [hh2]; exact xset_same _ _ _
    obtain ⟨-, ⟨h0, e0⟩, -⟩ := id J2
    subst e0
    show xG X 149 _ [] _ _ _
    refine xgo [900] 90 hA ?_
    refine xld (Or.inr J2.2.2.2.2) (nI_add i 1) (svL_at (xs := xs) (show i + 1 < L by omega)) ?_
    refine xld (Or.inr J2.2.2.2.2) (nI_add i 2) (svL_at (xs := xs) (show i + 2 < L by omega)) ?_
    refine xld (Or.inr J2.2.2.2.2) (nI_add i 3) (svL_at (xs := xs) (show i + 3 < L by omega)) ?_
    refine xld (Or.inr J2.2.2.2.2) (nI_add i 4) (svL_at (xs := xs) (show i + 4 < L by omega)) ?_
    refine xld (Or.inr J2.2.2.2.2) (nI_add i 5) (svL_at (xs := xs) (show i + 5 < L by omega)) ?_
    refine xcV (mH_m _ _ _) (c_feed2 hM rS rA) (by rfl) (by rfl) (by rfl) (Nat.zero_le _) (Nat.zero_le _) ?_
    rintro o3 h3 ⟨S3, rfl, hm, rS3⟩
    rw [hq] at hm
    obtain ⟨t1, rfl⟩ := hm
    obtain ⟨⟨n1, n2⟩, n3, n4⟩ := J2.ne hM
    have eo3 : mH h0 M S3 ou = some (102, [.long v.toInt64]) := by
      rw [mH_o n1 (fun k hk => (n3 k hk).1), ← eo, mH_o n1 (fun k hk => (n3 k hk).1)]
    refine xcV (mH_m _ _ _) c_Mo_thrown (by rfl) (by rfl) (by rfl) (Nat.zero_le _) (Nat.zero_le _) ?_
    rintro o4 h4 ⟨rfl, rfl⟩
    refine xt (by rw [t1]) ?_
    refine xfn rfl ?_
    refine xld (t := 2) (j := 0) (Or.inl eo3) rfl rfl ?_
    refine xt ((lg_cmp_eq _ _).mpr rfl) ?_
    exact (nx _ _ S3 _ _ (J2.two hM rS3) (by have tp := feed_tp A (xs (i + 1)) (xs (i + 2)) (xs (i + 3)) (xs (i + 4)) (xs (i + 5)); omega) (by have tp := feed_tp A (xs (i + 1)) (xs (i + 2)) (xs (i + 3)) (xs (i + 4)) (xs (i + 5)); omega)).locs (by simp)
set_option maxRecDepth 20000 in
theorem lw_end (hA : xAll X (tb_Lw_law X)) (hM : mok M) (J : LJ X.D sc K M ou b (svL L xs) h A A S) (hi : i + 6 ≤ L) (h1 : 900 + 44 * A.tp.length ≤ rc) (h2 : 11100 + 551 * A.tp.length ≤ rs) (nx : lwN X sc ou b L i rc rs K M xs A) : xG X 216 (lwL M sc ou b i) [] h rc rs := by
  obtain ⟨R, -, rS, ⟨w0, e1⟩, e2⟩ := id J
  have rA := R.ok
  clear e1
  obtain ⟨w0, e1⟩ := J.2.2.2.1
  have hou := zH_in (M := M) (b := b) (zB_o M ou b) e1
  refine xgo [229] 90 hA ?_
  refine xld (Or.inr (J.2.2.2.2)) (nI_add i 1) (svL_at (xs := xs) (show i + 1 < L by omega)) ?_
  refine xcS (h_end R hou) (by rfl) (by rfl) (by rfl) (by omega) (by omega) ?_
  rintro o h2 ⟨h1, R1, ho⟩
  cases hq : (aEnd A (xs (i + 1))).1 with
  | none =>
    rw [hq] at ho
    obtain ⟨rfl, hh2⟩ := (show o = .inl (some (.int 1)) ∧ h2 = h1 from ho)
    have J2 := J.one hM R1 (Or.inl hh2)
    obtain ⟨-, ⟨h0, e0⟩, -⟩ := id J2
    subst e0
    show xG X 229 _ [] _ _ _
    refine xgo [900] 90 hA ?_
    refine xld (Or.inr J2.2.2.2.2) (nI_add i 1) (svL_at (xs := xs) (show i + 1 < L by omega)) ?_
    refine xcV (mH_m _ _ _) (c_end2 hM rS rA) (by rfl) (by rfl) (by rfl) (Nat.zero_le _) (Nat.zero_le _) ?_
    rintro o3 h3 ⟨S3, rfl, hm, rS3⟩
    rw [hq] at hm
    obtain ⟨t1, v, rfl⟩ := hm
    refine xcV (mH_m _ _ _) c_Mo_thrown (by rfl) (by rfl) (by rfl) (Nat.zero_le _) (Nat.zero_le _) ?_
    rintro o4 h4 ⟨rfl, rfl⟩
    refine xt (by rw [t1]) ?_
    refine xtn (by decide) ?_
    exact (nx _ _ S3 _ _ (J2.two hM rS3) (by have tp := end_tp A (xs (i + 1)); omega) (by have tp := end_tp A (xs (i + 1)); omega)).locs (by simp)
  | some v =>
    rw [hq] at ho
    obtain ⟨rfl, hh2⟩ := (show o = .inl (some (.int 0)) ∧ h2 = xset h1 ou (102, [.long v.toInt64]) from ho)
    have J2 := J.one hM R1 (Or.inr ⟨_, hh2⟩)
    have eo : h2 ou = some (102, [.long v.toInt64]) := by rw [hh2]; exact xset_same _ _ _
    obtain ⟨-, ⟨h0, e0⟩, -⟩ := id J2
    subst e0
    show xG X 229 _ [] _ _ _
    refine xgo [900] 90 hA ?_
    refine xld (Or.inr J2.2.2.2.2) (nI_add i 1) (svL_at (xs := xs) (show i + 1 < L by omega)) ?_
    refine xcV (mH_m _ _ _) (c_end2 hM rS rA) (by rfl) (by rfl) (by rfl) (Nat.zero_le _) (Nat.zero_le _) ?_
    rintro o3 h3 ⟨S3, rfl, hm, rS3⟩
    rw [hq] at hm
    obtain ⟨t1, rfl⟩ := hm
    obtain ⟨⟨n1, n2⟩, n3, n4⟩ := J2.ne hM
    have eo3 : mH h0 M S3 ou = some (102, [.long v.toInt64]) := by
      rw [mH_o n1 (fun k hk => (n3 k hk).1), ← eo, mH_o n1 (fun k hk => (n3 k hk).1)]
    refine xcV (mH_m _ _ _) c_Mo_thrown (by rfl) (by rfl) (by rfl) (Nat.zero_le _) (Nat.zero_le _) ?_
    rintro o4 h4 ⟨rfl, rfl⟩
    refine xt (by rw [t1]) ?_
    refine xfn rfl ?_
    refine xld (t := 2) (j := 0) (Or.inl eo3) rfl rfl ?_
    refine xt ((lg_cmp_eq _ _).mpr rfl) ?_
    exact (nx _ _ S3 _ _ (J2.two hM rS3) (by have tp := end_tp A (xs (i + 1)); omega) (by have tp := end_tp A (xs (i + 1)); omega)).locs (by simp)
set_option maxRecDepth 20000 in
theorem lw_source (hA : xAll X (tb_Lw_law X)) (hM : mok M) (J : LJ X.D sc K M ou b (svL L xs) h A A S) (hi : i + 6 ≤ L) (h1 : 900 + 44 * A.tp.length ≤ rc) (h2 : 11100 + 551 * A.tp.length ≤ rs) (nx : lwN X sc ou b L i rc rs K M xs A) : xG X 272 (lwL M sc ou b i) [] h rc rs := by
  obtain ⟨R, -, rS, ⟨w0, e1⟩, e2⟩ := id J
  have rA := R.ok
  clear e1
  obtain ⟨w0, e1⟩ := J.2.2.2.1
  have hou := zH_in (M := M) (b := b) (zB_o M ou b) e1
  refine xgo [279] 90 hA ?_

  refine xcS (h_source R hou) (by rfl) (by rfl) (by rfl) (by omega) (by omega) ?_
  rintro o h2 ⟨h1, R1, ho⟩
  cases hq : (aSource A).1 with
  | none =>
    rw [hq] at ho
    obtain ⟨rfl, hh2⟩ := (show o = .inl (some (.int 1)) ∧ h2 = h1 from ho)
    have J2 := J.one hM R1 (Or.inl hh2)
    obtain ⟨-, ⟨h0, e0⟩, -⟩ := id J2
    subst e0
    show xG X 279 _ [] _ _ _
    refine xgo [900] 90 hA ?_

    refine xcV (mH_m _ _ _) (c_source2 hM rS rA) (by rfl) (by rfl) (by rfl) (Nat.zero_le _) (Nat.zero_le _) ?_
    rintro o3 h3 ⟨S3, rfl, hm, rS3⟩
    rw [hq] at hm
    obtain ⟨t1, v, rfl⟩ := hm
    refine xcV (mH_m _ _ _) c_Mo_thrown (by rfl) (by rfl) (by rfl) (Nat.zero_le _) (Nat.zero_le _) ?_
    rintro o4 h4 ⟨rfl, rfl⟩
    refine xt (by rw [t1]) ?_
    refine xtn (by decide) ?_
    exact (nx _ _ S3 _ _ (J2.two hM rS3) (by have tp := source_tp A; omega) (by have tp := source_tp A; omega)).locs (by simp)
  | some v =>
    rw [hq] at ho
    obtain ⟨rfl, hh2⟩ := (show o = .inl (some (.int 0)) ∧ h2 = xset h1 ou (102, [.long v.toInt64]) from ho)
    have J2 := J.one hM R1 (Or.inr ⟨_, hh2⟩)
    have eo : h2 ou = some (102, [.long v.toInt64]) := by rw [hh2]; exact xset_same _ _ _
    obtain ⟨-, ⟨h0, e0⟩, -⟩ := id J2
    subst e0
    show xG X 279 _ [] _ _ _
    refine xgo [900] 90 hA ?_

    refine xcV (mH_m _ _ _) (c_source2 hM rS rA) (by rfl) (by rfl) (by rfl) (Nat.zero_le _) (Nat.zero_le _) ?_
    rintro o3 h3 ⟨S3, rfl, hm, rS3⟩
    rw [hq] at hm
    obtain ⟨t1, rfl⟩ := hm
    obtain ⟨⟨n1, n2⟩, n3, n4⟩ := J2.ne hM
    have eo3 : mH h0 M S3 ou = some (102, [.long v.toInt64]) := by
      rw [mH_o n1 (fun k hk => (n3 k hk).1), ← eo, mH_o n1 (fun k hk => (n3 k hk).1)]
    refine xcV (mH_m _ _ _) c_Mo_thrown (by rfl) (by rfl) (by rfl) (Nat.zero_le _) (Nat.zero_le _) ?_
    rintro o4 h4 ⟨rfl, rfl⟩
    refine xt (by rw [t1]) ?_
    refine xfn rfl ?_
    refine xld (t := 2) (j := 0) (Or.inl eo3) rfl rfl ?_
    refine xt ((lg_cmp_eq _ _).mpr rfl) ?_
    exact (nx _ _ S3 _ _ (J2.two hM rS3) (by have tp := source_tp A; omega) (by have tp := source_tp A; omega)).locs (by simp)
set_option maxRecDepth 20000 in
theorem lw_style (hA : xAll X (tb_Lw_law X)) (hM : mok M) (J : LJ X.D sc K M ou b (svL L xs) h A A S) (hi : i + 6 ≤ L) (h1 : 900 + 44 * A.tp.length ≤ rc) (h2 : 11100 + 551 * A.tp.length ≤ rs) (nx : lwN X sc ou b L i rc rs K M xs A) : xG X 316 (lwL M sc ou b i) [] h rc rs := by
  obtain ⟨R, -, rS, ⟨w0, e1⟩, e2⟩ := id J
  have rA := R.ok
  clear e1
  obtain ⟨w0, e1⟩ := J.2.2.2.1
  have hou := zH_in (M := M) (b := b) (zB_o M ou b) e1
  refine xgo [323] 90 hA ?_

  refine xcS (h_style R hou) (by rfl) (by rfl) (by rfl) (by omega) (by omega) ?_
  rintro o h2 ⟨h1, R1, ho⟩
  cases hq : (aStyle A).1 with
  | none =>
    rw [hq] at ho
    obtain ⟨rfl, hh2⟩ := (show o = .inl (some (.int 1)) ∧ h2 = h1 from ho)
    have J2 := J.one hM R1 (Or.inl hh2)
    obtain ⟨-, ⟨h0, e0⟩, -⟩ := id J2
    subst e0
    show xG X 323 _ [] _ _ _
    refine xgo [900] 90 hA ?_

    refine xcV (mH_m _ _ _) (c_style2 hM rS rA) (by rfl) (by rfl) (by rfl) (Nat.zero_le _) (Nat.zero_le _) ?_
    rintro o3 h3 ⟨S3, rfl, hm, rS3⟩
    rw [hq] at hm
    obtain ⟨t1, v, rfl⟩ := hm
    refine xcV (mH_m _ _ _) c_Mo_thrown (by rfl) (by rfl) (by rfl) (Nat.zero_le _) (Nat.zero_le _) ?_
    rintro o4 h4 ⟨rfl, rfl⟩
    refine xt (by rw [t1]) ?_
    refine xtn (by decide) ?_
    exact (nx _ _ S3 _ _ (J2.two hM rS3) (by have tp := style_tp A; omega) (by have tp := style_tp A; omega)).locs (by simp)
  | some v =>
    rw [hq] at ho
    obtain ⟨rfl, hh2⟩ := (show o = .inl (some (.int 0)) ∧ h2 = xset h1 ou (102, [.long v.toInt64]) from ho)
    have J2 := J.one hM R1 (Or.inr ⟨_, hh2⟩)
    have eo : h2 ou = some (102, [.long v.toInt64]) := by rw [hh2]; exact xset_same _ _ _
    obtain ⟨-, ⟨h0, e0⟩, -⟩ := id J2
    subst e0
    show xG X 323 _ [] _ _ _
    refine xgo [900] 90 hA ?_

    refine xcV (mH_m _ _ _) (c_style2 hM rS rA) (by rfl) (by rfl) (by rfl) (Nat.zero_le _) (Nat.zero_le _) ?_
    rintro o3 h3 ⟨S3, rfl, hm, rS3⟩
    rw [hq] at hm
    obtain ⟨t1, rfl⟩ := hm
    obtain ⟨⟨n1, n2⟩, n3, n4⟩ := J2.ne hM
    have eo3 : mH h0 M S3 ou = some (102, [.long v.toInt64]) := by
      rw [mH_o n1 (fun k hk => (n3 k hk).1), ← eo, mH_o n1 (fun k hk => (n3 k hk).1)]
    refine xcV (mH_m _ _ _) c_Mo_thrown (by rfl) (by rfl) (by rfl) (Nat.zero_le _) (Nat.zero_le _) ?_
    rintro o4 h4 ⟨rfl, rfl⟩
    refine xt (by rw [t1]) ?_
    refine xfn rfl ?_
    refine xld (t := 2) (j := 0) (Or.inl eo3) rfl rfl ?_
    refine xt ((lg_cmp_eq _ _).mpr rfl) ?_
    exact (nx _ _ S3 _ _ (J2.two hM rS3) (by have tp := style_tp A; omega) (by have tp := style_tp A; omega)).locs (by simp)
set_option maxRecDepth 20000 in
theorem lw_property (hA : xAll X (tb_Lw_law X)) (hM : mok M) (J : LJ X.D sc K M ou b (svL L xs) h A A S) (hi : i + 6 ≤ L) (h1 : 900 + 44 * A.tp.length ≤ rc) (h2 : 11100 + 551 * A.tp.length ≤ rs) (nx : lwN X sc ou b L i rc rs K M xs A) : xG X 373 (lwL M sc ou b i) [] h rc rs := by
  obtain ⟨R, -, rS, ⟨w0, e1⟩, e2⟩ := id J
  have rA := R.ok
  clear e1
  obtain ⟨w0, e1⟩ := J.2.2.2.1
  have hou := zH_in (M := M) (b := b) (zB_o M ou b) e1
  refine xgo [386] 90 hA ?_
  refine xld (Or.inr (J.2.2.2.2)) (nI_add i 1) (svL_at (xs := xs) (show i + 1 < L by omega)) ?_
  refine xcS (h_property R hou) (by rfl) (by rfl) (by rfl) (by omega) (by omega) ?_
  rintro o h2 ⟨h1, R1, ho⟩
  cases hq : (aProp A (xs (i + 1))).1 with
  | none =>
    rw [hq] at ho
    obtain ⟨rfl, hh2⟩ := (show o = .inl (some (.int 1)) ∧ h2 = h1 from ho)
    have J2 := J.one hM R1 (Or.inl hh2)
    obtain ⟨-, ⟨h0, e0⟩, -⟩ := id J2
    subst e0
    show xG X 386 _ [] _ _ _
    refine xgo [900] 90 hA ?_
    refine xld (Or.inr J2.2.2.2.2) (nI_add i 1) (svL_at (xs := xs) (show i + 1 < L by omega)) ?_
    refine xcV (mH_m _ _ _) (c_property2 hM rS rA) (by rfl) (by rfl) (by rfl) (Nat.zero_le _) (Nat.zero_le _) ?_
    rintro o3 h3 ⟨S3, rfl, hm, rS3⟩
    rw [hq] at hm
    obtain ⟨t1, v, rfl⟩ := hm
    refine xcV (mH_m _ _ _) c_Mo_thrown (by rfl) (by rfl) (by rfl) (Nat.zero_le _) (Nat.zero_le _) ?_
    rintro o4 h4 ⟨rfl, rfl⟩
    refine xt (by rw [t1]) ?_
    refine xtn (by decide) ?_
    exact (nx _ _ S3 _ _ (J2.two hM rS3) (by have tp := property_tp A (xs (i + 1)); omega) (by have tp := property_tp A (xs (i + 1)); omega)).locs (by simp)
  | some v =>
    rw [hq] at ho
    obtain ⟨rfl, hh2⟩ := (show o = .inl (some (.int 0)) ∧ h2 = xset h1 ou (102, [.long v.toInt64]) from ho)
    have J2 := J.one hM R1 (Or.inr ⟨_, hh2⟩)
    have eo : h2 ou = some (102, [.long v.toInt64]) := by rw [hh2]; exact xset_same _ _ _
    obtain ⟨-, ⟨h0, e0⟩, -⟩ := id J2
    subst e0
    show xG X 386 _ [] _ _ _
    refine xgo [900] 90 hA ?_
    refine xld (Or.inr J2.2.2.2.2) (nI_add i 1) (svL_at (xs := xs) (show i + 1 < L by omega)) ?_
    refine xcV (mH_m _ _ _) (c_property2 hM rS rA) (by rfl) (by rfl) (by rfl) (Nat.zero_le _) (Nat.zero_le _) ?_
    rintro o3 h3 ⟨S3, rfl, hm, rS3⟩
    rw [hq] at hm
    obtain ⟨t1, rfl⟩ := hm
    obtain ⟨⟨n1, n2⟩, n3, n4⟩ := J2.ne hM
    have eo3 : mH h0 M S3 ou = some (102, [.long v.toInt64]) := by
      rw [mH_o n1 (fun k hk => (n3 k hk).1), ← eo, mH_o n1 (fun k hk => (n3 k hk).1)]
    refine xcV (mH_m _ _ _) c_Mo_thrown (by rfl) (by rfl) (by rfl) (Nat.zero_le _) (Nat.zero_le _) ?_
    rintro o4 h4 ⟨rfl, rfl⟩
    refine xt (by rw [t1]) ?_
    refine xfn rfl ?_
    refine xld (t := 2) (j := 0) (Or.inl eo3) rfl rfl ?_
    refine xt ((lg_cmp_eq _ _).mpr rfl) ?_
    exact (nx _ _ S3 _ _ (J2.two hM rS3) (by have tp := property_tp A (xs (i + 1)); omega) (by have tp := property_tp A (xs (i + 1)); omega)).locs (by simp)
set_option maxRecDepth 20000 in
theorem lw_by (hA : xAll X (tb_Lw_law X)) (hM : mok M) (J : LJ X.D sc K M ou b (svL L xs) h A A S) (hi : i + 6 ≤ L) (h1 : 900 + 44 * A.tp.length ≤ rc) (h2 : 11100 + 551 * A.tp.length ≤ rs) (nx : lwN X sc ou b L i rc rs K M xs A) : xG X 429 (lwL M sc ou b i) [] h rc rs := by
  obtain ⟨R, -, rS, ⟨w0, e1⟩, e2⟩ := id J
  have rA := R.ok
  clear e1
  obtain ⟨w0, e1⟩ := J.2.2.2.1
  have hou := zH_in (M := M) (b := b) (zB_o M ou b) e1
  refine xgo [442] 90 hA ?_
  refine xld (Or.inr (J.2.2.2.2)) (nI_add i 1) (svL_at (xs := xs) (show i + 1 < L by omega)) ?_
  refine xcS (h_by R hou) (by rfl) (by rfl) (by rfl) (by omega) (by omega) ?_
  rintro o h2 ⟨h1, R1, ho⟩
  cases hq : aBy A (xs (i + 1)) with
  | none =>
    rw [hq] at ho
    obtain ⟨rfl, hh2⟩ := (show o = .inl (some (.int 1)) ∧ h2 = h1 from ho)
    have J2 := J.one hM R1 (Or.inl hh2)
    obtain ⟨-, ⟨h0, e0⟩, -⟩ := id J2
    subst e0
    show xG X 442 _ [] _ _ _
    refine xgo [900] 90 hA ?_
    refine xld (Or.inr J2.2.2.2.2) (nI_add i 1) (svL_at (xs := xs) (show i + 1 < L by omega)) ?_
    refine xcV (mH_m _ _ _) (c_by2 hM rS rA) (by rfl) (by rfl) (by rfl) (Nat.zero_le _) (Nat.zero_le _) ?_
    rintro o3 h3 ⟨S3, rfl, hm, rS3⟩
    rw [hq] at hm
    obtain ⟨t1, v, rfl⟩ := hm
    refine xcV (mH_m _ _ _) c_Mo_thrown (by rfl) (by rfl) (by rfl) (Nat.zero_le _) (Nat.zero_le _) ?_
    rintro o4 h4 ⟨rfl, rfl⟩
    refine xt (by rw [t1]) ?_
    refine xtn (by decide) ?_
    exact (nx _ _ S3 _ _ (J2.two hM rS3) (by have tp : (A.wTp []).tp.length = 0 := rfl; omega) (by have tp : (A.wTp []).tp.length = 0 := rfl; omega)).locs (by simp)
  | some v =>
    rw [hq] at ho
    obtain ⟨rfl, hh2⟩ := (show o = .inl (some (.int 0)) ∧ h2 = xset h1 ou (102, [.long v.toInt64]) from ho)
    have J2 := J.one hM R1 (Or.inr ⟨_, hh2⟩)
    have eo : h2 ou = some (102, [.long v.toInt64]) := by rw [hh2]; exact xset_same _ _ _
    obtain ⟨-, ⟨h0, e0⟩, -⟩ := id J2
    subst e0
    show xG X 442 _ [] _ _ _
    refine xgo [900] 90 hA ?_
    refine xld (Or.inr J2.2.2.2.2) (nI_add i 1) (svL_at (xs := xs) (show i + 1 < L by omega)) ?_
    refine xcV (mH_m _ _ _) (c_by2 hM rS rA) (by rfl) (by rfl) (by rfl) (Nat.zero_le _) (Nat.zero_le _) ?_
    rintro o3 h3 ⟨S3, rfl, hm, rS3⟩
    rw [hq] at hm
    obtain ⟨t1, rfl⟩ := hm
    obtain ⟨⟨n1, n2⟩, n3, n4⟩ := J2.ne hM
    have eo3 : mH h0 M S3 ou = some (102, [.long v.toInt64]) := by
      rw [mH_o n1 (fun k hk => (n3 k hk).1), ← eo, mH_o n1 (fun k hk => (n3 k hk).1)]
    refine xcV (mH_m _ _ _) c_Mo_thrown (by rfl) (by rfl) (by rfl) (Nat.zero_le _) (Nat.zero_le _) ?_
    rintro o4 h4 ⟨rfl, rfl⟩
    refine xt (by rw [t1]) ?_
    refine xfn rfl ?_
    refine xld (t := 2) (j := 0) (Or.inl eo3) rfl rfl ?_
    refine xt ((lg_cmp_eq _ _).mpr rfl) ?_
    exact (nx _ _ S3 _ _ (J2.two hM rS3) (by have tp : (A.wTp []).tp.length = 0 := rfl; omega) (by have tp : (A.wTp []).tp.length = 0 := rfl; omega)).locs (by simp)
set_option maxRecDepth 20000 in
theorem lw_select (hA : xAll X (tb_Lw_law X)) (hM : mok M) (J : LJ X.D sc K M ou b (svL L xs) h A A S) (hi : i + 6 ≤ L) (h1 : 900 + 44 * A.tp.length ≤ rc) (h2 : 11100 + 551 * A.tp.length ≤ rs) (nx : lwN X sc ou b L i rc rs K M xs A) : xG X 485 (lwL M sc ou b i) [] h rc rs := by
  obtain ⟨R, -, rS, ⟨w0, e1⟩, e2⟩ := id J
  have rA := R.ok
  clear e1
  obtain ⟨w0, e1⟩ := J.2.2.2.1
  have hou := zH_in (M := M) (b := b) (zB_o M ou b) e1
  refine xgo [492] 90 hA ?_

  refine xcS (h_select R hou) (by rfl) (by rfl) (by rfl) (by omega) (by omega) ?_
  rintro o h2 ⟨h1, R1, ho⟩
  cases hq : (aSelect A).1 with
  | none =>
    rw [hq] at ho
    obtain ⟨rfl, hh2⟩ := (show o = .inl (some (.int 1)) ∧ h2 = h1 from ho)
    have J2 := J.one hM R1 (Or.inl hh2)
    obtain ⟨-, ⟨h0, e0⟩, -⟩ := id J2
    subst e0
    show xG X 492 _ [] _ _ _
    refine xgo [900] 90 hA ?_

    refine xcV (mH_m _ _ _) (c_select2 hM rS rA) (by rfl) (by rfl) (by rfl) (Nat.zero_le _) (Nat.zero_le _) ?_
    rintro o3 h3 ⟨S3, rfl, hm, rS3⟩
    rw [hq] at hm
    obtain ⟨t1, v, rfl⟩ := hm
    refine xcV (mH_m _ _ _) c_Mo_thrown (by rfl) (by rfl) (by rfl) (Nat.zero_le _) (Nat.zero_le _) ?_
    rintro o4 h4 ⟨rfl, rfl⟩
    refine xt (by rw [t1]) ?_
    refine xtn (by decide) ?_
    exact (nx _ _ S3 _ _ (J2.two hM rS3) (by have tp := select_tp A; omega) (by have tp := select_tp A; omega)).locs (by simp)
  | some v =>
    rw [hq] at ho
    obtain ⟨rfl, hh2⟩ := (show o = .inl (some (.int 0)) ∧ h2 = xset h1 ou (102, [.long v.toInt64]) from ho)
    have J2 := J.one hM R1 (Or.inr ⟨_, hh2⟩)
    have eo : h2 ou = some (102, [.long v.toInt64]) := by rw [hh2]; exact xset_same _ _ _
    obtain ⟨-, ⟨h0, e0⟩, -⟩ := id J2
    subst e0
    show xG X 492 _ [] _ _ _
    refine xgo [900] 90 hA ?_

    refine xcV (mH_m _ _ _) (c_select2 hM rS rA) (by rfl) (by rfl) (by rfl) (Nat.zero_le _) (Nat.zero_le _) ?_
    rintro o3 h3 ⟨S3, rfl, hm, rS3⟩
    rw [hq] at hm
    obtain ⟨t1, rfl⟩ := hm
    obtain ⟨⟨n1, n2⟩, n3, n4⟩ := J2.ne hM
    have eo3 : mH h0 M S3 ou = some (102, [.long v.toInt64]) := by
      rw [mH_o n1 (fun k hk => (n3 k hk).1), ← eo, mH_o n1 (fun k hk => (n3 k hk).1)]
    refine xcV (mH_m _ _ _) c_Mo_thrown (by rfl) (by rfl) (by rfl) (Nat.zero_le _) (Nat.zero_le _) ?_
    rintro o4 h4 ⟨rfl, rfl⟩
    refine xt (by rw [t1]) ?_
    refine xfn rfl ?_
    refine xld (t := 2) (j := 0) (Or.inl eo3) rfl rfl ?_
    refine xt ((lg_cmp_eq _ _).mpr rfl) ?_
    exact (nx _ _ S3 _ _ (J2.two hM rS3) (by have tp := select_tp A; omega) (by have tp := select_tp A; omega)).locs (by simp)
set_option maxRecDepth 20000 in
theorem lw_found (hA : xAll X (tb_Lw_law X)) (hM : mok M) (J : LJ X.D sc K M ou b (svL L xs) h A A S) (hi : i + 6 ≤ L) (h1 : 900 + 44 * A.tp.length ≤ rc) (h2 : 11100 + 551 * A.tp.length ≤ rs) (nx : lwN X sc ou b L i rc rs K M xs A) : xG X 529 (lwL M sc ou b i) [] h rc rs := by
  obtain ⟨R, -, rS, ⟨w0, e1⟩, e2⟩ := id J
  have rA := R.ok
  clear e1
  obtain ⟨w0, e1⟩ := J.2.2.2.1
  have hou := zH_in (M := M) (b := b) (zB_o M ou b) e1
  refine xgo [542] 90 hA ?_
  refine xld (Or.inr (J.2.2.2.2)) (nI_add i 1) (svL_at (xs := xs) (show i + 1 < L by omega)) ?_
  refine xcS (h_found R hou) (by rfl) (by rfl) (by rfl) (by omega) (by omega) ?_
  rintro o h2 ⟨h1, R1, ho⟩
  cases hq : aFound A (xs (i + 1)) with
  | none =>
    rw [hq] at ho
    obtain ⟨rfl, hh2⟩ := (show o = .inl (some (.int 1)) ∧ h2 = h1 from ho)
    have J2 := J.one hM R1 (Or.inl hh2)
    obtain ⟨-, ⟨h0, e0⟩, -⟩ := id J2
    subst e0
    show xG X 542 _ [] _ _ _
    refine xgo [900] 90 hA ?_
    refine xld (Or.inr J2.2.2.2.2) (nI_add i 1) (svL_at (xs := xs) (show i + 1 < L by omega)) ?_
    refine xcV (mH_m _ _ _) (c_found2 hM rS rA) (by rfl) (by rfl) (by rfl) (Nat.zero_le _) (Nat.zero_le _) ?_
    rintro o3 h3 ⟨S3, rfl, hm, rS3⟩
    rw [hq] at hm
    obtain ⟨t1, v, rfl⟩ := hm
    refine xcV (mH_m _ _ _) c_Mo_thrown (by rfl) (by rfl) (by rfl) (Nat.zero_le _) (Nat.zero_le _) ?_
    rintro o4 h4 ⟨rfl, rfl⟩
    refine xt (by rw [t1]) ?_
    refine xtn (by decide) ?_
    exact (nx _ _ S3 _ _ (J2.two hM rS3) (by have tp : A.tp.length = A.tp.length := rfl; omega) (by have tp : A.tp.length = A.tp.length := rfl; omega)).locs (by simp)
  | some v =>
    rw [hq] at ho
    obtain ⟨rfl, hh2⟩ := (show o = .inl (some (.int 0)) ∧ h2 = xset h1 ou (102, [.long v.toInt64]) from ho)
    have J2 := J.one hM R1 (Or.inr ⟨_, hh2⟩)
    have eo : h2 ou = some (102, [.long v.toInt64]) := by rw [hh2]; exact xset_same _ _ _
    obtain ⟨-, ⟨h0, e0⟩, -⟩ := id J2
    subst e0
    show xG X 542 _ [] _ _ _
    refine xgo [900] 90 hA ?_
    refine xld (Or.inr J2.2.2.2.2) (nI_add i 1) (svL_at (xs := xs) (show i + 1 < L by omega)) ?_
    refine xcV (mH_m _ _ _) (c_found2 hM rS rA) (by rfl) (by rfl) (by rfl) (Nat.zero_le _) (Nat.zero_le _) ?_
    rintro o3 h3 ⟨S3, rfl, hm, rS3⟩
    rw [hq] at hm
    obtain ⟨t1, rfl⟩ := hm
    obtain ⟨⟨n1, n2⟩, n3, n4⟩ := J2.ne hM
    have eo3 : mH h0 M S3 ou = some (102, [.long v.toInt64]) := by
      rw [mH_o n1 (fun k hk => (n3 k hk).1), ← eo, mH_o n1 (fun k hk => (n3 k hk).1)]
    refine xcV (mH_m _ _ _) c_Mo_thrown (by rfl) (by rfl) (by rfl) (Nat.zero_le _) (Nat.zero_le _) ?_
    rintro o4 h4 ⟨rfl, rfl⟩
    refine xt (by rw [t1]) ?_
    refine xfn rfl ?_
    refine xld (t := 2) (j := 0) (Or.inl eo3) rfl rfl ?_
    refine xt ((lg_cmp_eq _ _).mpr rfl) ?_
    exact (nx _ _ S3 _ _ (J2.two hM rS3) (by have tp : A.tp.length = A.tp.length := rfl; omega) (by have tp : A.tp.length = A.tp.length := rfl; omega)).locs (by simp)
set_option maxRecDepth 20000 in
theorem lw_fits (hA : xAll X (tb_Lw_law X)) (hM : mok M) (J : LJ X.D sc K M ou b (svL L xs) h A A S) (hi : i + 6 ≤ L) (h1 : 900 + 44 * A.tp.length ≤ rc) (h2 : 11100 + 551 * A.tp.length ≤ rs) (nx : lwN X sc ou b L i rc rs K M xs A) : xG X 585 (lwL M sc ou b i) [] h rc rs := by
  obtain ⟨R, -, rS, ⟨w0, e1⟩, e2⟩ := id J
  have rA := R.ok
  clear e1
  obtain ⟨w0, e1⟩ := J.2.2.2.1
  have hou := zH_in (M := M) (b := b) (zB_o M ou b) e1
  refine xgo [604] 90 hA ?_
  refine xld (Or.inr (J.2.2.2.2)) (nI_add i 1) (svL_at (xs := xs) (show i + 1 < L by omega)) ?_
  refine xld (Or.inr (J.2.2.2.2)) (nI_add i 2) (svL_at (xs := xs) (show i + 2 < L by omega)) ?_
  refine xcS (h_fits R hou) (by rfl) (by rfl) (by rfl) (by omega) (by omega) ?_
  rintro o h2 ⟨h1, R1, ho⟩
  cases hq : aFits A (xs (i + 1)) (xs (i + 2)) with
  | none =>
    rw [hq] at ho
    obtain ⟨rfl, hh2⟩ := (show o = .inl (some (.int 1)) ∧ h2 = h1 from ho)
    have J2 := J.one hM R1 (Or.inl hh2)
    obtain ⟨-, ⟨h0, e0⟩, -⟩ := id J2
    subst e0
    show xG X 604 _ [] _ _ _
    refine xgo [900] 90 hA ?_
    refine xld (Or.inr J2.2.2.2.2) (nI_add i 1) (svL_at (xs := xs) (show i + 1 < L by omega)) ?_
    refine xld (Or.inr J2.2.2.2.2) (nI_add i 2) (svL_at (xs := xs) (show i + 2 < L by omega)) ?_
    refine xcV (mH_m _ _ _) (c_fits2 hM rS) (by rfl) (by rfl) (by rfl) (Nat.zero_le _) (Nat.zero_le _) ?_
    rintro o3 h3 ⟨S3, rfl, hm, rS3⟩
    rw [hq] at hm
    obtain ⟨t1, v, rfl⟩ := hm
    refine xcV (mH_m _ _ _) c_Mo_thrown (by rfl) (by rfl) (by rfl) (Nat.zero_le _) (Nat.zero_le _) ?_
    rintro o4 h4 ⟨rfl, rfl⟩
    refine xt (by rw [t1]) ?_
    refine xtn (by decide) ?_
    exact (nx _ _ S3 _ _ (J2.two hM rS3) (by have tp : A.tp.length = A.tp.length := rfl; omega) (by have tp : A.tp.length = A.tp.length := rfl; omega)).locs (by simp)
  | some v =>
    rw [hq] at ho
    obtain ⟨rfl, hh2⟩ := (show o = .inl (some (.int 0)) ∧ h2 = xset h1 ou (102, [.long v.toInt64]) from ho)
    have J2 := J.one hM R1 (Or.inr ⟨_, hh2⟩)
    have eo : h2 ou = some (102, [.long v.toInt64]) := by rw [hh2]; exact xset_same _ _ _
    obtain ⟨-, ⟨h0, e0⟩, -⟩ := id J2
    subst e0
    show xG X 604 _ [] _ _ _
    refine xgo [900] 90 hA ?_
    refine xld (Or.inr J2.2.2.2.2) (nI_add i 1) (svL_at (xs := xs) (show i + 1 < L by omega)) ?_
    refine xld (Or.inr J2.2.2.2.2) (nI_add i 2) (svL_at (xs := xs) (show i + 2 < L by omega)) ?_
    refine xcV (mH_m _ _ _) (c_fits2 hM rS) (by rfl) (by rfl) (by rfl) (Nat.zero_le _) (Nat.zero_le _) ?_
    rintro o3 h3 ⟨S3, rfl, hm, rS3⟩
    rw [hq] at hm
    obtain ⟨t1, rfl⟩ := hm
    obtain ⟨⟨n1, n2⟩, n3, n4⟩ := J2.ne hM
    have eo3 : mH h0 M S3 ou = some (102, [.long v.toInt64]) := by
      rw [mH_o n1 (fun k hk => (n3 k hk).1), ← eo, mH_o n1 (fun k hk => (n3 k hk).1)]
    refine xcV (mH_m _ _ _) c_Mo_thrown (by rfl) (by rfl) (by rfl) (Nat.zero_le _) (Nat.zero_le _) ?_
    rintro o4 h4 ⟨rfl, rfl⟩
    refine xt (by rw [t1]) ?_
    refine xfn rfl ?_
    refine xld (t := 2) (j := 0) (Or.inl eo3) rfl rfl ?_
    refine xt ((lg_cmp_eq _ _).mpr rfl) ?_
    exact (nx _ _ S3 _ _ (J2.two hM rS3) (by have tp : A.tp.length = A.tp.length := rfl; omega) (by have tp : A.tp.length = A.tp.length := rfl; omega)).locs (by simp)
set_option maxRecDepth 20000 in
theorem lw_element (hA : xAll X (tb_Lw_law X)) (hM : mok M) (J : LJ X.D sc K M ou b (svL L xs) h A A S) (hi : i + 6 ≤ L) (h1 : 900 + 44 * A.tp.length ≤ rc) (h2 : 11100 + 551 * A.tp.length ≤ rs) (nx : lwN X sc ou b L i rc rs K M xs A) : xG X 653 (lwL M sc ou b i) [] h rc rs := by
  obtain ⟨R, -, rS, ⟨w0, e1⟩, e2⟩ := id J
  have rA := R.ok
  clear e1
  obtain ⟨w0, e1⟩ := J.2.2.2.1
  have hou := zH_in (M := M) (b := b) (zB_o M ou b) e1
  refine xgo [672] 90 hA ?_
  refine xld (Or.inr (J.2.2.2.2)) (nI_add i 1) (svL_at (xs := xs) (show i + 1 < L by omega)) ?_
  refine xld (Or.inr (J.2.2.2.2)) (nI_add i 2) (svL_at (xs := xs) (show i + 2 < L by omega)) ?_
  refine xcS (h_element R hou) (by rfl) (by rfl) (by rfl) (by omega) (by omega) ?_
  rintro o h2 ⟨h1, R1, ho⟩
  cases hq : aElement A (xs (i + 1)) (xs (i + 2)) with
  | none =>
    rw [hq] at ho
    obtain ⟨rfl, hh2⟩ := (show o = .inl (some (.int 1)) ∧ h2 = h1 from ho)
    have J2 := J.one hM R1 (Or.inl hh2)
    obtain ⟨-, ⟨h0, e0⟩, -⟩ := id J2
    subst e0
    show xG X 672 _ [] _ _ _
    refine xgo [900] 90 hA ?_
    refine xld (Or.inr J2.2.2.2.2) (nI_add i 1) (svL_at (xs := xs) (show i + 1 < L by omega)) ?_
    refine xld (Or.inr J2.2.2.2.2) (nI_add i 2) (svL_at (xs := xs) (show i + 2 < L by omega)) ?_
    refine xcV (mH_m _ _ _) (c_element2 hM rS) (by rfl) (by rfl) (by rfl) (Nat.zero_le _) (Nat.zero_le _) ?_
    rintro o3 h3 ⟨S3, rfl, hm, rS3⟩
    rw [hq] at hm
    obtain ⟨t1, v, rfl⟩ := hm
    refine xcV (mH_m _ _ _) c_Mo_thrown (by rfl) (by rfl) (by rfl) (Nat.zero_le _) (Nat.zero_le _) ?_
    rintro o4 h4 ⟨rfl, rfl⟩
    refine xt (by rw [t1]) ?_
    refine xtn (by decide) ?_
    exact (nx _ _ S3 _ _ (J2.two hM rS3) (by have tp : A.tp.length = A.tp.length := rfl; omega) (by have tp : A.tp.length = A.tp.length := rfl; omega)).locs (by simp)
  | some v =>
    rw [hq] at ho
    obtain ⟨rfl, hh2⟩ := (show o = .inl (some (.int 0)) ∧ h2 = xset h1 ou (102, [.long v.toInt64]) from ho)
    have J2 := J.one hM R1 (Or.inr ⟨_, hh2⟩)
    have eo : h2 ou = some (102, [.long v.toInt64]) := by rw [hh2]; exact xset_same _ _ _
    obtain ⟨-, ⟨h0, e0⟩, -⟩ := id J2
    subst e0
    show xG X 672 _ [] _ _ _
    refine xgo [900] 90 hA ?_
    refine xld (Or.inr J2.2.2.2.2) (nI_add i 1) (svL_at (xs := xs) (show i + 1 < L by omega)) ?_
    refine xld (Or.inr J2.2.2.2.2) (nI_add i 2) (svL_at (xs := xs) (show i + 2 < L by omega)) ?_
    refine xcV (mH_m _ _ _) (c_element2 hM rS) (by rfl) (by rfl) (by rfl) (Nat.zero_le _) (Nat.zero_le _) ?_
    rintro o3 h3 ⟨S3, rfl, hm, rS3⟩
    rw [hq] at hm
    obtain ⟨t1, rfl⟩ := hm
    obtain ⟨⟨n1, n2⟩, n3, n4⟩ := J2.ne hM
    have eo3 : mH h0 M S3 ou = some (102, [.long v.toInt64]) := by
      rw [mH_o n1 (fun k hk => (n3 k hk).1), ← eo, mH_o n1 (fun k hk => (n3 k hk).1)]
    refine xcV (mH_m _ _ _) c_Mo_thrown (by rfl) (by rfl) (by rfl) (Nat.zero_le _) (Nat.zero_le _) ?_
    rintro o4 h4 ⟨rfl, rfl⟩
    refine xt (by rw [t1]) ?_
    refine xfn rfl ?_
    refine xld (t := 2) (j := 0) (Or.inl eo3) rfl rfl ?_
    refine xt ((lg_cmp_eq _ _).mpr rfl) ?_
    exact (nx _ _ S3 _ _ (J2.two hM rS3) (by have tp : A.tp.length = A.tp.length := rfl; omega) (by have tp : A.tp.length = A.tp.length := rfl; omega)).locs (by simp)
set_option maxRecDepth 20000 in
theorem lw_tell (hA : xAll X (tb_Lw_law X)) (hM : mok M) (J : LJ X.D sc K M ou b (svL L xs) h A A S) (hi : i + 6 ≤ L) (h1 : 900 + 44 * A.tp.length ≤ rc) (h2 : 11100 + 551 * A.tp.length ≤ rs) (nx : lwN X sc ou b L i rc rs K M xs A) : xG X 721 (lwL M sc ou b i) [] h rc rs := by
  obtain ⟨R, -, rS, ⟨w0, e1⟩, e2⟩ := id J
  have rA := R.ok
  clear e1
  obtain ⟨w0, e1⟩ := J.2.2.2.1
  have hou := zH_in (M := M) (b := b) (zB_o M ou b) e1
  refine xgo [740] 90 hA ?_
  refine xld (Or.inr (J.2.2.2.2)) (nI_add i 1) (svL_at (xs := xs) (show i + 1 < L by omega)) ?_
  refine xld (Or.inr (J.2.2.2.2)) (nI_add i 2) (svL_at (xs := xs) (show i + 2 < L by omega)) ?_
  refine xcS (h_tell R hou) (by rfl) (by rfl) (by rfl) (by omega) (by omega) ?_
  rintro o h2 ⟨h1, R1, ho⟩
  unfold oHT at ho
  have z3 : (aTell A (xs (i + 1)) (xs (i + 2))).1.1 = 0 ∨ (aTell A (xs (i + 1)) (xs (i + 2))).1.1 = 1 ∨ (aTell A (xs (i + 1)) (xs (i + 2))).1.1 = 2 := by
    unfold aTell
    split
    · exact Or.inr (Or.inl rfl)
    · split
      · exact Or.inr (Or.inl rfl)
      · split
        · exact Or.inr (Or.inr rfl)
        · exact Or.inl rfl
  rcases z3 with z0 | z1 | z2
  · rw [if_pos z0] at ho
    obtain ⟨rfl, hh2⟩ := ho
    have J2 := J.one hM R1 (Or.inr ⟨_, hh2⟩)
    have eo : h2 ou = some (102, [.long (aTell A (xs (i + 1)) (xs (i + 2))).1.2.toInt64]) := by rw [hh2]; exact xset_same _ _ _
    obtain ⟨-, ⟨h0, e0⟩, -⟩ := id J2
    subst e0
    show xG X 740 _ [] _ _ _
    refine xgo [900] 90 hA ?_
    refine xld (Or.inr J2.2.2.2.2) (nI_add i 1) (svL_at (xs := xs) (show i + 1 < L by omega)) ?_
    refine xld (Or.inr J2.2.2.2.2) (nI_add i 2) (svL_at (xs := xs) (show i + 2 < L by omega)) ?_
    refine xcV (mH_m _ _ _) (c_tell2 hM rS) (by rfl) (by rfl) (by rfl) (Nat.zero_le _) (Nat.zero_le _) ?_
    rintro o3 h3 ⟨S3, rfl, hm, rS3⟩
    unfold oMT at hm
    rw [if_pos z0] at hm
    obtain ⟨t1, rfl⟩ := hm
    obtain ⟨⟨n1, n2⟩, n3, n4⟩ := J2.ne hM
    have eo3 : mH h0 M S3 ou = some (102, [.long (aTell A (xs (i + 1)) (xs (i + 2))).1.2.toInt64]) := by
      rw [mH_o n1 (fun k hk => (n3 k hk).1), ← eo, mH_o n1 (fun k hk => (n3 k hk).1)]
    refine xcV (mH_m _ _ _) c_Mo_thrown (by rfl) (by rfl) (by rfl) (Nat.zero_le _) (Nat.zero_le _) ?_
    rintro o4 h4 ⟨rfl, rfl⟩
    refine xt (by rw [t1]) ?_
    refine xfn rfl ?_
    refine xld (t := 2) (j := 0) (Or.inl eo3) rfl rfl ?_
    refine xt ((lg_cmp_eq _ _).mpr rfl) ?_
    exact (nx _ _ S3 _ _ (J2.two hM rS3) (by have tp := tell_tp A (xs (i + 1)) (xs (i + 2)); omega) (by have tp := tell_tp A (xs (i + 1)) (xs (i + 2)); omega)).locs (by simp)
  · have z0 : ¬ (aTell A (xs (i + 1)) (xs (i + 2))).1.1 = 0 := by omega
    rw [if_neg z0, if_pos z1] at ho
    obtain ⟨rfl, hh2⟩ := ho
    have J2 := J.one hM R1 (Or.inl hh2)
    obtain ⟨-, ⟨h0, e0⟩, -⟩ := id J2
    subst e0
    show xG X 740 _ [] _ _ _
    refine xgo [900] 90 hA ?_
    refine xld (Or.inr J2.2.2.2.2) (nI_add i 1) (svL_at (xs := xs) (show i + 1 < L by omega)) ?_
    refine xld (Or.inr J2.2.2.2.2) (nI_add i 2) (svL_at (xs := xs) (show i + 2 < L by omega)) ?_
    refine xcV (mH_m _ _ _) (c_tell2 hM rS) (by rfl) (by rfl) (by rfl) (Nat.zero_le _) (Nat.zero_le _) ?_
    rintro o3 h3 ⟨S3, rfl, hm, rS3⟩
    unfold oMT at hm
    rw [if_neg z0] at hm
    obtain ⟨t1, v, rfl⟩ := hm
    refine xcV (mH_m _ _ _) c_Mo_thrown (by rfl) (by rfl) (by rfl) (Nat.zero_le _) (Nat.zero_le _) ?_
    rintro o4 h4 ⟨rfl, rfl⟩
    refine xt (by rw [t1, z1]; rfl) ?_
    refine xtn (by decide) ?_
    exact (nx _ _ S3 _ _ (J2.two hM rS3) (by have tp := tell_tp A (xs (i + 1)) (xs (i + 2)); omega) (by have tp := tell_tp A (xs (i + 1)) (xs (i + 2)); omega)).locs (by simp)
  · have z0 : ¬ (aTell A (xs (i + 1)) (xs (i + 2))).1.1 = 0 := by omega
    rw [if_neg z0, if_neg (by omega)] at ho
    obtain ⟨rfl, hh2⟩ := ho
    have J2 := J.one hM R1 (Or.inl hh2)
    obtain ⟨-, ⟨h0, e0⟩, -⟩ := id J2
    subst e0
    show xG X 740 _ [] _ _ _
    refine xgo [900] 90 hA ?_
    refine xld (Or.inr J2.2.2.2.2) (nI_add i 1) (svL_at (xs := xs) (show i + 1 < L by omega)) ?_
    refine xld (Or.inr J2.2.2.2.2) (nI_add i 2) (svL_at (xs := xs) (show i + 2 < L by omega)) ?_
    refine xcV (mH_m _ _ _) (c_tell2 hM rS) (by rfl) (by rfl) (by rfl) (Nat.zero_le _) (Nat.zero_le _) ?_
    rintro o3 h3 ⟨S3, rfl, hm, rS3⟩
    unfold oMT at hm
    rw [if_neg z0] at hm
    obtain ⟨t1, v, rfl⟩ := hm
    refine xcV (mH_m _ _ _) c_Mo_thrown (by rfl) (by rfl) (by rfl) (Nat.zero_le _) (Nat.zero_le _) ?_
    rintro o4 h4 ⟨rfl, rfl⟩
    refine xt (by rw [t1, z2]; rfl) ?_
    refine xtn (by decide) ?_
    exact (nx _ _ S3 _ _ (J2.two hM rS3) (by have tp := tell_tp A (xs (i + 1)) (xs (i + 2)); omega) (by have tp := tell_tp A (xs (i + 1)) (xs (i + 2)); omega)).locs (by simp)
set_option maxRecDepth 20000 in
theorem lw_word (hA : xAll X (tb_Lw_law X)) (hM : mok M) (J : LJ X.D sc K M ou b (svL L xs) h A A S) (hi : i + 6 ≤ L) (h1 : 900 + 44 * A.tp.length ≤ rc) (h2 : 11100 + 551 * A.tp.length ≤ rs) (nx : lwN X sc ou b L i rc rs K M xs A) : xG X 789 (lwL M sc ou b i) [] h rc rs := by
  obtain ⟨R, -, rS, ⟨w0, e1⟩, e2⟩ := id J
  have rA := R.ok
  clear e1
  obtain ⟨w0, e1⟩ := J.2.2.2.1
  have hou := zH_in (M := M) (b := b) (zB_o M ou b) e1
  refine xgo [802] 90 hA ?_
  refine xld (Or.inr (J.2.2.2.2)) (nI_add i 1) (svL_at (xs := xs) (show i + 1 < L by omega)) ?_
  refine xcS (h_word R hou) (by rfl) (by rfl) (by rfl) (by omega) (by omega) ?_
  rintro o h2 ⟨h1, R1, ho⟩
  cases hq : aWord A (xs (i + 1)) with
  | none =>
    rw [hq] at ho
    obtain ⟨rfl, hh2⟩ := (show o = .inl (some (.int 1)) ∧ h2 = h1 from ho)
    have J2 := J.one hM R1 (Or.inl hh2)
    obtain ⟨-, ⟨h0, e0⟩, -⟩ := id J2
    subst e0
    show xG X 802 _ [] _ _ _
    refine xgo [900] 90 hA ?_
    refine xld (Or.inr J2.2.2.2.2) (nI_add i 1) (svL_at (xs := xs) (show i + 1 < L by omega)) ?_
    refine xcV (mH_m _ _ _) (c_word2 hM rS rA) (by rfl) (by rfl) (by rfl) (Nat.zero_le _) (Nat.zero_le _) ?_
    rintro o3 h3 ⟨S3, rfl, hm, rS3⟩
    rw [hq] at hm
    obtain ⟨t1, v, rfl⟩ := hm
    refine xcV (mH_m _ _ _) c_Mo_thrown (by rfl) (by rfl) (by rfl) (Nat.zero_le _) (Nat.zero_le _) ?_
    rintro o4 h4 ⟨rfl, rfl⟩
    refine xt (by rw [t1]) ?_
    refine xtn (by decide) ?_
    exact (nx _ _ S3 _ _ (J2.two hM rS3) (by have tp : A.tp.length = A.tp.length := rfl; omega) (by have tp : A.tp.length = A.tp.length := rfl; omega)).locs (by simp)
  | some v =>
    rw [hq] at ho
    obtain ⟨rfl, hh2⟩ := (show o = .inl (some (.int 0)) ∧ h2 = xset h1 ou (102, [.long v]) from ho)
    have J2 := J.one hM R1 (Or.inr ⟨_, hh2⟩)
    have eo : h2 ou = some (102, [.long v]) := by rw [hh2]; exact xset_same _ _ _
    obtain ⟨-, ⟨h0, e0⟩, -⟩ := id J2
    subst e0
    show xG X 802 _ [] _ _ _
    refine xgo [900] 90 hA ?_
    refine xld (Or.inr J2.2.2.2.2) (nI_add i 1) (svL_at (xs := xs) (show i + 1 < L by omega)) ?_
    refine xcV (mH_m _ _ _) (c_word2 hM rS rA) (by rfl) (by rfl) (by rfl) (Nat.zero_le _) (Nat.zero_le _) ?_
    rintro o3 h3 ⟨S3, rfl, hm, rS3⟩
    rw [hq] at hm
    obtain ⟨t1, rfl⟩ := hm
    obtain ⟨⟨n1, n2⟩, n3, n4⟩ := J2.ne hM
    have eo3 : mH h0 M S3 ou = some (102, [.long v]) := by
      rw [mH_o n1 (fun k hk => (n3 k hk).1), ← eo, mH_o n1 (fun k hk => (n3 k hk).1)]
    refine xcV (mH_m _ _ _) c_Mo_thrown (by rfl) (by rfl) (by rfl) (Nat.zero_le _) (Nat.zero_le _) ?_
    rintro o4 h4 ⟨rfl, rfl⟩
    refine xt (by rw [t1]) ?_
    refine xfn rfl ?_
    refine xld (t := 2) (j := 0) (Or.inl eo3) rfl rfl ?_
    refine xt ((lg_cmp_eq _ _).mpr rfl) ?_
    exact (nx _ _ S3 _ _ (J2.two hM rS3) (by have tp : A.tp.length = A.tp.length := rfl; omega) (by have tp : A.tp.length = A.tp.length := rfl; omega)).locs (by simp)
set_option maxRecDepth 20000 in
theorem lw_count (hA : xAll X (tb_Lw_law X)) (hM : mok M) (J : LJ X.D sc K M ou b (svL L xs) h A A S) (hi : i + 6 ≤ L) (h1 : 900 + 44 * A.tp.length ≤ rc) (h2 : 11100 + 551 * A.tp.length ≤ rs) (nx : lwN X sc ou b L i rc rs K M xs A) : xG X 844 (lwL M sc ou b i) [] h rc rs := by
  obtain ⟨R, -, rS, ⟨w0, e1⟩, e2⟩ := id J
  have rA := R.ok
  clear e1
  obtain ⟨w0, e1⟩ := J.2.2.2.1
  have hou := zH_in (M := M) (b := b) (zB_o M ou b) e1
  refine xgo [857] 90 hA ?_
  refine xld (Or.inr (J.2.2.2.2)) (nI_add i 1) (svL_at (xs := xs) (show i + 1 < L by omega)) ?_
  refine xcS (h_count R hou) (by rfl) (by rfl) (by rfl) (by omega) (by omega) ?_
  rintro o h2 ⟨h1, R1, ho⟩
  cases hq : aCount A (xs (i + 1)) with
  | none =>
    rw [hq] at ho
    obtain ⟨rfl, hh2⟩ := (show o = .inl (some (.int 1)) ∧ h2 = h1 from ho)
    have J2 := J.one hM R1 (Or.inl hh2)
    obtain ⟨-, ⟨h0, e0⟩, -⟩ := id J2
    subst e0
    show xG X 857 _ [] _ _ _
    refine xgo [900] 90 hA ?_
    refine xld (Or.inr J2.2.2.2.2) (nI_add i 1) (svL_at (xs := xs) (show i + 1 < L by omega)) ?_
    refine xcV (mH_m _ _ _) (c_count2 hM rS rA) (by rfl) (by rfl) (by rfl) (Nat.zero_le _) (Nat.zero_le _) ?_
    rintro o3 h3 ⟨S3, rfl, hm, rS3⟩
    rw [hq] at hm
    obtain ⟨t1, v, rfl⟩ := hm
    refine xcV (mH_m _ _ _) c_Mo_thrown (by rfl) (by rfl) (by rfl) (Nat.zero_le _) (Nat.zero_le _) ?_
    rintro o4 h4 ⟨rfl, rfl⟩
    refine xt (by rw [t1]) ?_
    refine xtn (by decide) ?_
    exact (nx _ _ S3 _ _ (J2.two hM rS3) (by have tp : A.tp.length = A.tp.length := rfl; omega) (by have tp : A.tp.length = A.tp.length := rfl; omega)).locs (by simp)
  | some v =>
    rw [hq] at ho
    obtain ⟨rfl, hh2⟩ := (show o = .inl (some (.int 0)) ∧ h2 = xset h1 ou (102, [.long v.toInt64]) from ho)
    have J2 := J.one hM R1 (Or.inr ⟨_, hh2⟩)
    have eo : h2 ou = some (102, [.long v.toInt64]) := by rw [hh2]; exact xset_same _ _ _
    obtain ⟨-, ⟨h0, e0⟩, -⟩ := id J2
    subst e0
    show xG X 857 _ [] _ _ _
    refine xgo [900] 90 hA ?_
    refine xld (Or.inr J2.2.2.2.2) (nI_add i 1) (svL_at (xs := xs) (show i + 1 < L by omega)) ?_
    refine xcV (mH_m _ _ _) (c_count2 hM rS rA) (by rfl) (by rfl) (by rfl) (Nat.zero_le _) (Nat.zero_le _) ?_
    rintro o3 h3 ⟨S3, rfl, hm, rS3⟩
    rw [hq] at hm
    obtain ⟨t1, rfl⟩ := hm
    obtain ⟨⟨n1, n2⟩, n3, n4⟩ := J2.ne hM
    have eo3 : mH h0 M S3 ou = some (102, [.long v.toInt64]) := by
      rw [mH_o n1 (fun k hk => (n3 k hk).1), ← eo, mH_o n1 (fun k hk => (n3 k hk).1)]
    refine xcV (mH_m _ _ _) c_Mo_thrown (by rfl) (by rfl) (by rfl) (Nat.zero_le _) (Nat.zero_le _) ?_
    rintro o4 h4 ⟨rfl, rfl⟩
    refine xt (by rw [t1]) ?_
    refine xfn rfl ?_
    refine xld (t := 2) (j := 0) (Or.inl eo3) rfl rfl ?_
    refine xt ((lg_cmp_eq _ _).mpr rfl) ?_
    exact (nx _ _ S3 _ _ (J2.two hM rS3) (by have tp : A.tp.length = A.tp.length := rfl; omega) (by have tp : A.tp.length = A.tp.length := rfl; omega)).locs (by simp)
set_option maxRecDepth 20000 in
theorem lw_place (hA : xAll X (tb_Lw_law X)) (hM : mok M) (J : LJ X.D sc K M ou b (svL L xs) h A A S) (nx : lwN X sc ou b L i rc rs K M xs A) : xG X 360 (lwL M sc ou b i) [] h rc rs := by
  obtain ⟨R, ⟨h0, e0⟩, rS, -⟩ := id J
  subst e0
  obtain ⟨vs, hsc⟩ := R.at
  refine xgo [900] 40 hA ?_
  refine xcV hsc (c_place R) (by rfl) (by rfl) (by rfl) (Nat.zero_le _) (Nat.zero_le _) ?_
  rintro o h1 ⟨rfl, rfl⟩
  refine xcV (mH_m _ _ _) (c_place2 rS) (by rfl) (by rfl) (by rfl) (Nat.zero_le _) (Nat.zero_le _) ?_
  rintro o h3 ⟨S3, rfl, rfl, rS3⟩
  refine xt rfl ?_
  exact nx _ A S3 _ _ (J.two hM rS3) (by omega) (by omega)
end
