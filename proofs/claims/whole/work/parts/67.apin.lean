/-! THE CLASS, 14: a new object -/
section
variable {Zh : xH}
def AS0 : AS := (([], [], [], 0, none), ([], SS0), ([], [], [], []))
theorem AOk0 : AOk AS0 := ⟨⟨Nat.zero_le _, fun b hb => by cases hb⟩, ⟨Nat.zero_le _, fun b hb => by cases hb⟩, ⟨Nat.zero_le _, fun k hk => by cases hk⟩, ⟨Nat.zero_le _, Nat.zero_le _⟩, ⟨⟨Nat.zero_le _, fun k hk => absurd hk (Nat.not_lt_zero _)⟩, rfl, Nat.zero_le _, Nat.zero_le _, fun k hk => absurd hk (Nat.not_lt_zero _)⟩, ⟨fun R hR => (by cases hR), Nat.zero_le _, fun l hl => (by cases hl), Nat.zero_le _, Nat.zero_le _, Nat.zero_le _⟩⟩
theorem txv_rep (n : Nat) : List.replicate n (Value.int 0) = txv (List.replicate n 0) := by
  unfold txv; rw [List.map_replicate]; rfl
theorem isS.mB {B B' : Nat → Prop} {h : xH} {s : Nat} {w : List Nat} (H : isS B h s w) (k : ∀ a, B a → B' a) : isS B' h s w := by
  obtain ⟨a, f, T, h1, h2, h3, h4, h5, h6, h7⟩ := H
  exact ⟨a, f, T, h1, h2, h3, h4, h5, h6, k a h7⟩
theorem isNm.mB {B B' : Nat → Prop} {h : xH} {x : Nat} {q : List Nat × List Nat} (H : isNm B h x q) (k : ∀ a, B a → B' a) : isNm B' h x q := by
  obtain ⟨s1, s2, h1, h2, h3⟩ := H
  exact ⟨s1, s2, h1, h2.mB k, h3.mB k⟩
theorem srcR.mB {B B' : Nat → Prop} {D : xD} {h : xH} {so : Nat} {t : List Nat} {S : SS} {G : SG} (R : srcR D B h so t S G) (k : ∀ a, B a → B' a) : srcR D B' h so t S G := by
  obtain ⟨r1, r2, r3, r4, r5, r6, r7, r8⟩ := R
  exact ⟨r1, r2, r3, r4, r5, r6.mono fun a b q => q.mB k, r7.mono fun a b q => q.mB k, fun i hi => ⟨(r8 i hi).1, (r8 i hi).2.1.mB k, (r8 i hi).2.2.1, (r8 i hi).2.2.2.mono fun a b q => q.mB k⟩⟩
theorem all2.nil {α β : Type} {R Q : α → β → Prop} {s : List α} (h : all2 R s []) : all2 Q s [] := by
  cases s with
  | nil => trivial
  | cons a s => cases h
theorem styR.mB {B B' : Nat → Prop} {D : xD} {h : xH} {sy : Nat} {t : List Nat} (R : styR D B h sy t [] [] []) : styR D B' h sy t [] [] [] := by
  obtain ⟨lr, er, ls, es, ln, en, xr, xs, xn, h1, h2, h3, h4, h5, h6, h7⟩ := R
  exact ⟨lr, er, ls, es, ln, en, xr, xs, xn, h1, h2, h3, h4, h5.nil, h6.nil, h7.nil⟩
set_option maxRecDepth 20000 in
theorem c_Sc_init {l : Launch} {D : xD} {h : xH} {sc : Nat} (E : env D h) (hs : h sc = some (0, [.null, .int 0, .null, .int 0, .null, .int 0, .int 0, .null, .null, .null, .null, .null])) : xMet l D 8 y_Sc_init [.ref sc] h 30 26000 (fun o h' => o = .inl none ∧ fr [sc] h h' ∧ ∃ K, ∀ Zh : xH, (∀ q c, Zh q = some c → h q = some c ∧ q ≠ sc ∧ c.1 ≠ 0 ∧ c.1 ≠ 1 ∧ c.1 ≠ 105) → scR Zh D h' sc K AS0) := by
  obtain ⟨kn, hk1, hk2⟩ := E.1
  refine m_Sc_init (Nat.le_of_ble_eq_true rfl) fun X hl hD hP hA => ?_
  subst hl hD
  refine xgo [59, 59] 60 hA ?_
  -- tape
  refine xna (N := 8192) (by rfl) (by decide) (by omega) (by omega) fun tp htp => ?_
  have n1 : sc ≠ tp := xnn hs htp
  refine xp (fs' := [.ref tp, .int 0, .null, .int 0, .null, .int 0, .int 0, .null, .null, .null, .null, .null]) (xst2 n1 hs) rfl rfl ?_
  refine xp (fs' := [.ref tp, .int 0, .null, .int 0, .null, .int 0, .int 0, .null, .null, .null, .null, .null]) (xset_same _ _ _) rfl rfl ?_
  rw [xset_set]
  have a1 : xset (xset h tp (100 + 1, List.replicate 8192 (Value.int 0))) sc (0, [.ref tp, .int 0, .null, .int 0, .null, .int 0, .int 0, .null, .null, .null, .null, .null]) sc = _ := xset_same _ _ _
  have b1 : xset (xset h tp (100 + 1, List.replicate 8192 (Value.int 0))) sc (0, [.ref tp, .int 0, .null, .int 0, .null, .int 0, .int 0, .null, .null, .null, .null, .null]) tp = some (101, List.replicate 8192 (Value.int 0)) := xst2 (Ne.symm n1) (xset_same _ _ _)
  have f1 : fr [sc] h (xset (xset h tp (100 + 1, List.replicate 8192 (Value.int 0))) sc (0, [.ref tp, .int 0, .null, .int 0, .null, .int 0, .int 0, .null, .null, .null, .null, .null])) := ((fr.refl _ _).put (Or.inr htp)).put (Or.inl (by simp))
  obtain ⟨h1, hh1⟩ : ∃ h1, h1 = xset (xset h tp (100 + 1, List.replicate 8192 (Value.int 0))) sc (0, [.ref tp, .int 0, .null, .int 0, .null, .int 0, .int 0, .null, .null, .null, .null, .null]) := ⟨_, rfl⟩
  rw [← hh1] at a1 b1 f1 ⊢
  -- out
  refine xna (N := 16384) (by rfl) (by decide) (by omega) (by omega) fun ou hou => ?_
  have n2 : sc ≠ ou := xnn a1 hou
  refine xp (fs' := [.ref tp, .int 0, .ref ou, .int 0, .null, .int 0, .int 0, .null, .null, .null, .null, .null]) (xst2 n2 a1) rfl rfl ?_
  refine xp (fs' := [.ref tp, .int 0, .ref ou, .int 0, .null, .int 0, .int 0, .null, .null, .null, .null, .null]) (xset_same _ _ _) rfl rfl ?_
  rw [xset_set]
  have a2 : xset (xset h1 ou (100 + 1, List.replicate 16384 (Value.int 0))) sc (0, [.ref tp, .int 0, .ref ou, .int 0, .null, .int 0, .int 0, .null, .null, .null, .null, .null]) sc = _ := xset_same _ _ _
  have b2 : xset (xset h1 ou (100 + 1, List.replicate 16384 (Value.int 0))) sc (0, [.ref tp, .int 0, .ref ou, .int 0, .null, .int 0, .int 0, .null, .null, .null, .null, .null]) ou = some (101, List.replicate 16384 (Value.int 0)) := xst2 (Ne.symm n2) (xset_same _ _ _)
  have f2 : fr [sc] h1 (xset (xset h1 ou (100 + 1, List.replicate 16384 (Value.int 0))) sc (0, [.ref tp, .int 0, .ref ou, .int 0, .null, .int 0, .int 0, .null, .null, .null, .null, .null])) := ((fr.refl _ _).put (Or.inr hou)).put (Or.inl (by simp))
  obtain ⟨h2, hh2⟩ : ∃ h2, h2 = xset (xset h1 ou (100 + 1, List.replicate 16384 (Value.int 0))) sc (0, [.ref tp, .int 0, .ref ou, .int 0, .null, .int 0, .int 0, .null, .null, .null, .null, .null]) := ⟨_, rfl⟩
  rw [← hh2] at a2 b2 f2 ⊢
  -- found ones
  refine xna (N := 500) (by rfl) (by decide) (by omega) (by omega) fun fo hfo => ?_
  have n3 : sc ≠ fo := xnn a2 hfo
  refine xp (fs' := [.ref tp, .int 0, .ref ou, .int 0, .ref fo, .int 0, .int 0, .null, .null, .null, .null, .null]) (xst2 n3 a2) rfl rfl ?_
  refine xp (fs' := [.ref tp, .int 0, .ref ou, .int 0, .ref fo, .int 0, .int 0, .null, .null, .null, .null, .null]) (xset_same _ _ _) rfl rfl ?_
  refine xp (fs' := [.ref tp, .int 0, .ref ou, .int 0, .ref fo, .int 0, .int 0, .null, .null, .null, .null, .null]) (xset_same _ _ _) rfl rfl ?_
  rw [xset_set, xset_set]
  have a3 : xset (xset h2 fo (100 + 0, List.replicate 500 (Value.int 0))) sc (0, [.ref tp, .int 0, .ref ou, .int 0, .ref fo, .int 0, .int 0, .null, .null, .null, .null, .null]) sc = _ := xset_same _ _ _
  have b3 : xset (xset h2 fo (100 + 0, List.replicate 500 (Value.int 0))) sc (0, [.ref tp, .int 0, .ref ou, .int 0, .ref fo, .int 0, .int 0, .null, .null, .null, .null, .null]) fo = some (100, List.replicate 500 (Value.int 0)) := xst2 (Ne.symm n3) (xset_same _ _ _)
  have f3 : fr [sc] h2 (xset (xset h2 fo (100 + 0, List.replicate 500 (Value.int 0))) sc (0, [.ref tp, .int 0, .ref ou, .int 0, .ref fo, .int 0, .int 0, .null, .null, .null, .null, .null])) := ((fr.refl _ _).put (Or.inr hfo)).put (Or.inl (by simp))
  obtain ⟨h3, hh3⟩ : ∃ h3, h3 = xset (xset h2 fo (100 + 0, List.replicate 500 (Value.int 0))) sc (0, [.ref tp, .int 0, .ref ou, .int 0, .ref fo, .int 0, .int 0, .null, .null, .null, .null, .null]) := ⟨_, rfl⟩
  rw [← hh3] at a3 b3 f3 ⊢
  -- reader
  refine xn (by omega) (by omega) fun r hr => ?_
  have n4 : sc ≠ r := xnn a3 hr
  have f03 : fr [sc] h h3 := (f1.tr f2).tr f3
  have nks : kn ≠ sc := xne' hk2 hs (by decide)
  have k3 : h3 kn = some (201, txv knB) := f03.one hk2 nks
  have nkr : kn ≠ r := xnn k3 hr
  show xG X 59 [(0, .ref sc)] [X.D.sv 0, .ref r, .ref r, .ref sc] (xset h3 r (1, [.null, .int 0, .int 0])) _ _
  rw [hk1]
  refine xgo [] 90 hA ?_
  refine xcI (c_Rd_init (n := 0) (T := knB) (xset_same _ _ _) (Or.inr ⟨xst2 nkr k3, by decide⟩) (by decide) (by decide) (show ∀ b ∈ knB, b < 256 by decide)) (by rfl) (by rfl) (by rfl) (by omega) (by omega) ?_
  rintro o h4' ⟨b, hb, rfl, H4, rfl⟩
  have hbr : b ≠ r := H4.ne
  have hb3 : h3 b = none := by rw [xset_ne _ _ hbr] at hb; exact hb
  have f4 : fr [] h3 (xset (xset (xset h3 r (1, [.null, .int 0, .int 0])) b (101, txv (knB.take 0))) r (rdc b 0 (-1))) := (((fr.refl _ _).put (Or.inr hr)).put (Or.inr hb3)).put (Or.inr hr)
  obtain ⟨h4, hh4⟩ : ∃ h4, h4 = xset (xset (xset h3 r (1, [.null, .int 0, .int 0])) b (101, txv (knB.take 0))) r (rdc b 0 (-1)) := ⟨_, rfl⟩
  rw [← hh4] at H4 f4 ⊢
  have a4 := f4 _ _ a3 (by simp)
  refine xp (fs' := [.ref tp, .int 0, .ref ou, .int 0, .ref fo, .int 0, .int 0, .ref r, .null, .null, .null, .null]) a4 rfl rfl ?_
  have n5 : b ≠ sc := fun z => by rw [z, a3] at hb3; cases hb3
  have H5 : rdr (xset h4 sc (0, [.ref tp, .int 0, .ref ou, .int 0, .ref fo, .int 0, .int 0, .ref r, .null, .null, .null, .null])) r b [] 0 (-1) := ⟨xst2 (Ne.symm n4) H4.1, xst2 n5 H4.2.1, H4.2.2⟩
  have a5 : xset h4 sc (0, [.ref tp, .int 0, .ref ou, .int 0, .ref fo, .int 0, .int 0, .ref r, .null, .null, .null, .null]) sc = _ := xset_same _ _ _
  have f5 : fr [sc] h3 (xset h4 sc (0, [.ref tp, .int 0, .ref ou, .int 0, .ref fo, .int 0, .int 0, .ref r, .null, .null, .null, .null])) := ((fr.refl [sc] h3).trans f4 fun q hq => by cases hq).put (Or.inl (by simp))
  obtain ⟨h5, hh5⟩ : ∃ h5, h5 = xset h4 sc (0, [.ref tp, .int 0, .ref ou, .int 0, .ref fo, .int 0, .int 0, .ref r, .null, .null, .null, .null]) := ⟨_, rfl⟩
  rw [← hh5] at H5 a5 f5 ⊢
  have fsc : ∀ {p q : xH} {v : List Value}, fr [sc] p q → p sc = some (0, v) → kp p q := fun {p q v} f e => f.im1 e rfl
  have E5 : env X.D h5 := (E.kept (fsc f03 hs)).kept (fsc f5 a3)
  -- source
  refine xn (by omega) (by omega) fun so hso => ?_
  have n6 : sc ≠ so := xnn a5 hso
  have k5 : h5 kn = some (201, txv knB) := f5.one k3 nks
  have b25 : h5 ou = some (101, List.replicate 16384 (Value.int 0)) := f5.one (f3.one b2 (Ne.symm n2)) (Ne.symm n2)
  have b15 : h5 tp = some (101, List.replicate 8192 (Value.int 0)) := f5.one (f3.one (f2.one b1 (Ne.symm n1)) (Ne.symm n1)) (Ne.symm n1)
  have b35 : h5 fo = some (100, List.replicate 500 (Value.int 0)) := f5.one b3 (Ne.symm n3)
  refine xcI (c_So_init (B := fun a => a = kn) (E5.kept ((kp.refl _).new hso)) hk1 rfl (xset_same _ _ _) []) (by rfl) (by rfl) (by rfl) (by omega) (by omega) ?_
  rintro o h6 ⟨rfl, f6, k6, G, R6, -⟩
  have f56 : fr [] h5 h6 := (fr.new hso [] _).trans f6 fun q hq => Or.inr (by rw [List.mem_singleton.mp hq]; exact hso)
  have a6 := f56 _ _ a5 (by simp)
  refine xp (fs' := [.ref tp, .int 0, .ref ou, .int 0, .ref fo, .int 0, .int 0, .ref r, .ref so, .null, .null, .null]) a6 rfl rfl ?_
  have a7 : xset h6 sc (0, [.ref tp, .int 0, .ref ou, .int 0, .ref fo, .int 0, .int 0, .ref r, .ref so, .null, .null, .null]) sc = _ := xset_same _ _ _
  have f7 : fr [sc] h5 (xset h6 sc (0, [.ref tp, .int 0, .ref ou, .int 0, .ref fo, .int 0, .int 0, .ref r, .ref so, .null, .null, .null])) := ((fr.refl [sc] h5).trans f56 fun q hq => by cases hq).put (Or.inl (by simp))
  have R7 : srcR X.D (fun a => a = kn) (xset h6 sc (0, [.ref tp, .int 0, .ref ou, .int 0, .ref fo, .int 0, .int 0, .ref r, .ref so, .null, .null, .null])) so [] SS0 G := R6.gd ((gk.refl _ _).put a6 (ng0 (Or.inl rfl)))
  obtain ⟨h7, hh7⟩ : ∃ h7, h7 = xset h6 sc (0, [.ref tp, .int 0, .ref ou, .int 0, .ref fo, .int 0, .int 0, .ref r, .ref so, .null, .null, .null]) := ⟨_, rfl⟩
  rw [← hh7] at a7 f7 R7 ⊢
  have E7 : env X.D h7 := E5.kept (fsc f7 a5)
  have H7 : rdr h7 r b [] 0 (-1) := ⟨f7.one H5.1 (Ne.symm n4), f7.one H5.2.1 n5, H5.2.2⟩
  -- style
  refine xn (by omega) (by omega) fun sy hsy => ?_
  have C7 : cx X.D h7 h7 r b [] 0 [] := ⟨H7, E7, ⟨⟨_, H7.1⟩, H7.2.1⟩, fr.refl _ _, fun q hq => by cases hq⟩
  obtain ⟨C8, -⟩ := C7.new (c := (11, [.null, .null, .null, .int 0])) hsy rfl
  refine xcI (c_Sy_init (B := fun a => a = kn) C8 List.mem_cons_self (xset_same _ _ _)) (by rfl) (by rfl) (by rfl) (by omega) (by omega) ?_
  rintro o h8 ⟨rfl, f8, O8, G8, W8, -⟩
  have f78 : fr [] h7 h8 := (fr.new hsy [] _).trans f8 fun q hq => Or.inr (by rw [List.mem_singleton.mp hq]; exact hsy)
  have a8 := f78 _ _ a7 (by simp)
  have Y8 := W8.sty
  refine xp (fs' := [.ref tp, .int 0, .ref ou, .int 0, .ref fo, .int 0, .int 0, .ref r, .ref so, .ref sy, .null, .null]) a8 rfl rfl ?_
  have a9 : xset h8 sc (0, [.ref tp, .int 0, .ref ou, .int 0, .ref fo, .int 0, .int 0, .ref r, .ref so, .ref sy, .null, .null]) sc = _ := xset_same _ _ _
  have f9 : fr [sc] h7 (xset h8 sc (0, [.ref tp, .int 0, .ref ou, .int 0, .ref fo, .int 0, .int 0, .ref r, .ref so, .ref sy, .null, .null])) := ((fr.refl [sc] h7).trans f78 fun q hq => by cases hq).put (Or.inl (by simp))
  have Y9 : styR X.D (fun a => a = kn) (xset h8 sc (0, [.ref tp, .int 0, .ref ou, .int 0, .ref fo, .int 0, .int 0, .ref r, .ref so, .ref sy, .null, .null])) sy [] [] [] [] := Y8.gd ((gk.refl _ _).put a8 (ng0 (Or.inl rfl)))
  obtain ⟨h9, hh9⟩ : ∃ h9, h9 = xset h8 sc (0, [.ref tp, .int 0, .ref ou, .int 0, .ref fo, .int 0, .int 0, .ref r, .ref so, .ref sy, .null, .null]) := ⟨_, rfl⟩
  rw [← hh9] at a9 f9 Y9 ⊢
  -- reach and shares
  refine xnq (N := 20) (by rfl) (by decide) (by omega) (by omega) fun rc hrc => ?_
  have n7 : sc ≠ rc := xnn a9 hrc
  refine xp (fs' := [.ref tp, .int 0, .ref ou, .int 0, .ref fo, .int 0, .int 0, .ref r, .ref so, .ref sy, .ref rc, .null]) (xst2 n7 a9) rfl rfl ?_
  have a10 : xset (xset h9 rc (100 + 5, List.replicate 20 Value.null)) sc (0, [.ref tp, .int 0, .ref ou, .int 0, .ref fo, .int 0, .int 0, .ref r, .ref so, .ref sy, .ref rc, .null]) sc = _ := xset_same _ _ _
  have b10 : xset (xset h9 rc (100 + 5, List.replicate 20 Value.null)) sc (0, [.ref tp, .int 0, .ref ou, .int 0, .ref fo, .int 0, .int 0, .ref r, .ref so, .ref sy, .ref rc, .null]) rc = some (105, List.replicate 20 Value.null) := xst2 (Ne.symm n7) (xset_same _ _ _)
  have f10 : fr [sc] h9 (xset (xset h9 rc (100 + 5, List.replicate 20 Value.null)) sc (0, [.ref tp, .int 0, .ref ou, .int 0, .ref fo, .int 0, .int 0, .ref r, .ref so, .ref sy, .ref rc, .null])) := ((fr.refl _ _).put (Or.inr hrc)).put (Or.inl (by simp))
  obtain ⟨h10, hh10⟩ : ∃ h10, h10 = xset (xset h9 rc (100 + 5, List.replicate 20 Value.null)) sc (0, [.ref tp, .int 0, .ref ou, .int 0, .ref fo, .int 0, .int 0, .ref r, .ref so, .ref sy, .ref rc, .null]) := ⟨_, rfl⟩
  rw [← hh10] at a10 b10 f10 ⊢
  refine xna (N := 20) (by rfl) (by decide) (by omega) (by omega) fun sh hsh => ?_
  have n8 : sc ≠ sh := xnn a10 hsh
  refine xp (fs' := [.ref tp, .int 0, .ref ou, .int 0, .ref fo, .int 0, .int 0, .ref r, .ref so, .ref sy, .ref rc, .ref sh]) (xst2 n8 a10) rfl rfl ?_
  have a11 : xset (xset h10 sh (100 + 0, List.replicate 20 (Value.int 0))) sc (0, [.ref tp, .int 0, .ref ou, .int 0, .ref fo, .int 0, .int 0, .ref r, .ref so, .ref sy, .ref rc, .ref sh]) sc = _ := xset_same _ _ _
  have b11 : xset (xset h10 sh (100 + 0, List.replicate 20 (Value.int 0))) sc (0, [.ref tp, .int 0, .ref ou, .int 0, .ref fo, .int 0, .int 0, .ref r, .ref so, .ref sy, .ref rc, .ref sh]) sh = some (100, List.replicate 20 (Value.int 0)) := xst2 (Ne.symm n8) (xset_same _ _ _)
  have f11 : fr [sc] h10 (xset (xset h10 sh (100 + 0, List.replicate 20 (Value.int 0))) sc (0, [.ref tp, .int 0, .ref ou, .int 0, .ref fo, .int 0, .int 0, .ref r, .ref so, .ref sy, .ref rc, .ref sh])) := ((fr.refl _ _).put (Or.inr hsh)).put (Or.inl (by simp))
  obtain ⟨h11, hh11⟩ : ∃ h11, h11 = xset (xset h10 sh (100 + 0, List.replicate 20 (Value.int 0))) sc (0, [.ref tp, .int 0, .ref ou, .int 0, .ref fo, .int 0, .int 0, .ref r, .ref so, .ref sy, .ref rc, .ref sh]) := ⟨_, rfl⟩
  rw [← hh11] at a11 b11 f11 ⊢
  have f911 : fr [sc] h9 h11 := f10.tr f11
  have f711 : fr [sc] h7 h11 := f9.tr f911
  have f511 : fr [sc] h5 h11 := f7.tr f711
  have g9 : gk (fun a => a = kn) h9 h11 := f911.gk fun q hq c e => by
    rw [List.mem_singleton.mp hq, a9] at e; cases e; exact ng0 (Or.inl rfl)
  have g7 : gk (fun a => a = kn) h7 h11 := f711.gk fun q hq c e => by
    rw [List.mem_singleton.mp hq, a7] at e; cases e; exact ng0 (Or.inl rfl)
  have notp : tp ≠ ou := xnn b1 hou
  have b3A : h10 fo = some (100, List.replicate 500 (Value.int 0)) := f10.one (f9.one (f7.one b35 (Ne.symm n3)) (Ne.symm n3)) (Ne.symm n3)
  have f0A : fr [sc] h h11 := f03.tr (f5.tr f511)
  have f010 : fr [sc] h h10 := f03.tr (f5.tr (f7.tr (f9.tr f10)))
  -- what was there is none of the rows
  have old : ∀ q c, h q = some c → q ≠ sc → bK (tp, ou, fo, rc, sh) q := fun q c e hq => by
    refine ⟨xnn e htp, ?_, ?_, ?_⟩
    · exact xnn (f1.one e hq) hou
    · exact xnn ((f1.tr f2).one e hq) hfo
    · exact xnn (f010.one e hq) hsh
  have kB : ∀ a, a = kn → bK (tp, ou, fo, rc, sh) a := fun a ha => by rw [ha]; exact old kn _ hk2 nks
  refine xP hP ⟨rfl, f0A, (tp, ou, fo, rc, sh), fun Zh hZ => ⟨r, so, sy, G, List.replicate 8192 0, List.replicate 16384 0, List.replicate 500 (.int 0), List.replicate 20 .null, List.replicate 20 (.int 0), .ref b, .int (nI 0), a11, ⟨?_, ?_, ?_⟩, ⟨?_, ?_, ?_⟩, ⟨?_, ?_⟩, ?_, ⟨?_, ?_⟩, ⟨?_, ?_⟩, ⟨notp, xnn b3A hsh⟩, ⟨E7.kept (fsc f711 a7), fun q c e => ?_⟩, (R7.gd g7).mB kB, (Y9.gd g9).mB, AOk0⟩⟩
  · show h11 tp = some (101, txv ([] ++ List.replicate 8192 0))
    rw [List.nil_append, ← txv_rep]; exact f511.one b15 (Ne.symm n1)
  · show ([] ++ List.replicate 8192 0).length = 8192
    rw [List.nil_append, List.length_replicate]
  · intro q hq; rw [List.eq_of_mem_replicate hq]; decide
  · show h11 ou = some (101, txv ([] ++ List.replicate 16384 0))
    rw [List.nil_append, ← txv_rep]; exact f511.one b25 (Ne.symm n2)
  · show ([] ++ List.replicate 16384 0).length = 16384
    rw [List.nil_append, List.length_replicate]
  · intro q hq; rw [List.eq_of_mem_replicate hq]; decide
  · exact f511.one b35 (Ne.symm n3)
  · show 0 + (List.replicate 500 (Value.int 0)).length = 500
    rw [List.length_replicate]
  · exact f711.one H7.1 (Ne.symm n4)
  · exact f11.one b10 (Ne.symm n7)
  · exact List.length_replicate
  · exact b11
  · exact List.length_replicate
  · obtain ⟨z1, z2, z3, z4, z5⟩ := hZ q c e
    exact ⟨f0A.one z1 z2, z3, z4, fun _ => old q c z1 z2, z5, fun _ => old q c z1 z2⟩
end
