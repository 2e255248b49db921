/-! CONTRACTS, 16: things under construction; conditions behind a colon -/
/-- since h0 only the reader has changed; O: what is new and not finished -/
def cx (D : xD) (h0 h : xH) (r b : Nat) (t : List Nat) (i : Nat) (O : List Nat) : Prop := rdr h r b t i (-1) ∧ env D h ∧ bas h0 r b t ∧ fr [r] h0 h ∧ ∀ q ∈ O, h0 q = none ∧ ∃ c, h q = some c ∧ immK c.1 = false
theorem cx.ner {D : xD} {h0 h : xH} {r b i : Nat} {t O : List Nat} (C : cx D h0 h r b t i O) {q : Nat} (hq : q ∈ O) : q ≠ r := fun z => by
  obtain ⟨v, hv⟩ := C.2.2.1.1
  have := (C.2.2.2.2 q hq).1
  rw [z, hv] at this; cases this
theorem cx.neb {D : xD} {h0 h : xH} {r b i : Nat} {t O : List Nat} (C : cx D h0 h r b t i O) {q : Nat} (hq : q ∈ O) : q ≠ b := fun z => by
  have := (C.2.2.2.2 q hq).1
  rw [z, C.2.2.1.2] at this; cases this
theorem cx.non {D : xD} {h0 h : xH} {r b i : Nat} {t O : List Nat} (C : cx D h0 h r b t i O) {q : Nat} (hq : h q = none) : h0 q = none := fr_non C.2.2.2.1 (fun p hp => by rw [List.mem_singleton.mp hp, C.1.1]; simp) hq
theorem cx.mut {D : xD} {h0 h : xH} {r b i : Nat} {t O : List Nat} (C : cx D h0 h r b t i O) {M : List Nat} (hM : ∀ q ∈ M, q = r ∨ q ∈ O) : ∀ q ∈ M, ∀ c, h q = some c → immK c.1 = false := fun q hq c e => by
  rcases hM q hq with z | z
  · rw [z, C.1.1] at e; cases e; rfl
  · obtain ⟨c', h1, h2⟩ := (C.2.2.2.2 q z).2
    rw [h1] at e; cases e; exact h2
theorem cx.go {D : xD} {h0 h h' : xH} {r b i j : Nat} {t O O' M : List Nat} (C : cx D h0 h r b t i O) (f : fr M h h') (hM : ∀ q ∈ M, q = r ∨ q ∈ O) (hr : rdr h' r b t j (-1)) (hO : ∀ q ∈ O', (q ∈ O ∨ h q = none) ∧ ∃ c, h' q = some c ∧ immK c.1 = false) : cx D h0 h' r b t j O' ∧ fr [] (zz h0 O h) (zz h0 O' h') := by
  obtain ⟨v, hv⟩ := C.2.2.1.1
  refine ⟨⟨hr, C.2.1.kept (f.im (C.mut hM)), C.2.2.1, C.2.2.2.1.trans f fun q hq => ?_, fun q hq => ⟨?_, (hO q hq).2⟩⟩, zz_step f (fun q hq => ?_) fun q hq => (hO q hq).1⟩
  · rcases hM q hq with z | z
    · exact Or.inl (List.mem_singleton.mpr z)
    · exact Or.inr (C.2.2.2.2 q z).1
  · rcases (hO q hq).1 with z | z
    · exact (C.2.2.2.2 q z).1
    · exact C.non z
  · rcases hM q hq with z | z
    · exact Or.inr ⟨_, z ▸ hv, rfl⟩
    · exact Or.inl z
theorem cx.rd {D : xD} {h0 h h' : xH} {r b i j : Nat} {t O : List Nat} (C : cx D h0 h r b t i O) (f : fr [r] h h') (hr : rdr h' r b t j (-1)) : cx D h0 h' r b t j O ∧ fr [] (zz h0 O h) (zz h0 O h') :=
  C.go f (fun q hq => Or.inl (List.mem_singleton.mp hq)) hr fun q hq => ⟨Or.inl hq, by
    obtain ⟨c, h1, h2⟩ := (C.2.2.2.2 q hq).2
    exact ⟨c, f.one h1 (C.ner hq), h2⟩⟩
theorem cx.mv {D : xD} {h0 h : xH} {r b i j : Nat} {t O : List Nat} (C : cx D h0 h r b t i O) (hj : j ≤ t.length) : cx D h0 (xset h r (rdc b j (-1))) r b t j O ∧ fr [] (zz h0 O h) (zz h0 O (xset h r (rdc b j (-1)))) := C.rd (fr.set _ _ _) (C.1.mv hj)
theorem cx.new {D : xD} {h0 h : xH} {r b i y : Nat} {t O : List Nat} {c : xC} (C : cx D h0 h r b t i O) (hy : h y = none) (hc : immK c.1 = false) : cx D h0 (xset h y c) r b t i (y :: O) ∧ fr [] (zz h0 O h) (zz h0 (y :: O) (xset h y c)) :=
  C.go (M := []) (fr.new hy [] c) (fun q hq => by cases hq) (C.1.new hy) fun q hq => by
    rcases List.mem_cons.mp hq with z | z
    · exact ⟨Or.inr (z ▸ hy), c, by rw [z]; exact xset_same _ _ _, hc⟩
    · obtain ⟨c', h1, h2⟩ := (C.2.2.2.2 q z).2
      exact ⟨Or.inl z, c', xst2 (xnn h1 hy) h1, h2⟩
theorem cx.put {D : xD} {h0 h : xH} {r b i y : Nat} {t O : List Nat} {c : xC} (C : cx D h0 h r b t i O) (hy : y ∈ O) (hc : immK c.1 = false) : cx D h0 (xset h y c) r b t i O ∧ fr [] (zz h0 O h) (zz h0 O (xset h y c)) :=
  C.go (fr.set _ _ _) (fun q hq => Or.inr (by rw [List.mem_singleton.mp hq]; exact hy)) ⟨xst2 (C.ner hy).symm C.1.1, xst2 (C.neb hy).symm C.1.2.1, C.1.2.2⟩ fun q hq => by
    refine ⟨Or.inl hq, ?_⟩
    by_cases z : q = y
    · exact ⟨c, by rw [z]; exact xset_same _ _ _, hc⟩
    · obtain ⟨c', h1, h2⟩ := (C.2.2.2.2 q hq).2
      exact ⟨c', xst2 z h1, h2⟩
theorem cx.kid {D : xD} {h0 h : xH} {r b i : Nat} {t O : List Nat} (C : cx D h0 h r b t i O) : cx D h h r b t i [] := ⟨C.1, C.2.1, ⟨⟨_, C.1.1⟩, C.1.2.1⟩, fr.refl _ _, fun q hq => by cases hq⟩
theorem cx.up {D : xD} {h0 h1 h' : xH} {r b i : Nat} {t O : List Nat} (C : cx D h0 h1 r b t i O) : fr [] (zz h1 [] h') (zz h0 O h') := by
  obtain ⟨v, hv⟩ := C.2.2.1.1
  exact zz_in C.2.2.2.1 hv C.1.1 fun q hq => (C.2.2.2.2 q hq).2
theorem cx.all {D : xD} {h0 h : xH} {r b i : Nat} {t O : List Nat} (_ : cx D h0 h r b t i O) : fr [] (zz h0 O h) (zz h0 [] h) := zz_step (fr.refl [] _) (fun q hq => by cases hq) fun q hq => by cases hq
theorem cx.cell {D : xD} {h0 h : xH} {r b i q : Nat} {t O : List Nat} {c : xC} (C : cx D h0 h r b t i O) (hq : q ∈ O) (e : h q = some c) : zz h0 [] h q = some c := zz_new (C.2.2.2.2 q hq).1 (by simp) e
theorem cx.slc {B : Nat → Prop} {D : xD} {h0 h : xH} {r b i s : Nat} {t O : List Nat} {a : Nat × Nat} (C : cx D h0 h r b t i O) (hs : h s = some (slc b a)) (hs0 : h0 s = none) (ha : a.1 + a.2 ≤ t.length) (hB : B b) : isS B (zz h0 O h) s (sub t a) :=
  isS.zz C.2.2.1 C.1 hs hs0 ha hB fun q hq c e => C.mut (M := O) (fun q hq => Or.inr hq) q hq c e
theorem cx.cs {α : Type} {D : xD} {h0 h h' : xH} {r b i : Nat} {t O : List Nat} {res : Except Nat (α × Nat)} {ok : α → xO → xH → Prop} {o : xO} (C : cx D h0 h r b t i O) (q : xRes r b t [] h res ok o h') : (∃ w, res = .error w ∧ xEr r b w [] h0 o h') ∨ ∃ a j, res = .ok (a, j) ∧ cx D h0 h' r b t j O ∧ fr [] (zz h0 O h) (zz h0 O h') ∧ fr [r] h h' ∧ ok a o h' := by
  rcases q.cs with ⟨w, e1, z⟩ | ⟨a, j, e1, H2, f2, k⟩
  · exact Or.inl ⟨w, e1, z.tr C.2.2.2.1 fun _ z => absurd z List.not_mem_nil⟩
  · obtain ⟨c1, c2⟩ := C.rd f2 H2
    exact Or.inr ⟨a, j, e1, c1, c2, f2, k⟩
theorem xRes.bs {α : Type} {h0 h h' : xH} {r b : Nat} {t N : List Nat} {res : Except Nat (α × Nat)} {ok : α → xO → xH → Prop} {o : xO} (f0 : fr [r] h0 h) (hN : ∀ q ∈ N, h0 q = none) (q : xRes r b t N h res ok o h') : xRes r b t [] h0 res ok o h' := by
  rcases q.cs with ⟨w, e1, z⟩ | ⟨a, j, e1, H2, f2, k⟩
  · exact xRes.er e1 (z.tr f0 fun q hq => Or.inr (hN q hq))
  · exact xRes.ok e1 H2 (f0.trans f2 fun q hq => by
      rcases List.mem_cons.mp hq with z | z
      · exact Or.inl (List.mem_singleton.mpr z)
      · exact Or.inr (hN q z)) k
set_option maxRecDepth 20000 in
theorem c_sg {l : Launch} {D : xD} {h0 h : xH} {r b i : Nat} {t O : List Nat} (C : cx D h0 h r b t i O) : xMet l D 1 y_Rd_nextSign [.ref r] h 0 0 (fun o h' => cx D h0 h' r b t (scan bl t i) O ∧ fr [] (zz h0 O h) (zz h0 O h') ∧ fr [r] h h' ∧ h' = xset h r (rdc b (scan bl t i) (-1)) ∧ o = .inl (some (.int (cI (ch t (scan bl t i)))))) := (c_nextSign C.1).mono fun o h' q => by
  obtain ⟨rfl, rfl⟩ := q
  obtain ⟨c1, c2⟩ := C.mv (scan_le C.1.2.2.1 (p := bl))
  exact ⟨c1, c2, fr.set _ _ _, rfl, rfl⟩
set_option maxRecDepth 20000 in
theorem c_bracket {B : Nat → Prop} {l : Launch} {D : xD} {h0 h : xH} {r b i x : Nat} {t : List Nat} (C : cx D h0 h r b t i [x]) (hx : h x = some (6, [.int 0, .null, .null, .int 0])) (hBb : B b) : xMet l D 8 y_Co_readBracket [.ref x, .ref r] h 4 24 (xRes r b t [] h0 (pBr t i) (fun c o h' => o = .inl none ∧ isCn B (zz h0 [] h') t x c)) :=
  (c_readBracket C.1 hx hBb C.2.2.1 C.2.2.2.1 (C.2.2.2.2 x (by simp)).1).mono fun o h' q => q.bs C.2.2.2.1 fun q hq => by rw [List.mem_singleton.mp hq]; exact (C.2.2.2.2 x (by simp)).1
set_option maxRecDepth 20000 in
theorem c_readColon {B : Nat → Prop} {l : Launch} {D : xD} {h0 h : xH} {r b i x : Nat} {t : List Nat} (C : cx D h0 h r b t i [x]) (hx : h x = some (6, [.int 0, .null, .null, .int 0])) (hBb : B b) : xMet l D 8 y_Co_readColon [.ref x, .ref r] h 4 24 (xRes r b t [] h0 (pCo t i) (fun c o h' => o = .inl none ∧ isCn B (zz h0 [] h') t x c)) := by
  have hxO : x ∈ [x] := List.mem_singleton.mpr rfl
  have hxr := C.ner hxO
  refine m_Co_readColon (Nat.le_of_ble_eq_true rfl) fun X hl hD hP hA => ?_
  subst hl hD
  refine xgo [13] 60 hA ?_
  refine xcV C.1.1 (c_sg C) (by rfl) (by rfl) (by rfl) (by omega) (by omega) ?_ -- 1
  rintro o h1 ⟨C1, z1, f1, -, rfl⟩
  have x1 := f1.one hx hxr
  refine xcV C1.1.1 (c_readName C1.1) (by rfl) (by rfl) (by rfl) (by omega) (by omega) ?_ -- 6
  intro o h2 q
  rcases C1.cs q with ⟨w, e1, z⟩ | ⟨a, j, e1, C2, z2, f2, s, rfl, hsn, hs2⟩
  · obtain ⟨ex, rfl⟩ := z.1
    exact xP hP (xRes.er (by rw [pCo, pB_er e1]) z)
  have x2 := f2.one x1 hxr
  obtain ⟨n1, n2, n3, n4, n5, n6, -⟩ := pName_sub e1
  have S2 := C2.slc (B := B) hs2 (C1.non hsn) (by omega) hBb
  have S2' : isS B h2 s (sub t a) := S2.ext (zz_le _ _ _)
  obtain ⟨s3, s4, s5, s6, s7, -⟩ := C2.2.1.2.2.2.2.2
  obtain ⟨a3, v3, e3, g3⟩ := id s3
  obtain ⟨a4, v4, e4, g4⟩ := id s4
  obtain ⟨a5, v5, e5, g5⟩ := id s5
  obtain ⟨a6, v6, e6, g6⟩ := id s6
  obtain ⟨a7, v7, e7, g7⟩ := id s7
  -- done at once
  have fin : ∀ (k : Nat) (rc rs : Nat), (k = 1 ∨ k = 2 ∨ k = 3) → pCo t i = .ok ((k, (0, 0), none, 0), j) → xG X 153 [(2, .ref s), (0, .ref x), (1, .ref r)] [] (xset h2 x (6, [.int (nI k), .null, .null, .int 0])) rc rs := by
    intro k rc rs hk eR
    obtain ⟨C3, z3⟩ := C2.put (c := (6, [.int (nI k), .null, .null, .int 0])) hxO rfl
    refine xgo [] 40 hA ?_
    refine xP hP (xRes.ok eR C3.1 C3.2.2.2.1 ⟨rfl, .null, .null, C3.cell hxO (xset_same _ _ _), ?_, rfl, ?_⟩)
    · show opS B _ .null (if k = 0 ∨ k = 5 then _ else none)
      rw [if_neg (by omega)]; rfl
    · exact ⟨by show k ≤ 5; omega, by show 0 < 10000000; decide⟩
  show xG X 13 [(2, .ref s), (0, .ref x), (1, .ref r)] [X.D.sv 1003, .ref s] h2 _ _
  rw [e3]
  refine xgo [30, 153] 60 hA ?_
  refine xcV hs2 (c_spells C2.2.1 S2' s3 e3 (by decide) (by decide)) (by rfl) (by rfl) (by rfl) (Nat.zero_le _) (Nat.zero_le _) ?_
  rintro o h3 ⟨rfl, rfl⟩
  refine xb (fun c => ?_) (fun c => ?_) -- 16 o_ifeq 27 19
  rotate_left
  · have c1 : sub t a = wFirst := of_decide_eq_true ((bI_n0 _).mp c)
    refine xp x2 rfl rfl ?_ -- 21 f6.0
    exact fin 1 _ _ (by omega) (by rw [pCo, pB_ok e1, if_pos c1])
  have c1 : ¬ sub t a = wFirst := of_decide_eq_false ((bI_0 _).mp c)
  show xG X 30 [(2, .ref s), (0, .ref x), (1, .ref r)] [X.D.sv 1004, .ref s] h3 _ _
  rw [e4]
  refine xgo [47, 153] 60 hA ?_
  refine xcV hs2 (c_spells C2.2.1 S2' s4 e4 (by decide) (by decide)) (by rfl) (by rfl) (by rfl) (Nat.zero_le _) (Nat.zero_le _) ?_
  rintro o h4 ⟨rfl, rfl⟩
  refine xb (fun c => ?_) (fun c => ?_) -- 33 o_ifeq 44 36
  rotate_left
  · have c2 : sub t a = wLast := of_decide_eq_true ((bI_n0 _).mp c)
    refine xp x2 rfl rfl ?_ -- 38 f6.0
    exact fin 2 _ _ (by omega) (by rw [pCo, pB_ok e1, if_neg c1, if_pos c2])
  have c2 : ¬ sub t a = wLast := of_decide_eq_false ((bI_0 _).mp c)
  show xG X 47 [(2, .ref s), (0, .ref x), (1, .ref r)] [X.D.sv 1005, .ref s] h4 _ _
  rw [e5]
  refine xgo [64, 153] 60 hA ?_
  refine xcV hs2 (c_spells C2.2.1 S2' s5 e5 (by decide) (by decide)) (by rfl) (by rfl) (by rfl) (Nat.zero_le _) (Nat.zero_le _) ?_
  rintro o h5 ⟨rfl, rfl⟩
  refine xb (fun c => ?_) (fun c => ?_) -- 50 o_ifeq 61 53
  rotate_left
  · have c3 : sub t a = wEmpty := of_decide_eq_true ((bI_n0 _).mp c)
    refine xp x2 rfl rfl ?_ -- 55 f6.0
    exact fin 3 _ _ (by omega) (by rw [pCo, pB_ok e1, if_neg c1, if_neg c2, if_pos c3])
  have c3 : ¬ sub t a = wEmpty := of_decide_eq_false ((bI_0 _).mp c)
  show xG X 64 [(2, .ref s), (0, .ref x), (1, .ref r)] [X.D.sv 1006, .ref s] h5 _ _
  rw [e6]
  refine xgo [106] 60 hA ?_
  refine xcV hs2 (c_spells C2.2.1 S2' s6 e6 (by decide) (by decide)) (by rfl) (by rfl) (by rfl) (Nat.zero_le _) (Nat.zero_le _) ?_
  rintro o h6 ⟨rfl, rfl⟩
  refine xb (fun c => ?_) (fun c => ?_) -- 67 o_ifeq 103 70
  rotate_left
  · have c4 : sub t a = wNth := of_decide_eq_true ((bI_n0 _).mp c)
    have eR : pCo t i = pB (pSig 40 t j) fun _ k => pB (pNum t (scan bl t k)) fun n m => pB (pSig 41 t m) fun _ q => .ok ((4, (0, 0), none, n), q) := by rw [pCo, pB_ok e1, if_neg c1, if_neg c2, if_neg c3, if_pos c4]
    refine xp x2 rfl rfl ?_ -- 72 f6.0
    obtain ⟨C3, z3⟩ := C2.put (c := (6, [.int 4, .null, .null, .int 0])) hxO rfl
    have x3 : xset h6 x (6, [.int 4, .null, .null, .int 0]) x = _ := xset_same _ _ _
    refine xcV C3.1.1 (c_expectSign C3.1 (c := 40) rfl (by decide)) (by rfl) (by rfl) (by rfl) (by omega) (by omega) ?_ -- 78
    intro o h4 q
    rcases C3.cs q with ⟨w, e2, z⟩ | ⟨u, k, e2, C4, z4, f4, rfl⟩
    · obtain ⟨ex, rfl⟩ := z.1
      exact xP hP (xRes.er (by rw [eR, pB_er e2]) z)
    have x4 := f4.one x3 hxr
    refine xcV C4.1.1 (c_sg C4) (by rfl) (by rfl) (by rfl) (by omega) (by omega) ?_ -- 82
    rintro o h5 ⟨C5, z5, f5, -, rfl⟩
    have x5 := f5.one x4 hxr
    refine xcV C5.1.1 (c_readNumber C5.1) (by rfl) (by rfl) (by rfl) (by omega) (by omega) ?_ -- 88
    intro o h6 q
    rcases C5.cs q with ⟨w, e3, z⟩ | ⟨n, m, e3, C6, z6, f6, rfl⟩
    · obtain ⟨ex, rfl⟩ := z.1
      exact xP hP (xRes.er (by rw [eR, pB_ok e2, pB_er e3]) z)
    have x6 := f6.one x5 hxr
    refine xp x6 rfl rfl ?_ -- 91 f6.3
    obtain ⟨C7, z7⟩ := C6.put (c := (6, [.int 4, .null, .null, .int (nI n)])) hxO rfl
    refine xcV C7.1.1 (c_expectSign C7.1 (c := 41) rfl (by decide)) (by rfl) (by rfl) (by rfl) (by omega) (by omega) ?_ -- 97
    intro o h8 q
    rcases C7.cs q with ⟨w, e4, z⟩ | ⟨u, k, e4, C8, z8, f8, rfl⟩
    · obtain ⟨ex, rfl⟩ := z.1
      exact xP hP (xRes.er (by rw [eR, pB_ok e2, pB_ok e3, pB_er e4]) z)
    exact xP hP (xRes.ok (a := (4, (0, 0), none, n)) (by rw [eR, pB_ok e2, pB_ok e3, pB_ok e4]) C8.1 C8.2.2.2.1 ⟨rfl, .null, .null, C8.cell hxO (f8.one (xset_same _ _ _) hxr), rfl, rfl, by show 4 ≤ 5; decide, pNum_lt e3⟩)
  have c4 : ¬ sub t a = wNth := of_decide_eq_false ((bI_0 _).mp c)
  show xG X 106 [(2, .ref s), (0, .ref x), (1, .ref r)] [X.D.sv 1007, .ref s] h6 _ _
  rw [e7]
  refine xgo [] 60 hA ?_
  refine xcV hs2 (c_spells C2.2.1 S2' s7 e7 (by decide) (by decide)) (by rfl) (by rfl) (by rfl) (Nat.zero_le _) (Nat.zero_le _) ?_
  rintro o h7 ⟨rfl, rfl⟩
  refine xb (fun c => ?_) (fun c => ?_) -- 109 o_ifeq 145 112
  · have c5 : ¬ sub t a = wNot := of_decide_eq_false ((bI_0 _).mp c)
    refine xg hs2 (by rfl) ?_ -- 147 f2.1
    refine xfail C2.1 (scan bl t i) (by rw [n1]) rfl (by omega) (by omega) fun e h1 q => xP hP (xRes.er (by rw [pCo, pB_ok e1, if_neg c1, if_neg c2, if_neg c3, if_neg c4, if_neg c5]) (q.tr C2.2.2.2.1 (fun _ z => absurd z List.not_mem_nil))) -- 150
  · have c5 : sub t a = wNot := of_decide_eq_true ((bI_n0 _).mp c)
    have eR : pCo t i = pB (pSig 40 t j) fun _ k => pB (pName t (scan bl t k)) fun b m => pB (pSig 41 t m) fun _ q => .ok ((5, b, none, 0), q) := by rw [pCo, pB_ok e1, if_neg c1, if_neg c2, if_neg c3, if_neg c4, if_pos c5]
    refine xp x2 rfl rfl ?_ -- 114 f6.0
    obtain ⟨C3, z3⟩ := C2.put (c := (6, [.int 5, .null, .null, .int 0])) hxO rfl
    have x3 : xset h7 x (6, [.int 5, .null, .null, .int 0]) x = _ := xset_same _ _ _
    refine xcV C3.1.1 (c_expectSign C3.1 (c := 40) rfl (by decide)) (by rfl) (by rfl) (by rfl) (by omega) (by omega) ?_ -- 120
    intro o h4 q
    rcases C3.cs q with ⟨w, e2, z⟩ | ⟨u, k, e2, C4, z4, f4, rfl⟩
    · obtain ⟨ex, rfl⟩ := z.1
      exact xP hP (xRes.er (by rw [eR, pB_er e2]) z)
    have x4 := f4.one x3 hxr
    refine xcV C4.1.1 (c_sg C4) (by rfl) (by rfl) (by rfl) (by omega) (by omega) ?_ -- 124
    rintro o h5 ⟨C5, z5, f5, -, rfl⟩
    have x5 := f5.one x4 hxr
    refine xcV C5.1.1 (c_readName C5.1) (by rfl) (by rfl) (by rfl) (by omega) (by omega) ?_ -- 130
    intro o h6 q
    rcases C5.cs q with ⟨w, e3, z⟩ | ⟨n, m, e3, C6, z6, f6, s6, rfl, hs6n, hs6⟩
    · obtain ⟨ex, rfl⟩ := z.1
      exact xP hP (xRes.er (by rw [eR, pB_ok e2, pB_er e3]) z)
    have x6 := f6.one x5 hxr
    obtain ⟨m1, m2, m3, m4, m5, m6, -⟩ := pName_sub e3
    have S6 := C6.slc (B := B) hs6 (C5.non hs6n) (by omega) hBb
    refine xp x6 rfl rfl ?_ -- 133 f6.1
    obtain ⟨C7, z7⟩ := C6.put (c := (6, [.int 5, .ref s6, .null, .int 0])) hxO rfl
    refine xcV C7.1.1 (c_expectSign C7.1 (c := 41) rfl (by decide)) (by rfl) (by rfl) (by rfl) (by omega) (by omega) ?_ -- 139
    intro o h8 q
    rcases C7.cs q with ⟨w, e4, z⟩ | ⟨u, k, e4, C8, z8, f8, rfl⟩
    · obtain ⟨ex, rfl⟩ := z.1
      exact xP hP (xRes.er (by rw [eR, pB_ok e2, pB_ok e3, pB_er e4]) z)
    exact xP hP (xRes.ok (a := (5, n, none, 0)) (by rw [eR, pB_ok e2, pB_ok e3, pB_ok e4]) C8.1 C8.2.2.2.1 ⟨rfl, .ref s6, .null, C8.cell hxO (f8.one (xset_same _ _ _) hxr), ⟨s6, rfl, ((S6.ext z7).ext z8).ext C8.all⟩, rfl, by show 5 ≤ 5; decide, by show 0 < 10000000; decide⟩)
