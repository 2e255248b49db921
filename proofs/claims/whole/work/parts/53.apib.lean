/-! THE CLASS, 2: tape, found ones, words, counts -/
section
variable {Zh : xH}
theorem txv_put {p T : List Nat} {b : Nat} (h : T ≠ []) : (txv (p ++ T)).set p.length (.int (sb_b b)) = txv ((p ++ [b]) ++ T.tail) := by
  obtain ⟨t0, T', rfl⟩ := List.exists_cons_of_ne_nil h
  unfold txv
  rw [← List.map_set]
  congr 1
  rw [List.set_append_right _ _ (Nat.le_refl _), Nat.sub_self]
  simp
/-- the state with another tape -/
abbrev AS.wTp (A : AS) (x : List Nat) : AS := ((x, A.1.2), A.2)
abbrev AS.wOu (A : AS) (x : List Nat) : AS := ((A.tp, x, A.1.2.2), A.2)
theorem env.gd {B : Nat → Prop} {D : xD} {h h' : xH} (H : env D h) (k : gk B h h') : env D h' := by
  have ks : ∀ {j w}, strC D h j w → strC D h' j w := fun {j w} q => by
    obtain ⟨a, v, h1, h2, h3⟩ := q
    exact ⟨a, v, h1, k _ _ h2 (gd.k rfl), k _ _ h3 (gd.k rfl)⟩
  obtain ⟨⟨kn, a1, a2⟩, ⟨e0, b1, b2⟩, c, d, e, f1, f2, f3, f4, f5, f6⟩ := H
  exact ⟨⟨kn, a1, k _ _ a2 (gd.k rfl)⟩, ⟨e0, b1, k _ _ b2 (gd.k rfl)⟩, c, d, e, ks f1, ks f2, ks f3, ks f4, ks f5, ks f6⟩
theorem envZ.gd {D : xD} {K : CK} {h h' : xH} (H : envZ D Zh K h) (k : gk (bK K) h h') : envZ D Zh K h' := ⟨H.1.gd k, fun q c e => ⟨k _ _ (H.2 q c e).1 (H.2 q c e).2, (H.2 q c e).2⟩⟩
theorem scQ.new {D : xD} {h : xH} {sc a rd so sy : Nat} {K : CK} {A : AS} {G : SG} {c : xC} (R : scQ Zh D h sc K A rd so sy G) (ha : h a = none) : scQ Zh D (xset h a c) sc K A rd so sy G := by
  obtain ⟨T, O, fv, rv, hv, v0, v1, r1, ⟨r2, r3⟩, ⟨r4, r5⟩, ⟨r6, r7⟩, r8, ⟨r9, r10⟩, ⟨r11, r12⟩, r13, r14, r15, r16, r17⟩ := R
  have k : gk (bK K) h (xset h a c) := (gk.refl _ _).new ha
  have f : ∀ {q d}, h q = some d → xset h a c q = some d := fun {q d} e => xst2 (xnn e ha) e
  exact ⟨T, O, fv, rv, hv, v0, v1, f r1, ⟨f r2, r3⟩, ⟨f r4, r5⟩, ⟨f r6, r7⟩, f r8, ⟨f r9, r10⟩, ⟨f r11, r12⟩, r13, r14.gd k, r15.gd k, r16.gd k, r17⟩
theorem scR.new {D : xD} {h : xH} {sc a : Nat} {K : CK} {A : AS} {c : xC} (R : scR Zh D h sc K A) (ha : h a = none) : scR Zh D (xset h a c) sc K A := by
  obtain ⟨rd, so, sy, G, Q⟩ := R
  exact ⟨rd, so, sy, G, Q.new ha⟩
/-- the object holds A, where its own cells are so -/
theorem scQ.of {D : xD} {h h' : xH} {sc rd so sy : Nat} {K : CK} {A : AS} {G : SG} {T O : List Nat} {fv rv hv : List Value} {v0 v1 : Value} (k : gk (bK K) h h') (E : envZ D Zh K h) (r15 : srcR D (bK K) h so A.ts A.S G) (r16 : styR D (bK K) h sy A.ty A.rs A.ss A.ns)
    (r1 : h' sc = some (0, scV K A rd so sy)) (r2 : h' K.1 = some (101, txv (A.tp ++ T)) ∧ (A.tp ++ T).length = 8192 ∧ bytesOk T) (r4 : h' K.2.1 = some (101, txv (A.ou ++ O)) ∧ (A.ou ++ O).length = 16384 ∧ bytesOk O)
    (r6 : h' K.2.2.1 = some (100, A.fo.map (fun k => .int (nI k)) ++ fv) ∧ A.fo.length + fv.length = 500) (r8 : h' rd = some (1, [v0, v1, .int (plI A.pl)])) (r9 : h' K.2.2.2.1 = some (105, rv) ∧ rv.length = 20) (r11 : h' K.2.2.2.2 = some (100, hv) ∧ hv.length = 20) (r13 : K.1 ≠ K.2.1 ∧ K.2.2.1 ≠ K.2.2.2.2) (r17 : AOk A) : scQ Zh D h' sc K A rd so sy G :=
  ⟨T, O, fv, rv, hv, v0, v1, r1, r2, r4, r6, r8, r9, r11, r13, E.gd k, r15.gd k, r16.gd k, r17⟩
/-- the object's own cells are apart from each other -/
theorem sc_ne {h : xH} {sc rd : Nat} {K : CK} {a0 a1 a2 a3 a4 a5 a6 : List Value} (r1 : h sc = some (0, a0)) (r2 : h K.1 = some (101, a1)) (r4 : h K.2.1 = some (101, a2)) (r6 : h K.2.2.1 = some (100, a3)) (r8 : h rd = some (1, a4)) (r9 : h K.2.2.2.1 = some (105, a5)) (r11 : h K.2.2.2.2 = some (100, a6)) : (K.1 ≠ sc ∧ K.2.1 ≠ sc ∧ K.2.2.1 ≠ sc ∧ rd ≠ sc ∧ K.2.2.2.1 ≠ sc ∧ K.2.2.2.2 ≠ sc) ∧ (K.2.2.1 ≠ K.1 ∧ rd ≠ K.1 ∧ K.2.2.2.1 ≠ K.1 ∧ K.2.2.2.2 ≠ K.1) ∧ (K.2.2.1 ≠ K.2.1 ∧ rd ≠ K.2.1 ∧ K.2.2.2.1 ≠ K.2.1 ∧ K.2.2.2.2 ≠ K.2.1) ∧ (rd ≠ K.2.2.1 ∧ K.2.2.2.1 ≠ K.2.2.1) ∧ (rd ≠ K.2.2.2.1 ∧ rd ≠ K.2.2.2.2) ∧ K.2.2.2.2 ≠ K.2.2.2.1 :=
  ⟨⟨xne' r2 r1 (by decide), xne' r4 r1 (by decide), xne' r6 r1 (by decide), xne' r8 r1 (by decide), xne' r9 r1 (by decide), xne' r11 r1 (by decide)⟩, ⟨xne' r6 r2 (by decide), xne' r8 r2 (by decide), xne' r9 r2 (by decide), xne' r11 r2 (by decide)⟩, ⟨xne' r6 r4 (by decide), xne' r8 r4 (by decide), xne' r9 r4 (by decide), xne' r11 r4 (by decide)⟩, ⟨xne' r8 r6 (by decide), xne' r9 r6 (by decide)⟩, ⟨xne' r8 r9 (by decide), xne' r8 r11 (by decide)⟩, xne' r11 r9 (by decide)⟩
theorem bytesOk.app {a b : List Nat} (ha : bytesOk a) (hb : bytesOk b) : bytesOk (a ++ b) := fun x hx => by
  rcases List.mem_append.mp hx with z | z
  · exact ha x z
  · exact hb x z
theorem bytesOk.drop {a : List Nat} (ha : bytesOk a) (n : Nat) : bytesOk (a.drop n) := fun x hx => ha x (List.mem_of_mem_drop hx)
theorem bytesOk.take {a : List Nat} (ha : bytesOk a) (n : Nat) : bytesOk (a.take n) := fun x hx => ha x (List.mem_of_mem_take hx)
set_option maxRecDepth 20000 in
theorem c_putOnTape {l : Launch} {D : xD} {h : xH} {sc : Nat} {K : CK} {A : AS} {x : Int32} (R : scR Zh D h sc K A) (hl : A.tp.length + 4 ≤ 8192) : xMet l D 0 y_Sc_putOnTape [.ref sc, .int x] h 0 0 (fun o h' => o = .inl none ∧ scR Zh D h' sc K (A.wTp (A.tp ++ by4 x))) := by
  obtain ⟨rd, so, sy, G, T, O, fv, rv, hv, v0, v1, r1, ⟨r2, r3, r3'⟩, r4, r6, r8, r9, r11, r13, r14, r15, r16, r17⟩ := R
  obtain ⟨⟨n1, n2, n3, n4, n5, n6⟩, ⟨n7, n8, n9, n10⟩, -⟩ := sc_ne r1 r2 r4.1 r6.1 r8 r9.1 r11.1
  have hT : T.length = 8192 - A.tp.length := by rw [List.length_append] at r3; omega
  obtain ⟨t0, t1, t2, t3, T', rfl⟩ : ∃ t0 t1 t2 t3 T', T = t0 :: t1 :: t2 :: t3 :: T' := by
    match T, hT with
    | t0 :: t1 :: t2 :: t3 :: T', _ => exact ⟨t0, t1, t2, t3, T', rfl⟩
    | [], h => simp at h; omega
    | [_], h => simp at h; omega
    | [_, _], h => simp at h; omega
    | [_, _, _], h => simp at h; omega
  refine m_Sc_putOnTape (Nat.le_of_ble_eq_true rfl) fun X hl hD hP hA => ?_
  subst hl hD
  -- one byte
  have one : ∀ (s : Int32) (p Q : List Nat) (q0 : Nat) (h1 : xH), ¬ s < 0 → s &&& 31 = s → h1 sc = some (0, scV K (A.wTp p) rd so sy) → h1 K.1 = some (101, txv (p ++ q0 :: Q)) → p.length < 8192 → (∀ h2 : xH, h2 = xset (xset h1 K.1 (101, txv ((p ++ [byB (x >>> s)]) ++ Q))) sc (0, scV K (A.wTp (p ++ [byB (x >>> s)])) rd so sy) → xG X 3 [(2, .int (s + (-8))), (0, .ref sc), (1, .int x)] [] h2 0 0) → xG X 3 [(2, .int s), (0, .ref sc), (1, .int x)] [] h1 0 0 := by
    intro s p Q q0 h1 hs hs2 g1 g2 hp nxt
    refine xgo [3] 60 hA ?_
    refine xf hs ?_
    refine xg g1 (by rfl) ?_
    refine xg g1 (by rfl) ?_
    refine xsb (j := p.length) g2 (by rfl) (by rw [txv_len, List.length_append, List.length_cons]; omega) ?_
    rw [hs2, (byB_ok (x >>> s)).2.2, sb_again, txv_put (by simp)]
    have g3 : xset h1 K.1 (100 + 1, txv (p ++ [byB (x >>> s)] ++ (q0 :: Q).tail)) sc = some (0, scV K (A.wTp p) rd so sy) := xst2 (Ne.symm n1) g1
    refine xg g3 (by rfl) ?_
    have ew : nI p.length + 1 = nI (p ++ [byB (x >>> s)]).length := by rw [nI_1, List.length_append]; rfl
    refine xp (fs' := scW K (nI p.length + 1) (nI A.ou.length) (nI A.fo.length) (nI A.aw) rd so sy) g3 rfl rfl ?_
    rw [ew]
    exact nxt _ rfl
  refine xgo [3] 60 hA ?_
  refine one 24 A.tp (t1 :: t2 :: t3 :: T') t0 h (by decide) (by decide) r1 r2 (by omega) ?_
  intro h1 e1
  have a1 : h1 sc = some (0, scV K (A.wTp (A.tp ++ [byB (x >>> 24)])) rd so sy) := by rw [e1]; exact xset_same _ _ _
  have b1 : h1 K.1 = some (101, txv ((A.tp ++ [byB (x >>> 24)]) ++ t1 :: t2 :: t3 :: T')) := by rw [e1]; exact xst2 n1 (xset_same _ _ _)
  refine one 16 _ (t2 :: t3 :: T') t1 h1 (by decide) (by decide) a1 b1 (by simp; omega) ?_
  intro h2 e2
  have a2 : h2 sc = some (0, scV K (A.wTp (A.tp ++ [byB (x >>> 24)] ++ [byB (x >>> 16)])) rd so sy) := by rw [e2]; exact xset_same _ _ _
  have b2 : h2 K.1 = some (101, txv ((A.tp ++ [byB (x >>> 24)] ++ [byB (x >>> 16)]) ++ t2 :: t3 :: T')) := by rw [e2]; exact xst2 n1 (xset_same _ _ _)
  refine one 8 _ (t3 :: T') t2 h2 (by decide) (by decide) a2 b2 (by simp; omega) ?_
  intro h3 e3
  have a3 : h3 sc = some (0, scV K (A.wTp (A.tp ++ [byB (x >>> 24)] ++ [byB (x >>> 16)] ++ [byB (x >>> 8)])) rd so sy) := by rw [e3]; exact xset_same _ _ _
  have b3 : h3 K.1 = some (101, txv ((A.tp ++ [byB (x >>> 24)] ++ [byB (x >>> 16)] ++ [byB (x >>> 8)]) ++ t3 :: T')) := by rw [e3]; exact xst2 n1 (xset_same _ _ _)
  refine one 0 _ T' t3 h3 (by decide) (by decide) a3 b3 (by simp; omega) ?_
  intro h4 e4
  have ep : A.tp ++ [byB (x >>> 24)] ++ [byB (x >>> 16)] ++ [byB (x >>> 8)] ++ [byB (x >>> 0)] = A.tp ++ by4 x := by simp [by4]
  rw [ep] at e4
  have f4 : fr [sc, K.1] h h4 := by
    rw [e4, e3, e2, e1]
    exact ((((((((fr.refl _ _).put (Or.inl (by simp))).put (Or.inl (by simp))).put (Or.inl (by simp))).put (Or.inl (by simp))).put (Or.inl (by simp))).put (Or.inl (by simp))).put (Or.inl (by simp))).put (Or.inl (by simp))
  have a4 : h4 sc = some (0, scV K (A.wTp (A.tp ++ by4 x)) rd so sy) := by rw [e4]; exact xset_same _ _ _
  have b4 : h4 K.1 = some (101, txv ((A.tp ++ by4 x) ++ T')) := by rw [e4]; exact xst2 n1 (xset_same _ _ _)
  have k4 : gk (bK K) h h4 := f4.gk fun q hq c e => by
    rcases List.mem_cons.mp hq with z | z
    · rw [z, r1] at e; cases e; exact ng0 (Or.inl rfl)
    · rw [List.mem_singleton.mp z, r2] at e; cases e; exact ng0 (Or.inr (Or.inr (Or.inr (Or.inr ⟨rfl, fun y => y.1 (List.mem_singleton.mp z)⟩))))
  have ff : ∀ {q d}, h q = some d → q ≠ K.1 → q ≠ sc → h4 q = some d := fun {q d} e w1 w2 => f4 q d e (by simp [w1, w2])
  refine xgo [] 60 hA ?_
  refine xt (by decide) ?_
  obtain ⟨g1, g2⟩ := r17
  refine xP hP ⟨rfl, rd, so, sy, G, scQ.of (T := T') k4 r14 r15 r16 a4 ⟨b4, ?_, fun b hb => r3' b (by simp [hb])⟩ ⟨ff r4.1 (Ne.symm r13.1) n2, r4.2⟩ ⟨ff r6.1 n7 n3, r6.2⟩ (ff r8 n8 n4) ⟨ff r9.1 n9 n5, r9.2⟩ ⟨ff r11.1 n10 n6, r11.2⟩ r13 ⟨⟨?_, g1.2.app (by4_ok x)⟩, g2⟩⟩
  · show (A.tp ++ by4 x ++ T').length = 8192
    simp only [List.length_append, List.length_cons, by4_len] at r3 ⊢; omega
  · show (A.tp ++ by4 x).length ≤ 8192
    rw [List.length_append, by4_len]; omega
/-- FEED -/
def aFeed (A : AS) (a b c d e : Int32) : Option Int32 × AS := if 8172 < A.tp.length then (none, A) else (some (nI (A.tp.length + 20)), A.wTp (A.tp ++ by4 a ++ by4 b ++ by4 c ++ by4 d ++ by4 e))
/-- an outcome: a number, or a throw of the class ci -/
def oI (ci : Nat) (q : Option Int32) (o : xO) : Prop := match q with
  | none => ∃ e, o = .inr (ci, e)
  | some v => o = .inl (some (.int v))
set_option maxRecDepth 20000 in
theorem c_feed {l : Launch} {D : xD} {h : xH} {sc : Nat} {K : CK} {A : AS} {a b c d e : Int32} (R : scR Zh D h sc K A) : xMet l D 6 y_Sc_feed [.ref sc, .int a, .int b, .int c, .int d, .int e] h 1 6 (fun o h' => oI 14 (aFeed A a b c d e).1 o ∧ scR Zh D h' sc K (aFeed A a b c d e).2) := by
  have R' := R
  obtain ⟨rd, so, sy, G, T, O, fv, rv, hv, v0, v1, r1, ⟨r2, r3, r3'⟩, -⟩ := R
  have hl : A.tp.length ≤ 8192 := by rw [List.length_append] at r3; omega
  refine m_Sc_feed (Nat.le_of_ble_eq_true rfl) fun X hl hD hP hA => ?_
  subst hl hD
  refine xgo [] 60 hA ?_
  refine xg r1 (by rfl) ?_
  refine xb (fun z => ?_) (fun z => ?_)
  · have z1 : A.tp.length ≤ 8172 := (nI_leI (b := 8172) (by omega) (by omega)).mp z
    refine xcV r1 (c_putOnTape R' (by omega)) (by rfl) (by rfl) (by rfl) (Nat.zero_le _) (Nat.zero_le _) ?_
    rintro o h1 ⟨rfl, R1⟩
    obtain ⟨_, _, _, _, _, _, _, _, _, _, _, q1, -⟩ := id R1
    refine xcV q1 (c_putOnTape R1 (by show (A.tp ++ by4 a).length + 4 ≤ 8192; simp only [List.length_append, by4_len]; omega)) (by rfl) (by rfl) (by rfl) (Nat.zero_le _) (Nat.zero_le _) ?_
    rintro o h2 ⟨rfl, R2⟩
    obtain ⟨_, _, _, _, _, _, _, _, _, _, _, q2, -⟩ := id R2
    refine xcV q2 (c_putOnTape R2 (by show (A.tp ++ by4 a ++ by4 b).length + 4 ≤ 8192; simp only [List.length_append, by4_len]; omega)) (by rfl) (by rfl) (by rfl) (Nat.zero_le _) (Nat.zero_le _) ?_
    rintro o h3 ⟨rfl, R3⟩
    obtain ⟨_, _, _, _, _, _, _, _, _, _, _, q3, -⟩ := id R3
    refine xcV q3 (c_putOnTape R3 (by show (A.tp ++ by4 a ++ by4 b ++ by4 c).length + 4 ≤ 8192; simp only [List.length_append, by4_len]; omega)) (by rfl) (by rfl) (by rfl) (Nat.zero_le _) (Nat.zero_le _) ?_
    rintro o h4 ⟨rfl, R4⟩
    obtain ⟨_, _, _, _, _, _, _, _, _, _, _, q4, -⟩ := id R4
    refine xcV q4 (c_putOnTape R4 (by show (A.tp ++ by4 a ++ by4 b ++ by4 c ++ by4 d).length + 4 ≤ 8192; simp only [List.length_append, by4_len]; omega)) (by rfl) (by rfl) (by rfl) (Nat.zero_le _) (Nat.zero_le _) ?_
    rintro o h5 ⟨rfl, R5⟩
    obtain ⟨_, _, _, _, _, _, _, _, _, _, _, q5, -⟩ := id R5
    refine xg q5 (by rfl) ?_
    have ea : aFeed A a b c d e = (some (nI (A.tp.length + 20)), A.wTp (A.tp ++ by4 a ++ by4 b ++ by4 c ++ by4 d ++ by4 e)) := if_neg (by omega)
    rw [ea] at hP
    refine xP hP ⟨?_, R5⟩
    show Sum.inl (some (Value.int (nI (A.tp ++ by4 a ++ by4 b ++ by4 c ++ by4 d ++ by4 e).length))) = _
    simp only [List.length_append, by4_len]
  · have z1 : ¬ A.tp.length ≤ 8172 := fun y => z ((nI_leI (b := 8172) (by omega) (by omega)).mpr y)
    have ea : aFeed A a b c d e = (none, A) := if_pos (by omega)
    rw [ea] at hP
    refine xth (K := fun _ _ _ _ _ _ => True) (ls := []) (st := []) rfl (Nat.le_refl _) (Nat.le_refl _) fun w hw => xP hP ⟨⟨w, rfl⟩, R'.new hw⟩
end
