/-! CONTRACTS, 15: what is new; conditions -/
theorem nmv_fold : ∀ (l : List Nat) (n : Nat), (∀ b ∈ l, dg b = true) → l.foldl (fun n b => n * 10 + (b - 48)) n < (n + 1) * 10 ^ l.length
  | [], n, _ => by simp
  | b :: l, n, h => by
    have hb := h b List.mem_cons_self
    have hb' : b ≤ 57 := (of_decide_eq_true hb).2
    have := nmv_fold l (n * 10 + (b - 48)) fun c hc => h c (List.mem_cons_of_mem _ hc)
    refine Nat.lt_of_lt_of_le this ?_
    rw [List.length_cons, Nat.pow_succ, Nat.mul_comm (10 ^ l.length) 10, ← Nat.mul_assoc]
    exact Nat.mul_le_mul_right _ (by omega)
theorem pNum_lt {t : List Nat} {i n j : Nat} (e : pNum t i = .ok (n, j)) : n < 10000000 := by
  unfold pNum at e
  split at e
  · cases e
  · rename_i h
    cases e
    have e1 : scan dg t i - i = ((t.drop i).takeWhile dg).length := by unfold scan; omega
    have e2 : (t.drop i).take (scan dg t i - i) = (t.drop i).takeWhile dg := by
      rw [e1]; exact (List.prefix_iff_eq_take.mp (List.takeWhile_prefix dg)).symm
    rw [e2]
    have := nmv_fold ((t.drop i).takeWhile dg) 0 fun b hb => List.all_eq_true.mp List.all_takeWhile b hb
    refine Nat.lt_of_lt_of_le this ?_
    have h7 : ((t.drop i).takeWhile dg).length ≤ 7 := by omega
    have := Nat.pow_le_pow_right (show 0 < 10 by decide) h7
    omega
/-- of h: what is new since h0 or never changes, without N -/
def zz (h0 : xH) (N : List Nat) (h : xH) : xH := fun q => if q ∈ N then none else match h0 q with
  | none => h q
  | some c => if immK c.1 = true then h q else none
theorem zz_some {h0 h : xH} {N : List Nat} {q : Nat} {c : xC} (e : zz h0 N h q = some c) : h q = some c ∧ q ∉ N ∧ (h0 q = none ∨ ∃ c0, h0 q = some c0 ∧ immK c0.1 = true) := by
  unfold zz at e
  by_cases hq : q ∈ N
  · rw [if_pos hq] at e; cases e
  · rw [if_neg hq] at e
    cases e0 : h0 q with
    | none => rw [e0] at e; exact ⟨e, hq, Or.inl rfl⟩
    | some c0 =>
      rw [e0] at e
      by_cases hi : immK c0.1 = true
      · have e' : (if immK c0.1 = true then h q else none) = some c := e
        rw [if_pos hi] at e'
        exact ⟨e', hq, Or.inr ⟨c0, rfl, hi⟩⟩
      · have e' : (if immK c0.1 = true then h q else none) = some c := e
        rw [if_neg hi] at e'
        cases e'
theorem zz_new {h0 h : xH} {N : List Nat} {q : Nat} {c : xC} (h1 : h0 q = none) (hN : q ∉ N) (e : h q = some c) : zz h0 N h q = some c := by
  unfold zz; rw [if_neg hN, h1]; exact e
theorem zz_imm {h0 h : xH} {N : List Nat} {q : Nat} {c c0 : xC} (h1 : h0 q = some c0) (hi : immK c0.1 = true) (hN : q ∉ N) (e : h q = some c) : zz h0 N h q = some c := by
  unfold zz; rw [if_neg hN, h1]; show (if immK c0.1 = true then h q else none) = some c; rw [if_pos hi]; exact e
theorem zz_le (h0 : xH) (N : List Nat) (h : xH) : fr [] (zz h0 N h) h := fun q c e _ => (zz_some e).1
theorem zz_step {h0 h h' : xH} {M N N' : List Nat} (f : fr M h h') (hM : ∀ q ∈ M, q ∈ N ∨ ∃ c, h0 q = some c ∧ immK c.1 = false) (hN : ∀ q ∈ N', q ∈ N ∨ h q = none) : fr [] (zz h0 N h) (zz h0 N' h') := by
  intro q c e _
  obtain ⟨h1, h2, h3⟩ := zz_some e
  have e' : h' q = some c := f q c h1 fun z => by
    rcases hM q z with y | ⟨c1, y1, y2⟩
    · exact h2 y
    · rcases h3 with w | ⟨c0, w1, w2⟩
      · rw [w] at y1; cases y1
      · rw [w1] at y1; cases y1; rw [w2] at y2; cases y2
  have hN' : q ∉ N' := fun z => by
    rcases hN q z with y | y
    · exact h2 y
    · rw [h1] at y; cases y
  rcases h3 with w | ⟨c0, w1, w2⟩
  · exact zz_new w hN' e'
  · exact zz_imm w1 w2 hN' e'
theorem zz_in {h0 h1 h : xH} {N : List Nat} {r : Nat} {v0 v1 : List Value} (f : fr [r] h0 h1) (hr0 : h0 r = some (1, v0)) (hr1 : h1 r = some (1, v1)) (hN : ∀ q ∈ N, ∃ c, h1 q = some c ∧ immK c.1 = false) : fr [] (zz h1 [] h) (zz h0 N h) := by
  intro q c e _
  obtain ⟨g1, g2, g3⟩ := zz_some e
  have hqN : q ∉ N := fun z => by
    obtain ⟨c1, y1, y2⟩ := hN q z
    rcases g3 with w | ⟨c0, w1, w2⟩
    · rw [w] at y1; cases y1
    · rw [w1] at y1; cases y1; rw [w2] at y2; cases y2
  cases e0 : h0 q with
  | none => exact zz_new e0 hqN g1
  | some d =>
    by_cases hq : q = r
    · subst hq
      rcases g3 with w | ⟨c0, w1, w2⟩
      · rw [w] at hr1; cases hr1
      · rw [hr1] at w1; cases w1; cases w2
    · have e1 := f.one e0 hq
      rcases g3 with w | ⟨c0, w1, w2⟩
      · rw [w] at e1; cases e1
      · rw [e1] at w1; cases w1
        exact zz_imm e0 w2 hqN g1
theorem ext_kp {z z' : xH} (f : fr [] z z') : kp z z' := f.im fun q hq => by cases hq
theorem isS.ext {B : Nat → Prop} {z z' : xH} {s : Nat} {w : List Nat} (H : isS B z s w) (f : fr [] z z') : isS B z' s w := H.kept (ext_kp f)
theorem isL.ext {D : xD} {z z' : xH} {A e : Nat} {xs : List Nat} (H : isL D z A e xs) (f : fr [] z z') : isL D z' A e xs := H.frm f (ext_kp f) (by simp) (by simp)
/-- a slice or null -/
def opS (B : Nat → Prop) (h : xH) (v : Value) (w : Option (List Nat)) : Prop := match w with
  | none => v = .null
  | some u => ∃ s : Nat, v = .ref s ∧ isS B h s u
theorem opS.ext {B : Nat → Prop} {z z' : xH} {v : Value} {w : Option (List Nat)} (H : opS B z v w) (f : fr [] z z') : opS B z' v w := by
  cases w with
  | none => exact H
  | some u =>
    obtain ⟨s, h1, h2⟩ := H
    exact ⟨s, h1, h2.ext f⟩
/-- a condition -/
def isCn (B : Nat → Prop) (h : xH) (t : List Nat) (x : Nat) (c : CN) : Prop := ∃ nv tv : Value, h x = some (6, [.int (nI c.1), nv, tv, .int (nI c.2.2.2)]) ∧ opS B h nv (if c.1 = 0 ∨ c.1 = 5 then some (sub t c.2.1) else none) ∧ opS B h tv (c.2.2.1.map (sub t)) ∧ c.1 ≤ 5 ∧ c.2.2.2 < 10000000
theorem isCn.ext {B : Nat → Prop} {z z' : xH} {t : List Nat} {x : Nat} {c : CN} (H : isCn B z t x c) (f : fr [] z z') : isCn B z' t x c := by
  obtain ⟨nv, tv, h1, h2, h3, h4⟩ := H
  exact ⟨nv, tv, f _ _ h1 (by simp), h2.ext f, h3.ext f, h4⟩
theorem isCn.ok {B : Nat → Prop} {z : xH} {t : List Nat} {x : Nat} {c : CN} (H : isCn B z t x c) : ∃ ci fs, z x = some (ci, fs) ∧ xok4 ci = true := by
  obtain ⟨nv, tv, h1, -⟩ := H
  exact ⟨6, _, h1, rfl⟩
/-- what a reading of a style stands on: the reader and the text were there before -/
def bas (h0 : xH) (r b : Nat) (t : List Nat) : Prop := (∃ v, h0 r = some (1, v)) ∧ h0 b = some (101, txv t)
theorem isS.zz {B : Nat → Prop} {h0 h : xH} {r s b i : Nat} {t : List Nat} {a : Nat × Nat} {N : List Nat} (b0 : bas h0 r b t) (H : rdr h r b t i (-1)) (hs : h s = some (slc b a)) (hs0 : h0 s = none) (ha : a.1 + a.2 ≤ t.length) (hB : B b) (hN : ∀ q ∈ N, ∀ c, h q = some c → immK c.1 = false) : isS B (zz h0 N h) s (sub t a) := by
  have n1 : s ∉ N := fun z => by have := hN s z _ hs; cases this
  have n2 : b ∉ N := fun z => by have := hN b z _ H.2.1; cases this
  exact isS.of (zz_new hs0 n1 hs) (zz_imm b0.2 rfl n2 H.2.1) ha H.2.2.2.1 H.2.2.2.2 hB
theorem fr_non {h0 h : xH} {M : List Nat} {a : Nat} (f : fr M h0 h) (hM : ∀ q ∈ M, h q ≠ none) (ha : h a = none) : h0 a = none := by
  cases e : h0 a with
  | none => rfl
  | some d =>
    have : a ∉ M := fun z => hM a z ha
    rw [f _ _ e this] at ha; cases ha
set_option maxRecDepth 20000 in
theorem c_Co_init {l : Launch} {D : xD} {h : xH} {x : Nat} {v0 v1 v2 v3 : Value} (hx : h x = some (6, [v0, v1, v2, v3])) : xMet l D 1 y_Co_init [.ref x] h 0 0 (fun o h' => h' = xset h x (6, [.int 0, .null, .null, .int 0]) ∧ o = .inl none) := by
  refine m_Co_init (Nat.le_of_ble_eq_true rfl) fun X hl hD hP hA => ?_
  subst hl hD
  refine xgo [] 40 hA ?_
  refine xp (by first | assumption | exact xset_same _ _ _ | exact xst2 (by first | assumption | exact Ne.symm (by assumption)) (by first | assumption | exact xset_same _ _ _ | exact xst2 (by first | assumption | exact Ne.symm (by assumption)) (by first | assumption | exact xset_same _ _ _ | exact xst2 (by first | assumption | exact Ne.symm (by assumption)) (by first | assumption | exact xset_same _ _ _ | exact xst2 (by first | assumption | exact Ne.symm (by assumption)) (by first | assumption | exact xset_same _ _ _ | exact xst2 (by first | assumption | exact Ne.symm (by assumption)) (by first | assumption | exact xset_same _ _ _ | exact xst2 (by first | assumption | exact Ne.symm (by assumption)) (by first | assumption | exact xset_same _ _ _))))))) rfl rfl ?_ -- 6 f6.0
  refine xp (by first | assumption | exact xset_same _ _ _ | exact xst2 (by first | assumption | exact Ne.symm (by assumption)) (by first | assumption | exact xset_same _ _ _ | exact xst2 (by first | assumption | exact Ne.symm (by assumption)) (by first | assumption | exact xset_same _ _ _ | exact xst2 (by first | assumption | exact Ne.symm (by assumption)) (by first | assumption | exact xset_same _ _ _ | exact xst2 (by first | assumption | exact Ne.symm (by assumption)) (by first | assumption | exact xset_same _ _ _ | exact xst2 (by first | assumption | exact Ne.symm (by assumption)) (by first | assumption | exact xset_same _ _ _ | exact xst2 (by first | assumption | exact Ne.symm (by assumption)) (by first | assumption | exact xset_same _ _ _))))))) rfl rfl ?_ -- 11 f6.1
  refine xp (by first | assumption | exact xset_same _ _ _ | exact xst2 (by first | assumption | exact Ne.symm (by assumption)) (by first | assumption | exact xset_same _ _ _ | exact xst2 (by first | assumption | exact Ne.symm (by assumption)) (by first | assumption | exact xset_same _ _ _ | exact xst2 (by first | assumption | exact Ne.symm (by assumption)) (by first | assumption | exact xset_same _ _ _ | exact xst2 (by first | assumption | exact Ne.symm (by assumption)) (by first | assumption | exact xset_same _ _ _ | exact xst2 (by first | assumption | exact Ne.symm (by assumption)) (by first | assumption | exact xset_same _ _ _ | exact xst2 (by first | assumption | exact Ne.symm (by assumption)) (by first | assumption | exact xset_same _ _ _))))))) rfl rfl ?_ -- 16 f6.2
  refine xp (by first | assumption | exact xset_same _ _ _ | exact xst2 (by first | assumption | exact Ne.symm (by assumption)) (by first | assumption | exact xset_same _ _ _ | exact xst2 (by first | assumption | exact Ne.symm (by assumption)) (by first | assumption | exact xset_same _ _ _ | exact xst2 (by first | assumption | exact Ne.symm (by assumption)) (by first | assumption | exact xset_same _ _ _ | exact xst2 (by first | assumption | exact Ne.symm (by assumption)) (by first | assumption | exact xset_same _ _ _ | exact xst2 (by first | assumption | exact Ne.symm (by assumption)) (by first | assumption | exact xset_same _ _ _ | exact xst2 (by first | assumption | exact Ne.symm (by assumption)) (by first | assumption | exact xset_same _ _ _))))))) rfl rfl ?_ -- 21 f6.3
  exact xP hP ⟨by simp only [xset_set]; rfl, rfl⟩
set_option maxRecDepth 20000 in
theorem c_readBracket {B : Nat → Prop} {l : Launch} {D : xD} {h0 h : xH} {r b i x : Nat} {t : List Nat} (H : rdr h r b t i (-1)) (hx : h x = some (6, [.int 0, .null, .null, .int 0])) (hBb : B b) (b0 : bas h0 r b t) (f0 : fr [r] h0 h) (hx0 : h0 x = none) : xMet l D 8 y_Co_readBracket [.ref x, .ref r] h 4 24 (xRes r b t [x] h (pBr t i) (fun c o h' => o = .inl none ∧ isCn B (zz h0 [] h') t x c)) := by
  have hxr : x ≠ r := xne' hx H.1 (by decide)
  have hxb : b ≠ x := xne' H.2.1 hx (by decide)
  refine m_Co_readBracket (Nat.le_of_ble_eq_true rfl) fun X hl hD hP hA => ?_
  subst hl hD
  refine xgo [45] 60 hA ?_
  refine xcV H.1 (c_nextSign H) (by rfl) (by rfl) (by rfl) (Nat.zero_le _) (Nat.zero_le _) ?_
  rintro o h1 ⟨rfl, rfl⟩
  have hsc := scan_ge bl t i
  have H1 := H.mv (br' := -1) (scan_le H.2.2.1 (p := bl))
  have f1 : fr [r, x] h (xset h r (rdc b (scan bl t i) (-1))) := (fr.refl _ _).put (Or.inl (by simp))
  have x1 := xst2 (c := rdc b (scan bl t i) (-1)) hxr hx
  refine xcV H1.1 (c_readName H1) (by rfl) (by rfl) (by rfl) (by omega) (by omega) ?_
  intro o h2 q
  rcases q.cs with ⟨w, e1, z⟩ | ⟨a, j, e1, H2, f2, s, rfl, hsn, hs2⟩
  · obtain ⟨ex, rfl⟩ := z.hr
    exact xP hP (xRes.er (by rw [pBr, pB_er e1]) (z.tr f1 (fun _ z => absurd z List.not_mem_nil)))
  have hj := pName_adv t _ a j e1
  obtain ⟨n1, n2, n3, n4, -⟩ := pName_sub e1
  have f2' : fr [r, x] h h2 := f1.trans f2 fun q hq => Or.inl (by rw [List.mem_singleton.mp hq]; simp)
  have x2 := f2.nil.one x1 hxr
  have hsx : s ≠ x := xne' hs2 x2 (by decide)
  have hs0 : h0 s = none := fr_non f0 (fun q hq => by rw [List.mem_singleton.mp hq, H.1]; simp) (by
    cases e : h s with
    | none => rfl
    | some d => rw [(fr.set h r _).one e (fun z => by rw [z, H1.1] at hsn; cases hsn)] at hsn; cases hsn)
  refine xp (fs' := [.int 0, .ref s, .null, .int 0]) x2 rfl rfl ?_ -- 10 f6.1
  have H3 : rdr (xset h2 x (6, [.int 0, .ref s, .null, .int 0])) r b t j (-1) := ⟨xst2 (Ne.symm hxr) H2.1, xst2 hxb H2.2.1, H2.2.2⟩
  have f3 : fr [r, x] h (xset h2 x (6, [.int 0, .ref s, .null, .int 0])) := f2'.put (Or.inl (by simp))
  refine xcV H3.1 (c_nextSign H3) (by rfl) (by rfl) (by rfl) (Nat.zero_le _) (Nat.zero_le _) ?_
  rintro o h4 ⟨rfl, rfl⟩
  have hsc2 := scan_ge bl t j
  have H4 := H3.mv (br' := -1) (scan_le H3.2.2.1 (p := bl))
  obtain ⟨h4, hh4⟩ : ∃ h4, h4 = xset (xset h2 x (6, [.int 0, .ref s, .null, .int 0])) r (rdc b (scan bl t j) (-1)) := ⟨_, rfl⟩
  have f4 : fr [r, x] h h4 := by rw [hh4]; exact f3.put (Or.inl (by simp))
  have x4 : h4 x = some (6, [.int 0, .ref s, .null, .int 0]) := by rw [hh4]; exact xst2 hxr (xset_same _ _ _)
  have s4 : h4 s = some (slc b a) := by rw [hh4]; exact xst2 (xne' hs2 H2.1 (by decide)) (xst2 hsx hs2)
  rw [← hh4] at H4
  -- the end
  have tail : ∀ (tx : Option (Nat × Nat)) (tv : Value) (k : Nat) (h6 : xH) (rc rs : Nat), rdr h6 r b t k (-1) → fr [r, x] h h6 → h6 x = some (6, [.int 0, .ref s, tv, .int 0]) → h6 s = some (slc b a) → (∀ h7 : xH, fr [r] h6 h7 → rdr h7 r b t k (-1) ∨ True → opS B (zz h0 [] h6) tv (tx.map (sub t))) → pBr t i = pB (pSig 93 t k) (fun _ m => .ok ((0, a, tx, 0), m)) → 1 ≤ rc → 6 ≤ rs → xG X 45 [(0, .ref x), (1, .ref r)] [] h6 rc rs := by
    intro tx tv k h6 rc rs H6 f6 x6 s6 ht eR hrc hrs
    refine xgo [] 40 hA ?_
    refine xcV H6.1 (c_expectSign H6 (c := 93) rfl (by decide)) (by rfl) (by rfl) (by rfl) (by omega) (by omega) ?_
    intro o h7 q
    rcases q.cs with ⟨w, e2, z⟩ | ⟨y, m, e2, H7, f7, rfl⟩
    · obtain ⟨ex, rfl⟩ := z.hr
      exact xP hP (xRes.er (by rw [eR, pB_er e2]) (z.tr f6 (fun _ z => absurd z List.not_mem_nil)))
    have f7' : fr [r, x] h h7 := f6.trans f7 fun q hq => Or.inl (by rw [List.mem_singleton.mp hq]; simp)
    have zf : fr [] (zz h0 [] h6) (zz h0 [] h7) := zz_step f7.nil (fun q hq => Or.inr (by
      obtain ⟨v, hv⟩ := b0.1
      rw [List.mem_singleton.mp hq]; exact ⟨_, hv, rfl⟩)) (fun q hq => by cases hq)
    refine xP hP (xRes.ok (by rw [eR, pB_ok e2]) H7 f7' ⟨rfl, .ref s, tv, ?_, ?_, (ht h7 f7.nil (Or.inr trivial)).ext zf, Nat.zero_le _, by show 0 < 10000000; decide⟩)
    · exact zz_new hx0 (by simp) (f7.nil.one x6 hxr)
    · exact ⟨s, rfl, (isS.zz b0 H6 s6 hs0 (by omega) hBb (by simp)).ext zf⟩
  have hP' := hP
  refine xb (fun c => ?_) (fun c => ?_)
  · have c1 : ¬ ch t (scan bl t j) = 61 := fun z => c (by rw [z]; rfl)
    rw [← hh4]
    exact tail none .null (scan bl t j) h4 _ _ H4 f4 x4 s4 (fun _ _ _ => rfl) (by rw [pBr, pB_ok e1, if_neg c1]) (by omega) (by omega)
  · have c1 : ch t (scan bl t j) = 61 := (cI_lit (H.2.2.2.2.le _) (by decide)).mp c
    have hlt := ch_lt c1 (by decide)
    have eR : pBr t i = pB (pStr t (scan bl t (scan bl t j + 1))) fun b k => pB (pSig 93 t k) fun _ m => .ok ((0, a, some b, 0), m) := by rw [pBr, pB_ok e1, if_pos c1]
    rw [← hh4]
    refine xg H4.1 (by rfl) ?_ -- 24 f1.1
    refine xp H4.1 rfl rfl ?_ -- 29 f1.1
    rw [nI_1]
    have H5 := H4.mv (br' := -1) (j := scan bl t j + 1) hlt
    refine xcV H5.1 (c_nextSign H5) (by rfl) (by rfl) (by rfl) (Nat.zero_le _) (Nat.zero_le _) ?_
    rintro o h6 ⟨rfl, rfl⟩
    rw [xset_set]
    have H6 := H4.mv (br' := -1) (j := scan bl t (scan bl t j + 1)) (scan_le hlt)
    refine xcV H6.1 (c_readString H6) (by rfl) (by rfl) (by rfl) (by omega) (by omega) ?_
    intro o h7 q
    have f6 : fr [r, x] h (xset h4 r (rdc b (scan bl t (scan bl t j + 1)) (-1))) := f4.put (Or.inl (by simp))
    rcases q.cs with ⟨w, e2, z⟩ | ⟨u, k, e2, H7, f7, s7, rfl, hs7n, hs7⟩
    · obtain ⟨ex, rfl⟩ := z.hr
      exact xP hP (xRes.er (by rw [eR, pB_er e2]) (z.tr f6 (fun _ z => absurd z List.not_mem_nil)))
    have hk := pStr_adv t _ u k e2
    obtain ⟨m1, m2, m3, m4, m5⟩ := pStr_sub e2
    have f7' : fr [r, x] h h7 := f6.trans f7 fun q hq => Or.inl (by rw [List.mem_singleton.mp hq]; simp)
    have x7 := f7.nil.one (xst2 (c := rdc b (scan bl t (scan bl t j + 1)) (-1)) hxr x4) hxr
    have sr : s ≠ r := xne' hs2 H2.1 (by decide)
    have s7' := f7.nil.one (xst2 (c := rdc b (scan bl t (scan bl t j + 1)) (-1)) sr s4) sr
    have hs7x : s7 ≠ x := xne' hs7 x7 (by decide)
    have hs70 : h0 s7 = none := fr_non f0 (fun q hq => by rw [List.mem_singleton.mp hq, H.1]; simp) (fr_non f6 (fun q hq => by
      rcases List.mem_cons.mp hq with rfl | hq
      · rw [H6.1]; simp
      · rw [List.mem_singleton.mp hq, xst2 (c := rdc b (scan bl t (scan bl t j + 1)) (-1)) hxr x4]; simp) hs7n)
    refine xp (fs' := [.int 0, .ref s, .ref s7, .int 0]) x7 rfl rfl ?_ -- 42 f6.2
    have H8 : rdr (xset h7 x (6, [.int 0, .ref s, .ref s7, .int 0])) r b t k (-1) := ⟨xst2 (Ne.symm hxr) H7.1, xst2 hxb H7.2.1, H7.2.2⟩
    refine tail (some u) (.ref s7) k _ _ _ H8 (f7'.put (Or.inl (by simp))) (xset_same _ _ _) (xst2 hsx s7') (fun _ _ _ => ?_) (by rw [eR, pB_ok e2]) (by omega) (by omega)
    exact ⟨s7, rfl, isS.zz b0 H8 (xst2 hs7x hs7) hs70 (by omega) hBb (by simp)⟩
