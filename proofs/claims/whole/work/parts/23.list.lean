/-! CONTRACTS, 4: what never changes; slices; String constants; the JDK's lists -/
theorem xt {a c d : Prop} (h0 : a) (h1 : c) : (a → c) ∧ (¬ a → d) := ⟨fun _ => h1, fun z => absurd h0 z⟩
theorem xf {a c d : Prop} (h0 : ¬ a) (h1 : d) : (a → c) ∧ (¬ a → d) := ⟨fun z => absurd z h0, fun _ => h1⟩
theorem xtn {a c d : Prop} (h0 : ¬ a) (h1 : c) : (¬ a → c) ∧ (a → d) := ⟨fun _ => h1, fun z => absurd z h0⟩
theorem xfn {a c d : Prop} (h0 : a) (h1 : d) : (¬ a → c) ∧ (a → d) := ⟨fun z => absurd h0 z, fun _ => h1⟩
/-- kinds of cells that no reading changes -/
def immK (k : Nat) : Bool := k == 2 || k == 3 || k == 101 || k == 201 || k == 204 || k == 300 || k == 200
/-- what never changes stands in h' as in h -/
def kp (h h' : xH) : Prop := ∀ q c, h q = some c → immK c.1 = true → h' q = some c
theorem kp.refl (h : xH) : kp h h := fun _ _ e _ => e
theorem kp.tr {h h1 h2 : xH} (a : kp h h1) (b : kp h1 h2) : kp h h2 := fun q c e k => b q c (a q c e k) k
theorem kp.put {h h' : xH} (a : kp h h') {q : Nat} {c d : xC} (e : h q = some d) (hd : immK d.1 = false) : kp h (xset h' q c) := fun p x y z => by
  rw [xset_ne]
  · exact a p x y z
  · intro w; subst w; rw [e] at y; cases y; rw [hd] at z; cases z
theorem kp.new {h h' : xH} (a : kp h h') {q : Nat} {c : xC} (e : h q = none) : kp h (xset h' q c) := fun p x y z => by
  rw [xset_ne]
  · exact a p x y z
  · intro w; subst w; rw [e] at y; cases y
theorem fr.im {M : List Nat} {h h' : xH} (a : fr M h h') (hM : ∀ q ∈ M, ∀ c, h q = some c → immK c.1 = false) : kp h h' := fun q c e k => a q c e fun z => by rw [hM q z c e] at k; cases k
theorem fr.im1 {r : Nat} {k : Nat} {v : List Value} {h h' : xH} (a : fr [r] h h') (hr : h r = some (k, v)) (hk : immK k = false) : kp h h' := a.im fun q hq c e => by
  rw [List.mem_singleton.mp hq, hr] at e; cases e; exact hk
/-- s is a slice of the bytes w -/
def isS (B : Nat → Prop) (h : xH) (s : Nat) (w : List Nat) : Prop := ∃ (a f : Nat) (T : List Nat), h s = some (2, [.ref a, .int (nI f), .int (nI w.length)]) ∧ (h a = some (101, txv T) ∨ h a = some (201, txv T)) ∧ f + w.length ≤ T.length ∧ (∀ k, k < w.length → ch T (f + k) = ch w k) ∧ T.length < 2 ^ 20 ∧ bytesOk T ∧ B a
theorem isS.kept {B : Nat → Prop} {h h' : xH} {s : Nat} {w : List Nat} (H : isS B h s w) (k : kp h h') : isS B h' s w := by
  obtain ⟨a, f, T, h1, h2, h3⟩ := H
  refine ⟨a, f, T, k _ _ h1 rfl, ?_, h3⟩
  rcases h2 with z | z
  · exact Or.inl (k _ _ z rfl)
  · exact Or.inr (k _ _ z rfl)
/-- a part of a text -/
def sub (t : List Nat) (a : Nat × Nat) : List Nat := (t.drop a.1).take a.2
theorem sub_len {t : List Nat} {a : Nat × Nat} (h : a.1 + a.2 ≤ t.length) : (sub t a).length = a.2 := by simp [sub]; omega
theorem sub_ch {t : List Nat} {a : Nat × Nat} (h : a.1 + a.2 ≤ t.length) {k : Nat} (hk : k < a.2) : ch (sub t a) k = ch t (a.1 + k) := by
  rw [ch_in (by rw [sub_len h]; exact hk), ch_in (by omega)]
  simp [sub]
theorem isS.of {B : Nat → Prop} {h : xH} {s b : Nat} {a : Nat × Nat} {t : List Nat} (hs : h s = some (slc b a)) (hb : h b = some (101, txv t)) (ha : a.1 + a.2 ≤ t.length) (ht : t.length < 2 ^ 20) (hB : bytesOk t) (hBb : B b) : isS B h s (sub t a) :=
  ⟨b, a.1, t, by rw [sub_len ha]; exact hs, Or.inl hb, by rw [sub_len ha]; exact ha, fun k hk => (sub_ch ha (by rw [sub_len ha] at hk; exact hk)).symm, ht, hB, hBb⟩
theorem ch_ext {v w : List Nat} (hl : v.length = w.length) (h : ∀ k, k < v.length → ch v k = ch w k) : v = w := by
  apply List.ext_getElem hl
  intro k h1 h2
  have := h k h1
  rw [ch_in h1, ch_in h2] at this
  exact this
set_option maxRecDepth 20000 in
theorem c_sameAs {B B' : Nat → Prop} {l : Launch} {D : xD} {s s' : Nat} {w w' : List Nat} {h : xH} (H : isS B h s w) (H' : isS B' h s' w') : xMet l D 0 y_Sl_sameAs [.ref s, .ref s'] h 0 0 (fun o h' => h' = h ∧ o = .inl (some (.int (bI (decide (w = w')))))) := by
  obtain ⟨a, f, T, h1, h2, h3, h4, h5, h6, h7⟩ := H
  obtain ⟨a', f', T', h1', h2', h3', h4', h5', h6', h7'⟩ := H'
  refine m_Sl_sameAs (Nat.le_of_ble_eq_true rfl) fun X hl hD hP hA => ?_
  subst hl hD
  have key : w.length = w'.length → ∀ k : Nat, (k ≤ w.length ∧ ∀ j, j < k → ch w j = ch w' j) → xG X 15 [(2, .int (nI k)), (0, .ref s), (1, .ref s')] [] h 0 0 := by
    intro hl
    refine xind _ _ (fun k => w.length - k) (fun k hk ih => ?_)
    obtain ⟨hk, he⟩ := hk
    refine xgo [15] 40 hA ?_
    refine xg (by first | assumption | exact xset_same _ _ _ | exact xst2 (by first | assumption | exact Ne.symm (by assumption)) (by first | assumption | exact xset_same _ _ _ | exact xst2 (by first | assumption | exact Ne.symm (by assumption)) (by first | assumption | exact xset_same _ _ _ | exact xst2 (by first | assumption | exact Ne.symm (by assumption)) (by first | assumption | exact xset_same _ _ _ | exact xst2 (by first | assumption | exact Ne.symm (by assumption)) (by first | assumption | exact xset_same _ _ _ | exact xst2 (by first | assumption | exact Ne.symm (by assumption)) (by first | assumption | exact xset_same _ _ _ | exact xst2 (by first | assumption | exact Ne.symm (by assumption)) (by first | assumption | exact xset_same _ _ _))))))) (by rfl) ?_
    refine xb (fun c => ?_) (fun c => ?_) -- 20 o_icge 56 23
    · have : k = w.length := Nat.le_antisymm hk ((nI_leI (by omega) (by omega)).mp c)
      subst this
      exact And.intro rfl (xP hP ⟨rfl, by rw [decide_eq_true (ch_ext hl he)]; rfl⟩)
    · have c1 : k < w.length := Nat.lt_of_not_le fun z => c (nI_le z (by omega))
      refine xg (by first | assumption | exact xset_same _ _ _ | exact xst2 (by first | assumption | exact Ne.symm (by assumption)) (by first | assumption | exact xset_same _ _ _ | exact xst2 (by first | assumption | exact Ne.symm (by assumption)) (by first | assumption | exact xset_same _ _ _ | exact xst2 (by first | assumption | exact Ne.symm (by assumption)) (by first | assumption | exact xset_same _ _ _ | exact xst2 (by first | assumption | exact Ne.symm (by assumption)) (by first | assumption | exact xset_same _ _ _ | exact xst2 (by first | assumption | exact Ne.symm (by assumption)) (by first | assumption | exact xset_same _ _ _ | exact xst2 (by first | assumption | exact Ne.symm (by assumption)) (by first | assumption | exact xset_same _ _ _))))))) (by rfl) ?_
      refine xg (by first | assumption | exact xset_same _ _ _ | exact xst2 (by first | assumption | exact Ne.symm (by assumption)) (by first | assumption | exact xset_same _ _ _ | exact xst2 (by first | assumption | exact Ne.symm (by assumption)) (by first | assumption | exact xset_same _ _ _ | exact xst2 (by first | assumption | exact Ne.symm (by assumption)) (by first | assumption | exact xset_same _ _ _ | exact xst2 (by first | assumption | exact Ne.symm (by assumption)) (by first | assumption | exact xset_same _ _ _ | exact xst2 (by first | assumption | exact Ne.symm (by assumption)) (by first | assumption | exact xset_same _ _ _ | exact xst2 (by first | assumption | exact Ne.symm (by assumption)) (by first | assumption | exact xset_same _ _ _))))))) (by rfl) ?_
      refine xld h2 (nI_add f k) (txv_at (by omega)) ?_
      refine xg (by first | assumption | exact xset_same _ _ _ | exact xst2 (by first | assumption | exact Ne.symm (by assumption)) (by first | assumption | exact xset_same _ _ _ | exact xst2 (by first | assumption | exact Ne.symm (by assumption)) (by first | assumption | exact xset_same _ _ _ | exact xst2 (by first | assumption | exact Ne.symm (by assumption)) (by first | assumption | exact xset_same _ _ _ | exact xst2 (by first | assumption | exact Ne.symm (by assumption)) (by first | assumption | exact xset_same _ _ _ | exact xst2 (by first | assumption | exact Ne.symm (by assumption)) (by first | assumption | exact xset_same _ _ _ | exact xst2 (by first | assumption | exact Ne.symm (by assumption)) (by first | assumption | exact xset_same _ _ _))))))) (by rfl) ?_
      refine xg (by first | assumption | exact xset_same _ _ _ | exact xst2 (by first | assumption | exact Ne.symm (by assumption)) (by first | assumption | exact xset_same _ _ _ | exact xst2 (by first | assumption | exact Ne.symm (by assumption)) (by first | assumption | exact xset_same _ _ _ | exact xst2 (by first | assumption | exact Ne.symm (by assumption)) (by first | assumption | exact xset_same _ _ _ | exact xst2 (by first | assumption | exact Ne.symm (by assumption)) (by first | assumption | exact xset_same _ _ _ | exact xst2 (by first | assumption | exact Ne.symm (by assumption)) (by first | assumption | exact xset_same _ _ _ | exact xst2 (by first | assumption | exact Ne.symm (by assumption)) (by first | assumption | exact xset_same _ _ _))))))) (by rfl) ?_
      refine xld h2' (nI_add f' k) (txv_at (by omega)) ?_
      rw [h4 k c1, h4' k (by omega)]
      have b1 := h6.lt (i := f + k) (by omega)
      have b2 := h6'.lt (i := f' + k) (by omega)
      rw [h4 k c1] at b1
      rw [h4' k (by omega)] at b2
      refine xb (fun c => ?_) (fun c => ?_)
      · have q := ih (k + 1) ⟨c1, fun j hj => by
          rcases Nat.lt_succ_iff_lt_or_eq.mp hj with z | z
          · exact he j z
          · rw [z]; exact (sb_inj b1 b2).mp c⟩ (by omega)
        rw [← nI_1] at q
        exact q
      · refine And.intro rfl (xP hP ⟨rfl, ?_⟩)
        rw [decide_eq_false (fun z => c (by rw [z]))]
        rfl
  refine xgo [15] 40 hA ?_
  refine xg (by first | assumption | exact xset_same _ _ _ | exact xst2 (by first | assumption | exact Ne.symm (by assumption)) (by first | assumption | exact xset_same _ _ _ | exact xst2 (by first | assumption | exact Ne.symm (by assumption)) (by first | assumption | exact xset_same _ _ _ | exact xst2 (by first | assumption | exact Ne.symm (by assumption)) (by first | assumption | exact xset_same _ _ _ | exact xst2 (by first | assumption | exact Ne.symm (by assumption)) (by first | assumption | exact xset_same _ _ _ | exact xst2 (by first | assumption | exact Ne.symm (by assumption)) (by first | assumption | exact xset_same _ _ _ | exact xst2 (by first | assumption | exact Ne.symm (by assumption)) (by first | assumption | exact xset_same _ _ _))))))) (by rfl) ?_
  refine xg (by first | assumption | exact xset_same _ _ _ | exact xst2 (by first | assumption | exact Ne.symm (by assumption)) (by first | assumption | exact xset_same _ _ _ | exact xst2 (by first | assumption | exact Ne.symm (by assumption)) (by first | assumption | exact xset_same _ _ _ | exact xst2 (by first | assumption | exact Ne.symm (by assumption)) (by first | assumption | exact xset_same _ _ _ | exact xst2 (by first | assumption | exact Ne.symm (by assumption)) (by first | assumption | exact xset_same _ _ _ | exact xst2 (by first | assumption | exact Ne.symm (by assumption)) (by first | assumption | exact xset_same _ _ _ | exact xst2 (by first | assumption | exact Ne.symm (by assumption)) (by first | assumption | exact xset_same _ _ _))))))) (by rfl) ?_
  refine xb (fun c => ?_) (fun c => ?_)
  · exact key ((nI_eq (by omega) (by omega)).mp c) 0 ⟨Nat.zero_le _, fun j hj => absurd hj (Nat.not_lt_zero _)⟩
  · refine And.intro rfl (xP hP ⟨rfl, ?_⟩)
    rw [decide_eq_false (fun z => c (by rw [z]))]
    rfl
set_option maxRecDepth 20000 in
theorem c_holds {B : Nat → Prop} {l : Launch} {D : xD} {s c0 : Nat} {w : List Nat} {h : xH} (H : isS B h s w) (hc : c0 < 128) : xMet l D 0 y_Sl_holds [.ref s, .int (nI c0)] h 0 0 (fun o h' => h' = h ∧ o = .inl (some (.int (bI (w.contains c0))))) := by
  obtain ⟨a, f, T, h1, h2, h3, h4, h5, h6, h7⟩ := H
  refine m_Sl_holds (Nat.le_of_ble_eq_true rfl) fun X hl hD hP hA => ?_
  subst hl hD
  have key : ∀ k : Nat, (k ≤ w.length ∧ ∀ j, j < k → ch w j ≠ c0) → xG X 2 [(2, .int (nI k)), (0, .ref s), (1, .int (nI c0))] [] h 0 0 := by
    refine xind _ _ (fun k => w.length - k) (fun k hk ih => ?_)
    obtain ⟨hk, he⟩ := hk
    refine xgo [2] 40 hA ?_
    refine xg (by first | assumption | exact xset_same _ _ _ | exact xst2 (by first | assumption | exact Ne.symm (by assumption)) (by first | assumption | exact xset_same _ _ _ | exact xst2 (by first | assumption | exact Ne.symm (by assumption)) (by first | assumption | exact xset_same _ _ _ | exact xst2 (by first | assumption | exact Ne.symm (by assumption)) (by first | assumption | exact xset_same _ _ _ | exact xst2 (by first | assumption | exact Ne.symm (by assumption)) (by first | assumption | exact xset_same _ _ _ | exact xst2 (by first | assumption | exact Ne.symm (by assumption)) (by first | assumption | exact xset_same _ _ _ | exact xst2 (by first | assumption | exact Ne.symm (by assumption)) (by first | assumption | exact xset_same _ _ _))))))) (by rfl) ?_
    refine xb (fun c => ?_) (fun c => ?_)
    · have : k = w.length := Nat.le_antisymm hk ((nI_leI (by omega) (by omega)).mp c)
      subst this
      refine And.intro rfl (xP hP ⟨rfl, ?_⟩)
      have : w.contains c0 = false := by
        rw [← Bool.not_eq_true, List.contains_iff_mem]
        intro z
        obtain ⟨j, hj, e⟩ := List.mem_iff_getElem.mp z
        exact he j hj (by rw [ch_in hj]; exact e)
      rw [this]; rfl
    · have c1 : k < w.length := Nat.lt_of_not_le fun z => c (nI_le z (by omega))
      refine xg (by first | assumption | exact xset_same _ _ _ | exact xst2 (by first | assumption | exact Ne.symm (by assumption)) (by first | assumption | exact xset_same _ _ _ | exact xst2 (by first | assumption | exact Ne.symm (by assumption)) (by first | assumption | exact xset_same _ _ _ | exact xst2 (by first | assumption | exact Ne.symm (by assumption)) (by first | assumption | exact xset_same _ _ _ | exact xst2 (by first | assumption | exact Ne.symm (by assumption)) (by first | assumption | exact xset_same _ _ _ | exact xst2 (by first | assumption | exact Ne.symm (by assumption)) (by first | assumption | exact xset_same _ _ _ | exact xst2 (by first | assumption | exact Ne.symm (by assumption)) (by first | assumption | exact xset_same _ _ _))))))) (by rfl) ?_
      refine xg (by first | assumption | exact xset_same _ _ _ | exact xst2 (by first | assumption | exact Ne.symm (by assumption)) (by first | assumption | exact xset_same _ _ _ | exact xst2 (by first | assumption | exact Ne.symm (by assumption)) (by first | assumption | exact xset_same _ _ _ | exact xst2 (by first | assumption | exact Ne.symm (by assumption)) (by first | assumption | exact xset_same _ _ _ | exact xst2 (by first | assumption | exact Ne.symm (by assumption)) (by first | assumption | exact xset_same _ _ _ | exact xst2 (by first | assumption | exact Ne.symm (by assumption)) (by first | assumption | exact xset_same _ _ _ | exact xst2 (by first | assumption | exact Ne.symm (by assumption)) (by first | assumption | exact xset_same _ _ _))))))) (by rfl) ?_
      refine xld h2 (nI_add f k) (txv_at (by omega)) ?_
      rw [h4 k c1]
      have b1 := h6.lt (i := f + k) (by omega)
      rw [h4 k c1] at b1
      refine xb (fun c => ?_) (fun c => ?_)
      · have q := ih (k + 1) ⟨c1, fun j hj => by
          rcases Nat.lt_succ_iff_lt_or_eq.mp hj with z | z
          · exact he j z
          · rw [z]; exact fun y => c ((sb_lit b1 hc).mpr y)⟩ (by omega)
        rw [← nI_1] at q
        exact q
      · refine And.intro rfl (xP hP ⟨rfl, ?_⟩)
        have : w.contains c0 = true := by
          rw [List.contains_iff_mem, ← (sb_lit b1 hc).mp c, ch_in c1]
          exact List.getElem_mem c1
        rw [this]; rfl
  refine xgo [2] 40 hA ?_
  exact key 0 ⟨Nat.zero_le _, fun j hj => absurd hj (Nat.not_lt_zero _)⟩
/-- what stands ready before the run: the known names, the empty array of lists, String constants -/
def strC (D : xD) (h : xH) (j : Nat) (w : List Nat) : Prop := ∃ a v : Nat, D.sv (1000 + j) = .ref a ∧ h a = some (300, [.ref v]) ∧ h v = some (201, txv w)
def knB : List Nat := [108, 116, 60, 97, 109, 112, 38]
def env (D : xD) (h : xH) : Prop := (∃ kn : Nat, D.sv 0 = .ref kn ∧ h kn = some (201, txv knB)) ∧ (∃ e0 : Nat, D.sv 1 = .ref e0 ∧ h e0 = some (204, [])) ∧ D.sv 2 = .int 1 ∧ (D.sv 3 = .null ∨ ∃ a : Nat, D.sv 3 = .ref a) ∧ (∃ a : Nat, D.sv 2000 = .ref a) ∧
  strC D h 3 [102, 105, 114, 115, 116] ∧ strC D h 4 [108, 97, 115, 116] ∧ strC D h 5 [101, 109, 112, 116, 121] ∧ strC D h 6 [110, 116, 104] ∧ strC D h 7 [110, 111, 116] ∧ strC D h 9 [117, 112]
theorem strC.kept {D : xD} {h h' : xH} {j : Nat} {w : List Nat} (H : strC D h j w) (k : kp h h') : strC D h' j w := by
  obtain ⟨a, v, h1, h2, h3⟩ := H
  exact ⟨a, v, h1, k _ _ h2 rfl, k _ _ h3 rfl⟩
theorem env.kept {D : xD} {h h' : xH} (H : env D h) (k : kp h h') : env D h' := by
  obtain ⟨⟨kn, a1, a2⟩, ⟨e0, b1, b2⟩, c, d, e, f1, f2, f3, f4, f5, f6⟩ := H
  exact ⟨⟨kn, a1, k _ _ a2 rfl⟩, ⟨e0, b1, k _ _ b2 rfl⟩, c, d, e, f1.kept k, f2.kept k, f3.kept k, f4.kept k, f5.kept k, f6.kept k⟩
theorem env.com {D : xD} {h : xH} (H : env D h) : D.sv 2 = .int 1 := H.2.2.1
set_option maxRecDepth 20000 in
theorem c_Sg_coder {l : Launch} {D : xD} {h : xH} {a : Nat} {vs : List Value} (E : env D h) (ha : h a = some (300, vs)) : xMet l D 0 y_Sg_coder [.ref a] h 0 0 (fun o h' => h' = h ∧ o = .inl (some (.int 0))) := by
  refine m_Sg_coder (Nat.le_of_ble_eq_true rfl) fun X hl hD hP hA => ?_
  subst hl hD
  refine xgo [3] 20 hA ?_
  show xG X 3 [(0, .ref a)] [X.D.sv 2] h 0 0
  rw [E.com]
  refine xgo [] 20 hA ?_
  refine xbf (by decide) (by decide) ?_
  exact ⟨vs, ha, And.intro rfl (xP hP ⟨rfl, rfl⟩)⟩
set_option maxRecDepth 20000 in
theorem c_Sg_isLatin1 {l : Launch} {D : xD} {h : xH} {a : Nat} {vs : List Value} (E : env D h) (ha : h a = some (300, vs)) : xMet l D 0 y_Sg_isLatin1 [.ref a] h 0 0 (fun o h' => h' = h ∧ o = .inl (some (.int 1))) := by
  refine m_Sg_isLatin1 (Nat.le_of_ble_eq_true rfl) fun X hl hD hP hA => ?_
  subst hl hD
  refine xgo [3] 20 hA ?_
  show xG X 3 [(0, .ref a)] [X.D.sv 2] h 0 0
  rw [E.com]
  refine xgo [] 20 hA ?_
  refine xbf (by decide) (by decide) ?_
  refine ⟨vs, ha, ?_⟩
  refine xbf (by decide) (by decide) ?_
  exact And.intro rfl (xP hP ⟨rfl, rfl⟩)
set_option maxRecDepth 20000 in
theorem c_Pr_checkIndex {l : Launch} {D : xD} {h : xH} {i n : Nat} {v : Value} (hv : v = .null ∨ ∃ a : Nat, v = .ref a) (hi : i < n) (hn : n < 2 ^ 31) : xMet l D 0 y_Pr_checkIndex [.int (nI i), .int (nI n), v] h 0 0 (fun o h' => h' = h ∧ o = .inl (some (.int (nI i)))) := by
  have body : ∀ v : Value, (lg_sl [.int (nI i), .int (nI n), v]).length ≤ 3 → xMet l D 0 y_Pr_checkIndex [.int (nI i), .int (nI n), v] h 0 0 (fun o h' => h' = h ∧ o = .inl (some (.int (nI i)))) := by
    intro v hav
    refine m_Pr_checkIndex hav fun X hl hD hP hA => ?_
    refine xgo [] 20 hA ?_
    refine xf (nI_pos (n := i) (by omega)) ?_
    refine xt (nI_lt hi hn) ?_
    exact xP hP ⟨rfl, rfl⟩
  rcases hv with rfl | ⟨a, rfl⟩
  · exact body _ (Nat.le_of_ble_eq_true rfl)
  · exact body _ (Nat.le_of_ble_eq_true rfl)
set_option maxRecDepth 20000 in
theorem c_Ob_checkIndex {l : Launch} {D : xD} {h : xH} {i n : Nat} (hi : i < n) (hn : n < 2 ^ 31) : xMet l D 1 y_Ob_checkIndex [.int (nI i), .int (nI n)] h 0 0 (fun o h' => h' = h ∧ o = .inl (some (.int (nI i)))) := by
  refine m_Ob_checkIndex (Nat.le_of_ble_eq_true rfl) fun X hl hD hP hA => ?_
  subst hl hD
  refine xgo [] 20 hA ?_
  refine xcS (c_Pr_checkIndex (Or.inl rfl) hi hn) (by rfl) (by rfl) (by rfl) (Nat.zero_le _) (Nat.zero_le _) ?_
  rintro o h' ⟨rfl, rfl⟩
  exact xP hP ⟨rfl, rfl⟩
set_option maxRecDepth 20000 in
theorem c_Sg_checkIndex {l : Launch} {D : xD} {h : xH} {i n : Nat} (E : env D h) (hi : i < n) (hn : n < 2 ^ 31) : xMet l D 1 y_Sg_checkIndex [.int (nI i), .int (nI n)] h 0 0 (fun o h' => h' = h ∧ o = .inl none) := by
  refine m_Sg_checkIndex (Nat.le_of_ble_eq_true rfl) fun X hl hD hP hA => ?_
  subst hl hD
  refine xgo [5] 20 hA ?_
  show xG X 5 [(0, .int (nI i)), (1, .int (nI n))] [X.D.sv 3, .int (nI n), .int (nI i)] h 0 0
  have hv := E.2.2.2.1
  revert hv
  generalize X.D.sv 3 = v
  intro hv
  rcases hv with rfl | ⟨a, rfl⟩
  · refine xgo [] 20 hA ?_
    refine xcS (c_Pr_checkIndex (Or.inl rfl) hi hn) (by rfl) (by rfl) (by rfl) (Nat.zero_le _) (Nat.zero_le _) ?_
    rintro o h' ⟨rfl, rfl⟩
    exact xP hP ⟨rfl, rfl⟩
  · refine xgo [] 20 hA ?_
    refine xcS (c_Pr_checkIndex (Or.inr ⟨a, rfl⟩) hi hn) (by rfl) (by rfl) (by rfl) (Nat.zero_le _) (Nat.zero_le _) ?_
    rintro o h' ⟨rfl, rfl⟩
    exact xP hP ⟨rfl, rfl⟩
set_option maxRecDepth 20000 in
theorem c_Sg_length {l : Launch} {D : xD} {h : xH} {a v : Nat} {w : List Nat} (E : env D h) (ha : h a = some (300, [.ref v])) (hv : h v = some (201, txv w)) (hw : w.length < 100) : xMet l D 1 y_Sg_length [.ref a] h 0 0 (fun o h' => h' = h ∧ o = .inl (some (.int (nI w.length)))) := by
  refine m_Sg_length (Nat.le_of_ble_eq_true rfl) fun X hl hD hP hA => ?_
  subst hl hD
  refine xgo [] 20 hA ?_
  refine ⟨v, ha, ?_⟩
  refine xln (t := 1) (Or.inr hv) (by decide) ?_
  refine xcV ha (c_Sg_coder E ha) (by rfl) (by rfl) (by rfl) (Nat.zero_le _) (Nat.zero_le _) ?_
  rintro o h' ⟨rfl, rfl⟩
  refine xP hP ⟨rfl, ?_⟩
  rw [txv_len]
  have : ∀ n : Nat, n < 100 → nI n >>> (0 : Int32) = nI n := by decide +kernel
  congr 3
  exact this _ hw
set_option maxRecDepth 20000 in
theorem c_L1_charAt {l : Launch} {D : xD} {h : xH} {v i : Nat} {w : List Nat} (E : env D h) (hv : h v = some (201, txv w)) (hw : w.length < 100) (hb : bytesOk w) (hi : i < w.length) : xMet l D 2 y_L1_charAt [.ref v, .int (nI i)] h 0 0 (fun o h' => h' = h ∧ o = .inl (some (.int (nI (ch w i))))) := by
  refine m_L1_charAt (Nat.le_of_ble_eq_true rfl) fun X hl hD hP hA => ?_
  subst hl hD
  refine xgo [] 20 hA ?_
  refine xln (t := 1) (Or.inr hv) (by decide) ?_
  rw [txv_len]
  refine xcS (c_Sg_checkIndex E hi (by omega)) (by rfl) (by rfl) (by rfl) (Nat.zero_le _) (Nat.zero_le _) ?_
  rintro o h' ⟨rfl, rfl⟩
  refine xld (Or.inr hv) (by rfl) (txv_at hi) ?_
  have f : ∀ b, b < 256 → Value.int (((sb_b b &&& 255).toUInt32 % 65536).toInt32) = Value.int (nI b) ∧ narrow .char (.int (nI b)) = .int (nI b) := by
    intro b hb
    refine ⟨by rw [(sb_byte b hb).1, (sb_byte b hb).2.1], ?_⟩
    exact congrArg Value.int (sb_byte b hb).2.1
  refine And.intro ?_ (xP hP ⟨rfl, ?_⟩)
  · exact (congrArg (narrow .char) (f _ (hb.lt hi)).1).trans ((f _ (hb.lt hi)).2.trans (f _ (hb.lt hi)).1.symm)
  · exact congrArg (fun z => Sum.inl (some z)) (f _ (hb.lt hi)).1
set_option maxRecDepth 20000 in
theorem c_Sg_charAt {l : Launch} {D : xD} {h : xH} {a v i : Nat} {w : List Nat} (E : env D h) (ha : h a = some (300, [.ref v])) (hv : h v = some (201, txv w)) (hw : w.length < 100) (hb : bytesOk w) (hi : i < w.length) : xMet l D 4 y_Sg_charAt [.ref a, .int (nI i)] h 0 0 (fun o h' => h' = h ∧ o = .inl (some (.int (nI (ch w i))))) := by
  refine m_Sg_charAt (Nat.le_of_ble_eq_true rfl) fun X hl hD hP hA => ?_
  subst hl hD
  refine xgo [] 20 hA ?_
  refine xcV ha (c_Sg_isLatin1 E ha) (by rfl) (by rfl) (by rfl) (Nat.zero_le _) (Nat.zero_le _) ?_
  rintro o h' ⟨rfl, rfl⟩
  refine xbf (by decide) (by decide) ?_
  refine ⟨v, ha, ?_⟩
  refine xcS (c_L1_charAt E hv hw hb hi) (by rfl) (by rfl) (by rfl) (Nat.zero_le _) (Nat.zero_le _) ?_
  rintro o h' ⟨rfl, rfl⟩
  refine And.intro ?_ (xP hP ⟨rfl, rfl⟩)
  exact congrArg Value.int (sb_byte _ (hb.lt hi)).2.1
set_option maxRecDepth 20000 in
theorem c_spells {B : Nat → Prop} {l : Launch} {D : xD} {s a j : Nat} {w u : List Nat} {h : xH} (E : env D h) (H : isS B h s w) (U : strC D h j u) (ha : D.sv (1000 + j) = .ref a) (hu : u.length < 100) (hub : ∀ b ∈ u, b < 128) : xMet l D 5 y_Sl_spells [.ref s, .ref a] h 0 0 (fun o h' => h' = h ∧ o = .inl (some (.int (bI (decide (w = u)))))) := by
  obtain ⟨a0, f, T, h1, h2, h3, h4, h5, h6, h7⟩ := H
  obtain ⟨a', v, u1, u2, u3⟩ := U
  have : a' = a := by rw [ha] at u1; cases u1; rfl
  subst this
  have hB : bytesOk u := fun b hb => by have := hub b hb; omega
  refine m_Sl_spells (Nat.le_of_ble_eq_true rfl) fun X hl hD hP hA => ?_
  subst hl hD
  have key : w.length = u.length → ∀ k : Nat, (k ≤ w.length ∧ ∀ j, j < k → ch w j = ch u j) → xG X 15 [(2, .int (nI k)), (0, .ref s), (1, .ref a')] [] h 0 0 := by
    intro hl
    refine xind _ _ (fun k => w.length - k) (fun k hk ih => ?_)
    obtain ⟨hk, he⟩ := hk
    refine xgo [15] 40 hA ?_
    refine xg (by first | assumption | exact xset_same _ _ _ | exact xst2 (by first | assumption | exact Ne.symm (by assumption)) (by first | assumption | exact xset_same _ _ _ | exact xst2 (by first | assumption | exact Ne.symm (by assumption)) (by first | assumption | exact xset_same _ _ _ | exact xst2 (by first | assumption | exact Ne.symm (by assumption)) (by first | assumption | exact xset_same _ _ _ | exact xst2 (by first | assumption | exact Ne.symm (by assumption)) (by first | assumption | exact xset_same _ _ _ | exact xst2 (by first | assumption | exact Ne.symm (by assumption)) (by first | assumption | exact xset_same _ _ _ | exact xst2 (by first | assumption | exact Ne.symm (by assumption)) (by first | assumption | exact xset_same _ _ _))))))) (by rfl) ?_
    refine xb (fun c => ?_) (fun c => ?_)
    · have : k = w.length := Nat.le_antisymm hk ((nI_leI (by omega) (by omega)).mp c)
      subst this
      exact And.intro rfl (xP hP ⟨rfl, by rw [decide_eq_true (ch_ext hl he)]; rfl⟩)
    · have c1 : k < w.length := Nat.lt_of_not_le fun z => c (nI_le z (by omega))
      refine xg (by first | assumption | exact xset_same _ _ _ | exact xst2 (by first | assumption | exact Ne.symm (by assumption)) (by first | assumption | exact xset_same _ _ _ | exact xst2 (by first | assumption | exact Ne.symm (by assumption)) (by first | assumption | exact xset_same _ _ _ | exact xst2 (by first | assumption | exact Ne.symm (by assumption)) (by first | assumption | exact xset_same _ _ _ | exact xst2 (by first | assumption | exact Ne.symm (by assumption)) (by first | assumption | exact xset_same _ _ _ | exact xst2 (by first | assumption | exact Ne.symm (by assumption)) (by first | assumption | exact xset_same _ _ _ | exact xst2 (by first | assumption | exact Ne.symm (by assumption)) (by first | assumption | exact xset_same _ _ _))))))) (by rfl) ?_
      refine xg (by first | assumption | exact xset_same _ _ _ | exact xst2 (by first | assumption | exact Ne.symm (by assumption)) (by first | assumption | exact xset_same _ _ _ | exact xst2 (by first | assumption | exact Ne.symm (by assumption)) (by first | assumption | exact xset_same _ _ _ | exact xst2 (by first | assumption | exact Ne.symm (by assumption)) (by first | assumption | exact xset_same _ _ _ | exact xst2 (by first | assumption | exact Ne.symm (by assumption)) (by first | assumption | exact xset_same _ _ _ | exact xst2 (by first | assumption | exact Ne.symm (by assumption)) (by first | assumption | exact xset_same _ _ _ | exact xst2 (by first | assumption | exact Ne.symm (by assumption)) (by first | assumption | exact xset_same _ _ _))))))) (by rfl) ?_
      refine xld h2 (nI_add f k) (txv_at (by omega)) ?_
      rw [h4 k c1]
      have b1 := h6.lt (i := f + k) (by omega)
      rw [h4 k c1] at b1
      have b2 : ch u k < 128 := by rw [ch_in (by omega)]; exact hub _ (List.getElem_mem _)
      refine xcV u2 (c_Sg_charAt E u2 u3 hu hB (i := k) (by omega)) (by rfl) (by rfl) (by rfl) (Nat.zero_le _) (Nat.zero_le _) ?_
      rintro o h' ⟨rfl, rfl⟩
      refine xb (fun c => ?_) (fun c => ?_)
      · have q := ih (k + 1) ⟨c1, fun j hj => by
          rcases Nat.lt_succ_iff_lt_or_eq.mp hj with z | z
          · exact he j z
          · rw [z]; exact (sb_lit b1 b2).mp c⟩ (by omega)
        rw [← nI_1] at q
        exact q
      · refine And.intro rfl (xP hP ⟨rfl, ?_⟩)
        rw [decide_eq_false (fun z => c (by rw [z]; exact (sb_lit (by omega) b2).mpr rfl))]
        rfl
  refine xgo [15] 40 hA ?_
  refine xg (by first | assumption | exact xset_same _ _ _ | exact xst2 (by first | assumption | exact Ne.symm (by assumption)) (by first | assumption | exact xset_same _ _ _ | exact xst2 (by first | assumption | exact Ne.symm (by assumption)) (by first | assumption | exact xset_same _ _ _ | exact xst2 (by first | assumption | exact Ne.symm (by assumption)) (by first | assumption | exact xset_same _ _ _ | exact xst2 (by first | assumption | exact Ne.symm (by assumption)) (by first | assumption | exact xset_same _ _ _ | exact xst2 (by first | assumption | exact Ne.symm (by assumption)) (by first | assumption | exact xset_same _ _ _ | exact xst2 (by first | assumption | exact Ne.symm (by assumption)) (by first | assumption | exact xset_same _ _ _))))))) (by rfl) ?_
  refine xcV u2 (c_Sg_length E u2 u3 hu) (by rfl) (by rfl) (by rfl) (Nat.zero_le _) (Nat.zero_le _) ?_
  rintro o h' ⟨rfl, rfl⟩
  refine xb (fun c => ?_) (fun c => ?_)
  · exact key ((nI_eq (by omega) (by omega)).mp c) 0 ⟨Nat.zero_le _, fun j hj => absurd hj (Nat.not_lt_zero _)⟩
  · refine And.intro rfl (xP hP ⟨rfl, ?_⟩)
    rw [decide_eq_false (fun z => c (by rw [z]))]
    rfl

/-! the JDK's lists -/
/-- a list at A: its array e of cap places (the shared empty one if cap is 0), the references xs -/
def isLs (D : xD) (h : xH) (A e cap : Nat) (xs : List Nat) : Prop := xs.length ≤ cap ∧ cap < 2 ^ 20 ∧ (∃ m : Int32, h A = some (12, [.int m, .ref e, .int (nI xs.length)])) ∧
  ((cap = 0 ∧ D.sv 1 = .ref e ∧ h e = some (204, [])) ∨ (0 < cap ∧ D.sv 1 ≠ .ref e ∧ h e = some (104, xs.map .ref ++ List.replicate (cap - xs.length) .null)))
set_option maxRecDepth 20000 in
theorem c_AC_init {l : Launch} {D : xD} {h : xH} {a : Nat} : xMet l D 1 y_AC_init [.ref a] h 0 0 (fun o h' => h' = h ∧ o = .inl none) := by
  refine m_AC_init (Nat.le_of_ble_eq_true rfl) fun X hl hD hP hA => ?_
  subst hl hD
  refine xgo [] 20 hA ?_
  exact xP hP ⟨rfl, rfl⟩
set_option maxRecDepth 20000 in
theorem c_AB_init {l : Launch} {D : xD} {h : xH} {a : Nat} {v0 v1 v2 : Value} (ha : h a = some (12, [v0, v1, v2])) : xMet l D 2 y_AB_init [.ref a] h 0 0 (fun o h' => h' = xset h a (12, [.int 0, v1, v2]) ∧ o = .inl none) := by
  refine m_AB_init (Nat.le_of_ble_eq_true rfl) fun X hl hD hP hA => ?_
  subst hl hD
  refine xgo [] 20 hA ?_
  refine xcI c_AC_init (by rfl) (by rfl) (by rfl) (Nat.zero_le _) (Nat.zero_le _) ?_
  rintro o h' ⟨rfl, rfl⟩
  refine xp (by first | assumption | exact xset_same _ _ _ | exact xst2 (by first | assumption | exact Ne.symm (by assumption)) (by first | assumption | exact xset_same _ _ _ | exact xst2 (by first | assumption | exact Ne.symm (by assumption)) (by first | assumption | exact xset_same _ _ _ | exact xst2 (by first | assumption | exact Ne.symm (by assumption)) (by first | assumption | exact xset_same _ _ _ | exact xst2 (by first | assumption | exact Ne.symm (by assumption)) (by first | assumption | exact xset_same _ _ _ | exact xst2 (by first | assumption | exact Ne.symm (by assumption)) (by first | assumption | exact xset_same _ _ _ | exact xst2 (by first | assumption | exact Ne.symm (by assumption)) (by first | assumption | exact xset_same _ _ _))))))) rfl rfl ?_
  exact xP hP ⟨rfl, rfl⟩
set_option maxRecDepth 20000 in
theorem c_AL_init {l : Launch} {D : xD} {h : xH} {a : Nat} {v0 v1 : Value} (E : env D h) (ha : h a = some (12, [v0, v1, .int 0])) : xMet l D 3 y_AL_init [.ref a] h 0 0 (fun o h' => ∃ e, isLs D h' a e 0 [] ∧ h' = xset h a (12, [.int 0, .ref e, .int 0]) ∧ o = .inl none) := by
  obtain ⟨e0, e1, e2⟩ := E.2.1
  refine m_AL_init (Nat.le_of_ble_eq_true rfl) fun X hl hD hP hA => ?_
  subst hl hD
  refine xgo [8] 20 hA ?_
  refine xcI (c_AB_init ha) (by rfl) (by rfl) (by rfl) (Nat.zero_le _) (Nat.zero_le _) ?_
  rintro o h' ⟨rfl, rfl⟩
  show xG X 8 [(0, .ref a)] [X.D.sv 1, .ref a] _ _ _
  rw [e1]
  refine xgo [] 20 hA ?_
  refine xp (by first | assumption | exact xset_same _ _ _ | exact xst2 (by first | assumption | exact Ne.symm (by assumption)) (by first | assumption | exact xset_same _ _ _ | exact xst2 (by first | assumption | exact Ne.symm (by assumption)) (by first | assumption | exact xset_same _ _ _ | exact xst2 (by first | assumption | exact Ne.symm (by assumption)) (by first | assumption | exact xset_same _ _ _ | exact xst2 (by first | assumption | exact Ne.symm (by assumption)) (by first | assumption | exact xset_same _ _ _ | exact xst2 (by first | assumption | exact Ne.symm (by assumption)) (by first | assumption | exact xset_same _ _ _ | exact xst2 (by first | assumption | exact Ne.symm (by assumption)) (by first | assumption | exact xset_same _ _ _))))))) rfl rfl ?_
  have hne : e0 ≠ a := xne' e2 ha (by decide)
  exact xP hP ⟨e0, ⟨Nat.le_refl _, by decide, ⟨0, xset_same _ _ _⟩, Or.inl ⟨rfl, e1, by rw [xset_set]; exact xst2 hne e2⟩⟩, by rw [xset_set]; rfl, rfl⟩
theorem isLs.cell {D : xD} {h : xH} {A e cap : Nat} {xs : List Nat} (H : isLs D h A e cap xs) : ∃ m : Int32, h A = some (12, [.int m, .ref e, .int (nI xs.length)]) := H.2.2.1
set_option maxRecDepth 20000 in
theorem c_AL_size {l : Launch} {D : xD} {h : xH} {A e cap : Nat} {xs : List Nat} (H : isLs D h A e cap xs) : xMet l D 0 y_AL_size [.ref A] h 0 0 (fun o h' => h' = h ∧ o = .inl (some (.int (nI xs.length)))) := by
  obtain ⟨m, hm⟩ := H.cell
  refine m_AL_size (Nat.le_of_ble_eq_true rfl) fun X hl hD hP hA => ?_
  subst hl hD
  refine xgo [] 20 hA ?_
  refine xg (by first | assumption | exact xset_same _ _ _ | exact xst2 (by first | assumption | exact Ne.symm (by assumption)) (by first | assumption | exact xset_same _ _ _ | exact xst2 (by first | assumption | exact Ne.symm (by assumption)) (by first | assumption | exact xset_same _ _ _ | exact xst2 (by first | assumption | exact Ne.symm (by assumption)) (by first | assumption | exact xset_same _ _ _ | exact xst2 (by first | assumption | exact Ne.symm (by assumption)) (by first | assumption | exact xset_same _ _ _ | exact xst2 (by first | assumption | exact Ne.symm (by assumption)) (by first | assumption | exact xset_same _ _ _ | exact xst2 (by first | assumption | exact Ne.symm (by assumption)) (by first | assumption | exact xset_same _ _ _))))))) (by rfl) ?_
  exact xP hP ⟨rfl, rfl⟩
theorem isLs.at {D : xD} {h : xH} {A e cap k : Nat} {xs : List Nat} (H : isLs D h A e cap xs) (hk : k < xs.length) : ∃ vs, h e = some (104, vs) ∧ vs[k]? = some (.ref (xs[k])) := by
  rcases H.2.2.2 with ⟨z, -⟩ | ⟨z, -, q⟩
  · have := H.1; omega
  · refine ⟨_, q, ?_⟩
    rw [List.getElem?_append_left (by simpa using hk)]
    simp [hk]
set_option maxRecDepth 20000 in
theorem c_AL_elementData {l : Launch} {D : xD} {h : xH} {A e cap k : Nat} {xs : List Nat} (H : isLs D h A e cap xs) (hk : k < xs.length) : xMet l D 0 y_AL_elementData [.ref A, .int (nI k)] h 0 0 (fun o h' => h' = h ∧ o = .inl (some (.ref xs[k]))) := by
  obtain ⟨m, hm⟩ := H.cell
  obtain ⟨vs, h1, h2⟩ := H.at hk
  refine m_AL_elementData (Nat.le_of_ble_eq_true rfl) fun X hl hD hP hA => ?_
  subst hl hD
  refine xgo [] 20 hA ?_
  refine xg (by first | assumption | exact xset_same _ _ _ | exact xst2 (by first | assumption | exact Ne.symm (by assumption)) (by first | assumption | exact xset_same _ _ _ | exact xst2 (by first | assumption | exact Ne.symm (by assumption)) (by first | assumption | exact xset_same _ _ _ | exact xst2 (by first | assumption | exact Ne.symm (by assumption)) (by first | assumption | exact xset_same _ _ _ | exact xst2 (by first | assumption | exact Ne.symm (by assumption)) (by first | assumption | exact xset_same _ _ _ | exact xst2 (by first | assumption | exact Ne.symm (by assumption)) (by first | assumption | exact xset_same _ _ _ | exact xst2 (by first | assumption | exact Ne.symm (by assumption)) (by first | assumption | exact xset_same _ _ _))))))) (by rfl) ?_
  refine xld (Or.inl h1) (by rfl) h2 ?_
  exact xP hP ⟨rfl, rfl⟩
set_option maxRecDepth 20000 in
theorem c_AL_get {l : Launch} {D : xD} {h : xH} {A e cap k : Nat} {xs : List Nat} (H : isLs D h A e cap xs) (hk : k < xs.length) : xMet l D 2 y_AL_get [.ref A, .int (nI k)] h 0 0 (fun o h' => h' = h ∧ o = .inl (some (.ref xs[k]))) := by
  obtain ⟨m, hm⟩ := H.cell
  have h1 := H.1
  have h2 := H.2.1
  refine m_AL_get (Nat.le_of_ble_eq_true rfl) fun X hl hD hP hA => ?_
  subst hl hD
  refine xgo [] 20 hA ?_
  refine xg (by first | assumption | exact xset_same _ _ _ | exact xst2 (by first | assumption | exact Ne.symm (by assumption)) (by first | assumption | exact xset_same _ _ _ | exact xst2 (by first | assumption | exact Ne.symm (by assumption)) (by first | assumption | exact xset_same _ _ _ | exact xst2 (by first | assumption | exact Ne.symm (by assumption)) (by first | assumption | exact xset_same _ _ _ | exact xst2 (by first | assumption | exact Ne.symm (by assumption)) (by first | assumption | exact xset_same _ _ _ | exact xst2 (by first | assumption | exact Ne.symm (by assumption)) (by first | assumption | exact xset_same _ _ _ | exact xst2 (by first | assumption | exact Ne.symm (by assumption)) (by first | assumption | exact xset_same _ _ _))))))) (by rfl) ?_
  refine xcS (c_Ob_checkIndex hk (by omega)) (by rfl) (by rfl) (by rfl) (Nat.zero_le _) (Nat.zero_le _) ?_
  rintro o h' ⟨rfl, rfl⟩
  refine xcV hm (c_AL_elementData H hk) (by rfl) (by rfl) (by rfl) (Nat.zero_le _) (Nat.zero_le _) ?_
  rintro o h' ⟨rfl, rfl⟩
  exact xP hP ⟨rfl, rfl⟩
/-- the next capacity -/
def ncap (c : Nat) : Nat := if c = 0 then 10 else c + max 1 (c / 2)
set_option maxRecDepth 20000 in
theorem c_AS_newLength {l : Launch} {D : xD} {h : xH} {c : Nat} (hc : 0 < c) (hc2 : c < 2 ^ 20) : xMet l D 1 y_AS_newLength [.int (nI c), .int 1, .int (nI (c / 2))] h 0 0 (fun o h' => h' = h ∧ o = .inl (some (.int (nI (ncap c))))) := by
  refine m_AS_newLength (Nat.le_of_ble_eq_true rfl) fun X hl hD hP hA => ?_
  subst hl hD
  have e2 : nI c + (if (1 : Int32) < nI (c / 2) then nI (c / 2) else 1) = nI (ncap c) := by
    have z : ((1 : Int32) < nI (c / 2)) ↔ 1 < c / 2 := nI_ltI (a := 1) (by omega) (by omega)
    have y : (if (1 : Int32) < nI (c / 2) then nI (c / 2) else 1) = nI (max 1 (c / 2)) := by
      by_cases q : 1 < c / 2
      · rw [if_pos (z.mpr q), Nat.max_eq_right (by omega)]
      · rw [if_neg (fun y => q (z.mp y)), Nat.max_eq_left (by omega)]; rfl
    rw [y, nI_add, ncap, if_neg (by omega)]
  have hn : 0 < ncap c ∧ ncap c < 2 ^ 21 := by unfold ncap; split <;> omega
  refine xgo [8] 40 hA ?_
  show xG X 8 [(3, .int (nI c + if (1 : Int32) < nI (c / 2) then nI (c / 2) else 1)), (0, .int (nI c)), (1, .int 1), (2, .int (nI (c / 2)))] [] h 0 0
  rw [e2]
  refine xgo [21] 40 hA ?_
  refine xf (by rw [← nI_0]; exact nI_ge hn.1 (by omega)) ?_
  refine xf (by rw [show (2147483639 : Int32) = nI 2147483639 from rfl]; exact nI_nlt (by omega) (by omega)) ?_
  exact xP hP ⟨rfl, rfl⟩

theorem xcpy_grow (vs : List Value) (N : Nat) (h : vs.length ≤ N) : xcpy vs (List.replicate N .null) 0 0 vs.length = vs ++ List.replicate (N - vs.length) .null := by
  apply List.ext_getElem
  · simp [xcpy]; omega
  · intro k h1 h2
    simp [xcpy] at h1
    by_cases hk : k < vs.length
    · simp [xcpy, hk, List.getElem_append_left]
    · simp [xcpy, hk, List.getElem_append_right (Nat.not_lt.mp hk), h1]
set_option maxRecDepth 20000 in
theorem c_Ar_copyOf3 {l : Launch} {D : xD} {h : xH} {a mi N : Nat} {vs : List Value} (E : D.sv 2000 = .ref mi) (ha : h a = some (104, vs)) (hv : ∀ v ∈ vs, v = .null ∨ ∃ (b ci : Nat) (fs : List Value), v = .ref b ∧ h b = some (ci, fs) ∧ xok4 ci = true) (hN : vs.length ≤ N) (hN2 : N < 2 ^ 24) : xMet l D 1 y_Ar_copyOf3 [.ref a, .int (nI N), .ref mi] h 1 N (fun o h' => ∃ e, h e = none ∧ o = .inl (some (.ref e)) ∧ h' = xset h e (104, vs ++ List.replicate (N - vs.length) .null)) := by
  refine m_Ar_copyOf3 (Nat.le_of_ble_eq_true rfl) fun X hl hD hP hA => ?_
  subst hl hD
  refine xgo [3] 40 hA ?_
  show xG X 3 [(0, .ref a), (1, .int (nI N)), (2, .ref mi)] [X.D.sv 2000, .ref mi] h 1 N
  rw [E]
  refine xgo [] 40 hA ?_
  refine xt rfl ?_
  refine xnq (by rfl) hN2 (Nat.le_refl _) (Nat.le_refl _) fun e he => ?_
  have hae : a ≠ e := xnn ha he
  refine xln (t := 4) (Or.inl (by first | assumption | exact xset_same _ _ _ | exact xst2 (by first | assumption | exact Ne.symm (by assumption)) (by first | assumption | exact xset_same _ _ _ | exact xst2 (by first | assumption | exact Ne.symm (by assumption)) (by first | assumption | exact xset_same _ _ _ | exact xst2 (by first | assumption | exact Ne.symm (by assumption)) (by first | assumption | exact xset_same _ _ _ | exact xst2 (by first | assumption | exact Ne.symm (by assumption)) (by first | assumption | exact xset_same _ _ _ | exact xst2 (by first | assumption | exact Ne.symm (by assumption)) (by first | assumption | exact xset_same _ _ _ | exact xst2 (by first | assumption | exact Ne.symm (by assumption)) (by first | assumption | exact xset_same _ _ _)))))))) (by decide) ?_
  have e1 : (if nI N < nI vs.length then nI N else nI vs.length) = nI vs.length := if_neg (nI_nlt hN (by omega))
  refine ⟨vs, List.replicate N .null, 0, 0, vs.length, Or.inl (by first | assumption | exact xset_same _ _ _ | exact xst2 (by first | assumption | exact Ne.symm (by assumption)) (by first | assumption | exact xset_same _ _ _ | exact xst2 (by first | assumption | exact Ne.symm (by assumption)) (by first | assumption | exact xset_same _ _ _ | exact xst2 (by first | assumption | exact Ne.symm (by assumption)) (by first | assumption | exact xset_same _ _ _ | exact xst2 (by first | assumption | exact Ne.symm (by assumption)) (by first | assumption | exact xset_same _ _ _ | exact xst2 (by first | assumption | exact Ne.symm (by assumption)) (by first | assumption | exact xset_same _ _ _ | exact xst2 (by first | assumption | exact Ne.symm (by assumption)) (by first | assumption | exact xset_same _ _ _))))))), (by first | assumption | exact xset_same _ _ _ | exact xst2 (by first | assumption | exact Ne.symm (by assumption)) (by first | assumption | exact xset_same _ _ _ | exact xst2 (by first | assumption | exact Ne.symm (by assumption)) (by first | assumption | exact xset_same _ _ _ | exact xst2 (by first | assumption | exact Ne.symm (by assumption)) (by first | assumption | exact xset_same _ _ _ | exact xst2 (by first | assumption | exact Ne.symm (by assumption)) (by first | assumption | exact xset_same _ _ _ | exact xst2 (by first | assumption | exact Ne.symm (by assumption)) (by first | assumption | exact xset_same _ _ _ | exact xst2 (by first | assumption | exact Ne.symm (by assumption)) (by first | assumption | exact xset_same _ _ _))))))), e1, rfl, rfl, by omega, by simp; omega, ?_, ?_⟩
  · intro v hv1
    rcases hv v hv1 with z | ⟨b, ci, fs, z1, z2, z3⟩
    · exact Or.inl z
    · exact Or.inr ⟨b, ci, fs, z1, xst2 (xnn z2 he) z2, z3⟩
  · exact xP hP ⟨e, he, rfl, by rw [xset_set, xcpy_grow vs N hN]⟩
set_option maxRecDepth 20000 in
theorem c_Ar_copyOf2 {l : Launch} {D : xD} {h : xH} {a N : Nat} {vs : List Value} (E : ∃ mi : Nat, D.sv 2000 = .ref mi) (ha : h a = some (104, vs)) (hv : ∀ v ∈ vs, v = .null ∨ ∃ (b ci : Nat) (fs : List Value), v = .ref b ∧ h b = some (ci, fs) ∧ xok4 ci = true) (hN : vs.length ≤ N) (hN2 : N < 2 ^ 24) : xMet l D 2 y_Ar_copyOf2 [.ref a, .int (nI N)] h 1 N (fun o h' => ∃ e, h e = none ∧ o = .inl (some (.ref e)) ∧ h' = xset h e (104, vs ++ List.replicate (N - vs.length) .null)) := by
  obtain ⟨mi, E⟩ := E
  refine m_Ar_copyOf2 (Nat.le_of_ble_eq_true rfl) fun X hl hD hP hA => ?_
  subst hl hD
  refine xgo [6] 40 hA ?_
  refine ⟨vs, ha, ?_⟩
  show xG X 6 [(0, .ref a), (1, .int (nI N))] [X.D.sv 2000, .int (nI N), .ref a] h 1 N
  rw [E]
  refine xgo [] 40 hA ?_
  refine xcS (c_Ar_copyOf3 E ha hv hN hN2) (by rfl) (by rfl) (by rfl) (Nat.le_refl _) (Nat.le_refl _) ?_
  rintro o h' ⟨e, e1, rfl, e3⟩
  exact xP hP ⟨e, e1, rfl, e3⟩
set_option maxRecDepth 20000 in
theorem c_AL_grow2 {l : Launch} {D : xD} {h : xH} {A e cap : Nat} {xs : List Nat} {m : Int32} (E : env D h) (H : isLs D h A e cap xs) (hm : h A = some (12, [.int m, .ref e, .int (nI xs.length)])) (hf : xs.length = cap) (hc2 : ncap cap < 2 ^ 20) (q3 : ∀ x ∈ xs, ∃ ci fs, h x = some (ci, fs) ∧ xok4 ci = true) : xMet l D 3 y_AL_grow2 [.ref A, .int (nI (cap + 1))] h 1 (ncap cap) (fun o h' => ∃ e', h e' = none ∧ o = .inl (some (.ref e')) ∧ h' = xset (xset h e' (104, xs.map .ref ++ List.replicate (ncap cap - xs.length) .null)) A (12, [.int m, .ref e', .int (nI xs.length)])) := by
  obtain ⟨q1, q2, -, q4⟩ := H
  refine m_AL_grow2 (Nat.le_of_ble_eq_true rfl) fun X hl hD hP hA => ?_
  subst hl hD
  rcases q4 with ⟨z1, z2, z3⟩ | ⟨z1, z2, z3⟩
  · subst z1
    have hx : xs = [] := List.eq_nil_of_length_eq_zero hf
    subst hx
    refine xgo [17] 40 hA ?_
    refine xg (by first | assumption | exact xset_same _ _ _ | exact xst2 (by first | assumption | exact Ne.symm (by assumption)) (by first | assumption | exact xset_same _ _ _ | exact xst2 (by first | assumption | exact Ne.symm (by assumption)) (by first | assumption | exact xset_same _ _ _ | exact xst2 (by first | assumption | exact Ne.symm (by assumption)) (by first | assumption | exact xset_same _ _ _ | exact xst2 (by first | assumption | exact Ne.symm (by assumption)) (by first | assumption | exact xset_same _ _ _ | exact xst2 (by first | assumption | exact Ne.symm (by assumption)) (by first | assumption | exact xset_same _ _ _ | exact xst2 (by first | assumption | exact Ne.symm (by assumption)) (by first | assumption | exact xset_same _ _ _))))))) (by rfl) ?_
    refine xln (t := 4) (Or.inr z3) (by decide) ?_
    refine xf (by decide) ?_
    refine xg (by first | assumption | exact xset_same _ _ _ | exact xst2 (by first | assumption | exact Ne.symm (by assumption)) (by first | assumption | exact xset_same _ _ _ | exact xst2 (by first | assumption | exact Ne.symm (by assumption)) (by first | assumption | exact xset_same _ _ _ | exact xst2 (by first | assumption | exact Ne.symm (by assumption)) (by first | assumption | exact xset_same _ _ _ | exact xst2 (by first | assumption | exact Ne.symm (by assumption)) (by first | assumption | exact xset_same _ _ _ | exact xst2 (by first | assumption | exact Ne.symm (by assumption)) (by first | assumption | exact xset_same _ _ _ | exact xst2 (by first | assumption | exact Ne.symm (by assumption)) (by first | assumption | exact xset_same _ _ _))))))) (by rfl) ?_
    show xG X 17 [(2, .int (nI 0)), (0, .ref A), (1, .int (nI 1))] [X.D.sv 1, .ref e] h 1 (ncap 0)
    rw [z2]
    refine xgo [] 40 hA ?_
    refine xt rfl ?_
    refine xnq (N := 10) (by decide) (by decide) (Nat.le_refl _) (Nat.le_refl _) fun e' he => ?_
    have hAe : A ≠ e' := xnn hm he
    refine xp (by first | assumption | exact xset_same _ _ _ | exact xst2 (by first | assumption | exact Ne.symm (by assumption)) (by first | assumption | exact xset_same _ _ _ | exact xst2 (by first | assumption | exact Ne.symm (by assumption)) (by first | assumption | exact xset_same _ _ _ | exact xst2 (by first | assumption | exact Ne.symm (by assumption)) (by first | assumption | exact xset_same _ _ _ | exact xst2 (by first | assumption | exact Ne.symm (by assumption)) (by first | assumption | exact xset_same _ _ _ | exact xst2 (by first | assumption | exact Ne.symm (by assumption)) (by first | assumption | exact xset_same _ _ _ | exact xst2 (by first | assumption | exact Ne.symm (by assumption)) (by first | assumption | exact xset_same _ _ _))))))) rfl rfl ?_
    exact xP hP ⟨e', he, rfl, rfl⟩
  · have hsh : nI cap >>> ((1 : Int32) &&& 31) = nI (cap / 2) := pk_shrN (by omega) _ 1 (by decide)
    have e1 : nI (cap + 1) - nI cap = 1 := by rw [nI_sub (by omega)]; have : cap + 1 - cap = 1 := by omega
                                              rw [this]; rfl
    have hl : (xs.map Value.ref ++ List.replicate (cap - xs.length) Value.null).length = cap := by simp; omega
    have hL : xs.map Value.ref ++ List.replicate (cap - xs.length) Value.null = xs.map Value.ref := by rw [hf, Nat.sub_self]; simp
    rw [hL] at z3
    have hn : cap ≤ ncap cap := by unfold ncap; split <;> omega
    refine xgo [20] 40 hA ?_
    refine xg (by first | assumption | exact xset_same _ _ _ | exact xst2 (by first | assumption | exact Ne.symm (by assumption)) (by first | assumption | exact xset_same _ _ _ | exact xst2 (by first | assumption | exact Ne.symm (by assumption)) (by first | assumption | exact xset_same _ _ _ | exact xst2 (by first | assumption | exact Ne.symm (by assumption)) (by first | assumption | exact xset_same _ _ _ | exact xst2 (by first | assumption | exact Ne.symm (by assumption)) (by first | assumption | exact xset_same _ _ _ | exact xst2 (by first | assumption | exact Ne.symm (by assumption)) (by first | assumption | exact xset_same _ _ _ | exact xst2 (by first | assumption | exact Ne.symm (by assumption)) (by first | assumption | exact xset_same _ _ _))))))) (by rfl) ?_
    refine xln (t := 4) (Or.inl z3) (by decide) ?_
    rw [List.length_map, hf]
    refine xt (nI_0 ▸ nI_lt z1 (by omega)) ?_
    show xG X 20 [(2, .int (nI cap)), (0, .ref A), (1, .int (nI (cap + 1)))] [] h 1 (ncap cap)
    refine xgo [27] 40 hA ?_
    show xG X 27 [(2, .int (nI cap)), (0, .ref A), (1, .int (nI (cap + 1)))] [.int (nI cap >>> ((1 : Int32) &&& 31)), .int (nI (cap + 1) - nI cap), .int (nI cap)] h 1 (ncap cap)
    rw [hsh, e1]
    refine xgo [] 40 hA ?_
    refine xcS (c_AS_newLength z1 (by omega)) (by rfl) (by rfl) (by rfl) (Nat.zero_le _) (Nat.zero_le _) ?_
    rintro o h' ⟨rfl, rfl⟩
    refine xg (by first | assumption | exact xset_same _ _ _ | exact xst2 (by first | assumption | exact Ne.symm (by assumption)) (by first | assumption | exact xset_same _ _ _ | exact xst2 (by first | assumption | exact Ne.symm (by assumption)) (by first | assumption | exact xset_same _ _ _ | exact xst2 (by first | assumption | exact Ne.symm (by assumption)) (by first | assumption | exact xset_same _ _ _ | exact xst2 (by first | assumption | exact Ne.symm (by assumption)) (by first | assumption | exact xset_same _ _ _ | exact xst2 (by first | assumption | exact Ne.symm (by assumption)) (by first | assumption | exact xset_same _ _ _ | exact xst2 (by first | assumption | exact Ne.symm (by assumption)) (by first | assumption | exact xset_same _ _ _))))))) (by rfl) ?_
    refine xcS (c_Ar_copyOf2 E.2.2.2.2.1 z3 (fun v hv => by
      obtain ⟨x, hx, rfl⟩ := List.mem_map.mp hv
      obtain ⟨ci, fs, y1, y2⟩ := q3 x hx
      exact Or.inr ⟨x, ci, fs, rfl, y1, y2⟩) (N := ncap cap) (by rw [List.length_map]; omega) (by omega)) (by rfl) (by rfl) (by rfl) (Nat.le_refl _) (Nat.le_refl _) ?_
    rintro o h1 ⟨e', he, rfl, rfl⟩
    have hAe : A ≠ e' := xnn hm he
    refine xp (by first | assumption | exact xset_same _ _ _ | exact xst2 (by first | assumption | exact Ne.symm (by assumption)) (by first | assumption | exact xset_same _ _ _ | exact xst2 (by first | assumption | exact Ne.symm (by assumption)) (by first | assumption | exact xset_same _ _ _ | exact xst2 (by first | assumption | exact Ne.symm (by assumption)) (by first | assumption | exact xset_same _ _ _ | exact xst2 (by first | assumption | exact Ne.symm (by assumption)) (by first | assumption | exact xset_same _ _ _ | exact xst2 (by first | assumption | exact Ne.symm (by assumption)) (by first | assumption | exact xset_same _ _ _ | exact xst2 (by first | assumption | exact Ne.symm (by assumption)) (by first | assumption | exact xset_same _ _ _))))))) rfl rfl ?_
    refine xP hP ⟨e', he, rfl, ?_⟩
    rw [List.length_map]
    rfl
set_option maxRecDepth 20000 in
theorem c_AL_grow {l : Launch} {D : xD} {h : xH} {A e cap : Nat} {xs : List Nat} {m : Int32} (E : env D h) (H : isLs D h A e cap xs) (hm : h A = some (12, [.int m, .ref e, .int (nI xs.length)])) (hf : xs.length = cap) (hc2 : ncap cap < 2 ^ 20) (q3 : ∀ x ∈ xs, ∃ ci fs, h x = some (ci, fs) ∧ xok4 ci = true) : xMet l D 4 y_AL_grow [.ref A] h 1 (ncap cap) (fun o h' => ∃ e', h e' = none ∧ o = .inl (some (.ref e')) ∧ h' = xset (xset h e' (104, xs.map .ref ++ List.replicate (ncap cap - xs.length) .null)) A (12, [.int m, .ref e', .int (nI xs.length)])) := by
  refine m_AL_grow (Nat.le_of_ble_eq_true rfl) fun X hl hD hP hA => ?_
  subst hl hD
  refine xgo [] 40 hA ?_
  refine xg (by first | assumption | exact xset_same _ _ _ | exact xst2 (by first | assumption | exact Ne.symm (by assumption)) (by first | assumption | exact xset_same _ _ _ | exact xst2 (by first | assumption | exact Ne.symm (by assumption)) (by first | assumption | exact xset_same _ _ _ | exact xst2 (by first | assumption | exact Ne.symm (by assumption)) (by first | assumption | exact xset_same _ _ _ | exact xst2 (by first | assumption | exact Ne.symm (by assumption)) (by first | assumption | exact xset_same _ _ _ | exact xst2 (by first | assumption | exact Ne.symm (by assumption)) (by first | assumption | exact xset_same _ _ _ | exact xst2 (by first | assumption | exact Ne.symm (by assumption)) (by first | assumption | exact xset_same _ _ _))))))) (by rfl) ?_
  refine xcV hm (c_AL_grow2 E H hm hf hc2 q3) (by rfl) (by rw [← nI_1, hf]; rfl) (by rfl) (Nat.le_refl _) (Nat.le_refl _) ?_
  rintro o h' ⟨e', e1, rfl, e3⟩
  exact xP hP ⟨e', e1, rfl, e3⟩

/-- the array that a list owns -/
def ow (cap e : Nat) : List Nat := if cap = 0 then [] else [e]
theorem ow_pos {cap e : Nat} (h : 0 < cap) : ow cap e = [e] := if_neg (by omega)
theorem ow_0 (e : Nat) : ow 0 e = [] := rfl
/-- capacity, cells and slots of one more -/
def acap (cap n : Nat) : Nat := if n < cap then cap else ncap cap
def amc (cap n : Nat) : Nat := if n < cap then 0 else 1
def ams (cap n : Nat) : Nat := if n < cap then 0 else ncap cap
theorem isLs.ne {D : xD} {h : xH} {A e cap : Nat} {xs : List Nat} (H : isLs D h A e cap xs) : e ≠ A := by
  obtain ⟨m, hm⟩ := H.cell
  rcases H.2.2.2 with ⟨-, -, z⟩ | ⟨-, -, z⟩
  · exact xne' z hm (by decide)
  · exact xne' z hm (by decide)
theorem list_put (xs : List Nat) (x cap : Nat) (h : xs.length < cap) : (xs.map Value.ref ++ List.replicate (cap - xs.length) Value.null).set xs.length (.ref x) = (xs ++ [x]).map Value.ref ++ List.replicate (cap - (xs ++ [x]).length) Value.null := by
  obtain ⟨k, hk⟩ : ∃ k, cap - xs.length = k + 1 := ⟨cap - xs.length - 1, by omega⟩
  have : cap - (xs ++ [x]).length = k := by simp; omega
  rw [this, hk, List.replicate_succ]
  have := List.set_append_right (s := xs.map Value.ref) (t := Value.null :: List.replicate k Value.null) xs.length (.ref x) (by simp)
  rw [this]
  simp
set_option maxRecDepth 20000 in
theorem c_AL_add2 {l : Launch} {D : xD} {h : xH} {A e cap x cx : Nat} {fx : List Value} {xs : List Nat} (E : env D h) (H : isLs D h A e cap xs) (hx : h x = some (cx, fx)) (hok : xok4 cx = true) (q3 : ∀ x ∈ xs, ∃ ci fs, h x = some (ci, fs) ∧ xok4 ci = true) (hc2 : acap cap xs.length < 2 ^ 20) : xMet l D 5 y_AL_add2 [.ref A, .ref x, .ref e, .int (nI xs.length)] h (amc cap xs.length) (ams cap xs.length) (fun o h' => (∃ e', isLs D h' A e' (acap cap xs.length) (xs ++ [x]) ∧ (e' = e ∨ h e' = none)) ∧ fr (A :: ow cap e) h h' ∧ kp h h' ∧ o = .inl none) := by
  have H' := H
  obtain ⟨q1, q2, ⟨m, hm⟩, q4⟩ := H
  have hA : immK 12 = false := rfl
  refine m_AL_add2 (Nat.le_of_ble_eq_true rfl) fun X hl hD hP hA => ?_
  subst hl hD
  have hxA : x ≠ A ∨ x = A := by omega
  by_cases hlt : xs.length < cap
  · have z1 : 0 < cap := by omega
    rw [acap, if_pos hlt] at hc2 hP
    rw [amc, ams, if_pos hlt, if_pos hlt]
    rcases q4 with ⟨z, -⟩ | ⟨-, z2, z3⟩
    · omega
    have hl : (xs.map Value.ref ++ List.replicate (cap - xs.length) Value.null).length = cap := by simp; omega
    have hAe : A ≠ e := xne' hm z3 (by decide)
    refine xgo [11] 40 hA ?_
    refine xln (t := 4) (Or.inl z3) (by decide) ?_
    rw [hl]
    refine xtn (fun z => by have := (nI_eq (a := xs.length) (b := cap) (by omega) (by omega)).mp z; omega) ?_
    show xG X 11 [(0, .ref A), (1, .ref x), (2, .ref e), (3, .int (nI xs.length))] [] h 0 0
    refine xgo [] 40 hA ?_
    refine xsq (by first | assumption | exact xset_same _ _ _ | exact xst2 (by first | assumption | exact Ne.symm (by assumption)) (by first | assumption | exact xset_same _ _ _ | exact xst2 (by first | assumption | exact Ne.symm (by assumption)) (by first | assumption | exact xset_same _ _ _ | exact xst2 (by first | assumption | exact Ne.symm (by assumption)) (by first | assumption | exact xset_same _ _ _ | exact xst2 (by first | assumption | exact Ne.symm (by assumption)) (by first | assumption | exact xset_same _ _ _ | exact xst2 (by first | assumption | exact Ne.symm (by assumption)) (by first | assumption | exact xset_same _ _ _ | exact xst2 (by first | assumption | exact Ne.symm (by assumption)) (by first | assumption | exact xset_same _ _ _))))))) (by rfl) (by omega) hx hok ?_
    refine xp (by first | assumption | exact xset_same _ _ _ | exact xst2 (by first | assumption | exact Ne.symm (by assumption)) (by first | assumption | exact xset_same _ _ _ | exact xst2 (by first | assumption | exact Ne.symm (by assumption)) (by first | assumption | exact xset_same _ _ _ | exact xst2 (by first | assumption | exact Ne.symm (by assumption)) (by first | assumption | exact xset_same _ _ _ | exact xst2 (by first | assumption | exact Ne.symm (by assumption)) (by first | assumption | exact xset_same _ _ _ | exact xst2 (by first | assumption | exact Ne.symm (by assumption)) (by first | assumption | exact xset_same _ _ _ | exact xst2 (by first | assumption | exact Ne.symm (by assumption)) (by first | assumption | exact xset_same _ _ _))))))) rfl rfl ?_
    refine xP hP ⟨⟨e, ⟨by simp; omega, hc2, ⟨m, ?_⟩, Or.inr ⟨z1, z2, ?_⟩⟩, Or.inl rfl⟩, ?_, ?_, rfl⟩
    · rw [xset_same, List.length_append, nI_1]; rfl
    · rw [xset_ne _ _ (Ne.symm hAe), xset_same, list_put _ _ _ hlt]
    · rw [ow_pos z1]
      exact ((fr.refl _ _).put (Or.inl (by simp))).put (Or.inl (by simp))
    · exact ((kp.refl _).put z3 rfl).put hm rfl
  · have hf : xs.length = cap := by omega
    rw [acap, if_neg hlt] at hc2 hP
    rw [amc, ams, if_neg hlt, if_neg hlt]
    have hn : cap < ncap cap := by unfold ncap; split <;> omega
    have go : (∃ t vs, (h e = some (100 + t, vs) ∨ h e = some (200 + t, vs)) ∧ t < 100 ∧ vs.length = cap) := by
      rcases q4 with ⟨z1, z2, z3⟩ | ⟨z1, z2, z3⟩
      · exact ⟨4, _, Or.inr z3, by decide, z1.symm⟩
      · exact ⟨4, _, Or.inl z3, by decide, by simp; omega⟩
    obtain ⟨t, vs, g1, g2, g3⟩ := go
    refine xgo [11] 40 hA ?_
    refine xln g1 g2 ?_
    rw [g3]
    refine xfn (by rw [hf]) ?_
    refine xcV hm (c_AL_grow E H' hm hf hc2 q3) (by rfl) (by rfl) (by rfl) (Nat.le_refl _) (Nat.le_refl _) ?_
    rintro o h1 ⟨e', he, rfl, rfl⟩
    have hAe : A ≠ e' := xnn hm he
    have hxe : x ≠ e' := xnn hx he
    show xG X 11 [(2, .ref e'), (0, .ref A), (1, .ref x), (3, .int (nI xs.length))] [] _ _ _
    have hx1 : ∃ fx', xset (xset h e' (104, xs.map .ref ++ List.replicate (ncap cap - xs.length) .null)) A (12, [.int m, .ref e', .int (nI xs.length)]) x = some (cx, fx') := by
      by_cases z : x = A
      · subst z; rw [hm] at hx; cases hx; exact ⟨_, xset_same _ _ _⟩
      · exact ⟨fx, xst2 z (xst2 hxe hx)⟩
    obtain ⟨fx', hx1⟩ := hx1
    refine xgo [] 40 hA ?_
    refine xsq (vs := xs.map .ref ++ List.replicate (ncap cap - xs.length) .null) (by first | assumption | exact xset_same _ _ _ | exact xst2 (by first | assumption | exact Ne.symm (by assumption)) (by first | assumption | exact xset_same _ _ _ | exact xst2 (by first | assumption | exact Ne.symm (by assumption)) (by first | assumption | exact xset_same _ _ _ | exact xst2 (by first | assumption | exact Ne.symm (by assumption)) (by first | assumption | exact xset_same _ _ _ | exact xst2 (by first | assumption | exact Ne.symm (by assumption)) (by first | assumption | exact xset_same _ _ _ | exact xst2 (by first | assumption | exact Ne.symm (by assumption)) (by first | assumption | exact xset_same _ _ _ | exact xst2 (by first | assumption | exact Ne.symm (by assumption)) (by first | assumption | exact xset_same _ _ _))))))) (by rfl) (by simp; omega) hx1 hok ?_
    refine xp (by first | assumption | exact xset_same _ _ _ | exact xst2 (by first | assumption | exact Ne.symm (by assumption)) (by first | assumption | exact xset_same _ _ _ | exact xst2 (by first | assumption | exact Ne.symm (by assumption)) (by first | assumption | exact xset_same _ _ _ | exact xst2 (by first | assumption | exact Ne.symm (by assumption)) (by first | assumption | exact xset_same _ _ _ | exact xst2 (by first | assumption | exact Ne.symm (by assumption)) (by first | assumption | exact xset_same _ _ _ | exact xst2 (by first | assumption | exact Ne.symm (by assumption)) (by first | assumption | exact xset_same _ _ _ | exact xst2 (by first | assumption | exact Ne.symm (by assumption)) (by first | assumption | exact xset_same _ _ _))))))) rfl rfl ?_
    have D1 : X.D.sv 1 ≠ .ref e' := by
      obtain ⟨e0, y1, y2⟩ := E.2.1
      intro y
      rw [y1] at y
      cases y
      rw [y2] at he
      cases he
    refine xP hP ⟨⟨e', ⟨by simp; omega, hc2, ⟨m, ?_⟩, Or.inr ⟨by omega, D1, ?_⟩⟩, Or.inr he⟩, ?_, ?_, rfl⟩
    · rw [xset_same, List.length_append, nI_1]; rfl
    · rw [xset_ne _ _ (Ne.symm hAe), xset_same, list_put _ _ _ (by omega)]
    · refine ((((fr.refl _ _).put (Or.inr he)).put (Or.inl ?_)).put (Or.inr he)).put (Or.inl ?_)
      · exact List.mem_cons_self
      · exact List.mem_cons_self
    · exact ((((kp.refl _).new he).put hm rfl).new he).put hm rfl
set_option maxRecDepth 20000 in
theorem c_AL_add {l : Launch} {D : xD} {h : xH} {A e cap x cx : Nat} {fx : List Value} {xs : List Nat} (E : env D h) (H : isLs D h A e cap xs) (hx : h x = some (cx, fx)) (hok : xok4 cx = true) (q3 : ∀ x ∈ xs, ∃ ci fs, h x = some (ci, fs) ∧ xok4 ci = true) (hc2 : acap cap xs.length < 2 ^ 20) : xMet l D 6 y_AL_add [.ref A, .ref x] h (amc cap xs.length) (ams cap xs.length) (fun o h' => (∃ e', isLs D h' A e' (acap cap xs.length) (xs ++ [x]) ∧ (e' = e ∨ h e' = none)) ∧ fr (A :: ow cap e) h h' ∧ kp h h' ∧ o = .inl (some (.int 1))) := by
  have H' := H
  have hne := H.ne
  obtain ⟨q1, q2, ⟨m, hm⟩, q4⟩ := H
  refine m_AL_add (Nat.le_of_ble_eq_true rfl) fun X hl hD hP hA => ?_
  subst hl hD
  refine xgo [] 40 hA ?_
  refine xg (by first | assumption | exact xset_same _ _ _ | exact xst2 (by first | assumption | exact Ne.symm (by assumption)) (by first | assumption | exact xset_same _ _ _ | exact xst2 (by first | assumption | exact Ne.symm (by assumption)) (by first | assumption | exact xset_same _ _ _ | exact xst2 (by first | assumption | exact Ne.symm (by assumption)) (by first | assumption | exact xset_same _ _ _ | exact xst2 (by first | assumption | exact Ne.symm (by assumption)) (by first | assumption | exact xset_same _ _ _ | exact xst2 (by first | assumption | exact Ne.symm (by assumption)) (by first | assumption | exact xset_same _ _ _ | exact xst2 (by first | assumption | exact Ne.symm (by assumption)) (by first | assumption | exact xset_same _ _ _))))))) (by rfl) ?_
  refine xp (by first | assumption | exact xset_same _ _ _ | exact xst2 (by first | assumption | exact Ne.symm (by assumption)) (by first | assumption | exact xset_same _ _ _ | exact xst2 (by first | assumption | exact Ne.symm (by assumption)) (by first | assumption | exact xset_same _ _ _ | exact xst2 (by first | assumption | exact Ne.symm (by assumption)) (by first | assumption | exact xset_same _ _ _ | exact xst2 (by first | assumption | exact Ne.symm (by assumption)) (by first | assumption | exact xset_same _ _ _ | exact xst2 (by first | assumption | exact Ne.symm (by assumption)) (by first | assumption | exact xset_same _ _ _ | exact xst2 (by first | assumption | exact Ne.symm (by assumption)) (by first | assumption | exact xset_same _ _ _))))))) rfl rfl ?_
  have kA : kp h (xset h A (12, [.int (m + 1), .ref e, .int (nI xs.length)])) := (kp.refl _).put hm rfl
  have E1 := E.kept kA
  have H1 : isLs X.D (xset h A (12, [.int (m + 1), .ref e, .int (nI xs.length)])) A e cap xs := by
    refine ⟨q1, q2, ⟨m + 1, xset_same _ _ _⟩, ?_⟩
    rcases q4 with ⟨z1, z2, z3⟩ | ⟨z1, z2, z3⟩
    · exact Or.inl ⟨z1, z2, xst2 hne z3⟩
    · exact Or.inr ⟨z1, z2, xst2 hne z3⟩
  have st : ∀ y cy fy, h y = some (cy, fy) → ∃ fy', xset h A (12, [.int (m + 1), .ref e, .int (nI xs.length)]) y = some (cy, fy') := by
    intro y cy fy hy
    by_cases z : y = A
    · subst z; rw [hm] at hy; cases hy; exact ⟨_, xset_same _ _ _⟩
    · exact ⟨fy, xst2 z hy⟩
  obtain ⟨fx', hx'⟩ := st x cx fx hx
  refine xg (by first | assumption | exact xset_same _ _ _ | exact xst2 (by first | assumption | exact Ne.symm (by assumption)) (by first | assumption | exact xset_same _ _ _ | exact xst2 (by first | assumption | exact Ne.symm (by assumption)) (by first | assumption | exact xset_same _ _ _ | exact xst2 (by first | assumption | exact Ne.symm (by assumption)) (by first | assumption | exact xset_same _ _ _ | exact xst2 (by first | assumption | exact Ne.symm (by assumption)) (by first | assumption | exact xset_same _ _ _ | exact xst2 (by first | assumption | exact Ne.symm (by assumption)) (by first | assumption | exact xset_same _ _ _ | exact xst2 (by first | assumption | exact Ne.symm (by assumption)) (by first | assumption | exact xset_same _ _ _))))))) (by rfl) ?_
  refine xg (by first | assumption | exact xset_same _ _ _ | exact xst2 (by first | assumption | exact Ne.symm (by assumption)) (by first | assumption | exact xset_same _ _ _ | exact xst2 (by first | assumption | exact Ne.symm (by assumption)) (by first | assumption | exact xset_same _ _ _ | exact xst2 (by first | assumption | exact Ne.symm (by assumption)) (by first | assumption | exact xset_same _ _ _ | exact xst2 (by first | assumption | exact Ne.symm (by assumption)) (by first | assumption | exact xset_same _ _ _ | exact xst2 (by first | assumption | exact Ne.symm (by assumption)) (by first | assumption | exact xset_same _ _ _ | exact xst2 (by first | assumption | exact Ne.symm (by assumption)) (by first | assumption | exact xset_same _ _ _))))))) (by rfl) ?_
  refine xcV (xset_same _ _ _) (c_AL_add2 E1 H1 hx' hok (fun y hy => by
    obtain ⟨cy, fy, y1, y2⟩ := q3 y hy
    obtain ⟨fy', y3⟩ := st y cy fy y1
    exact ⟨cy, fy', y3, y2⟩) hc2) (by rfl) (by rfl) (by rfl) (Nat.le_refl _) (Nat.le_refl _) ?_
  rintro o h' ⟨⟨e', y1, y2⟩, y3, y4, rfl⟩
  refine And.intro rfl (xP hP ⟨⟨e', y1, ?_⟩, ?_, kA.tr y4, rfl⟩)
  · rcases y2 with z | z
    · exact Or.inl z
    · refine Or.inr ?_
      by_cases w : e' = A
      · subst w; rw [xset_same] at z; cases z
      · rw [xset_ne _ _ w] at z; exact z
  · exact ((fr.refl _ _).put (Or.inl List.mem_cons_self)).tr y3
