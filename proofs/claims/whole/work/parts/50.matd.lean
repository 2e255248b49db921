/-! CONTRACTS, 28: what counts for an element -/
theorem fold_take {α β : Type} (f : β → α → β) (b : β) (l : List α) {k : Nat} (h : k < l.length) : (l.take (k + 1)).foldl f b = f ((l.take k).foldl f b) l[k] := by
  rw [List.take_succ_eq_append_getElem h, List.foldl_append]; rfl
theorem all2.mem2 {α β : Type} {R : α → β → Prop} : ∀ {s : List α} {t : List β}, all2 R s t → ∀ b ∈ t, ∃ a ∈ s, R a b
  | [], [], _, b, hb => by cases hb
  | a :: s, b' :: t, h, b, hb => by
    rcases List.mem_cons.mp hb with rfl | hb
    · exact ⟨a, List.mem_cons_self, h.1⟩
    · obtain ⟨a', h1, h2⟩ := all2.mem2 h.2 b hb
      exact ⟨a', List.mem_cons_of_mem _ h1, h2⟩
theorem wgt_le : ∀ (l : List ST), (∀ s ∈ l, s.2.2.length ≤ 4) → wgt l ≤ 401 * l.length
  | [], _ => Nat.le_refl _
  | s :: l, h => by
    have h1 := wgt_le l fun q hq => h q (List.mem_cons_of_mem _ hq)
    have h2 := h s List.mem_cons_self
    have h3 : wgt (s :: l) = wSt s + wgt l := by simp [wgt]
    have h4 : wSt s ≤ 401 := by unfold wSt; split <;> omega
    rw [List.length_cons]
    omega
theorem isSl.wgt {D : xD} {B : Nat → Prop} {z : xH} {t : List Nat} {x : Nat} {l : List ST} (H : isSl D B z t x l) : wgt l ≤ 3208 := by
  obtain ⟨cl, e, xs, h1, h3, h4, h5, h6⟩ := H
  have := wgt_le l fun s hs => by
    obtain ⟨a, -, q⟩ := h4.mem2 s hs
    obtain ⟨_, _, _, _, _, _, _, _, q5⟩ := q
    exact q5
  omega
/-- weights, one too great; 0 for none -/
def wI (w : Nat) : Int32 := if w = 0 then -1 else nI (w - 1)
theorem wI_le {g w : Nat} (hg : g < 2 ^ 30) (hw : w < 2 ^ 30) : nI g ≤ wI w ↔ g + 1 ≤ w := by
  unfold wI
  by_cases h : w = 0
  · rw [if_pos h]
    constructor
    · intro z
      have : ¬ nI g < (0 : Int32) := nI_neg (by omega)
      exact absurd (Int32.lt_of_le_of_lt z (by decide)) this
    · intro z; omega
  · rw [if_neg h]
    rw [show nI g ≤ nI (w - 1) ↔ g ≤ w - 1 from nI_leI (by omega) (by omega)]
    omega
def wStep (ts ty : List Nat) (S : SS) (e : Nat) (w : Nat) (l : List ST) : Nat := if w < wgt l + 1 ∧ mt ts ty S l e = true then wgt l + 1 else w
def wF (ts ty : List Nat) (S : SS) (e : Nat) (ls : List (List ST)) : Nat := ls.foldl (wStep ts ty S e) 0
theorem wF_le {ts ty : List Nat} {S : SS} {e : Nat} : ∀ (ls : List (List ST)) (w : Nat), (∀ l ∈ ls, wgt l ≤ 3208) → w ≤ 3209 → ls.foldl (wStep ts ty S e) w ≤ 3209
  | [], w, _, h => h
  | l :: ls, w, h, hw => wF_le ls _ (fun q hq => h q (List.mem_cons_of_mem _ hq)) (by
    have := h l List.mem_cons_self
    unfold wStep
    split <;> omega)
def selOk (l : List ST) : Prop := ∀ s ∈ l, s.2.1 ≤ 256
set_option maxRecDepth 20000 in
theorem c_weightFor {B B' : Nat → Prop} {l : Launch} {D : xD} {z h : xH} {ts ty : List Nat} {S : SS} {G : SG} {rc x e t0 : Nat} {R : RU} {vs : List Value} (Z : zE D B z h ts S G rc) (I : isRu D B' z ty x t0 R) (he : e < S.n) (hrc : h rc = some (105, vs)) (hvs : vs.length = 20) (hlk : ∀ l ∈ R.1, selOk l) (hnl : R.1.length ≤ 120) : xMet l D 7 y_Ru_weightFor [.ref x, .ref (G.ad e), .ref rc] h 0 0 (fun o h' => (∃ vs', h' = xset h rc (105, vs') ∧ vs'.length = 20) ∧ o = .inl (some (.int (wI (wF ts ty S e R.1))))) := by
  obtain ⟨l1, e1, l2, e2, x1, x2, i1, i2, i3, i4, i5⟩ := I
  have hle := i4.len
  have hw : ∀ l ∈ R.1, wgt l ≤ 3208 := fun l hl => by
    obtain ⟨a, -, q⟩ := i4.mem2 l hl
    exact q.wgt
  refine m_Ru_weightFor (Nat.le_of_ble_eq_true rfl) fun X hl hD hP hA => ?_
  subst hl hD
  have key : ∀ (n k : Nat) (vs1 : List Value) (ls : xL), k + n = x1.length → vs1.length = 20 → (∀ p ∈ [(4, Value.int (nI k)), (3, .int (wI ((R.1.take k).foldl (wStep ts ty S e) 0))), (0, .ref x), (1, .ref (G.ad e)), (2, .ref rc)], p ∈ ls) → xG X 5 ls [] (xset h rc (105, vs1)) 0 0 := by
    intro n
    induction n with
    | zero =>
      intro k vs1 ls hk hv1 hls
      refine xG.locs ?_ hls
      have hk : k = x1.length := by omega
      have Z1 := Z.put (c := (105, vs1))
      have L1 := i2.ext Z1.1
      obtain ⟨sv, hsl⟩ := L1.cell
      refine xgo [] 60 hA ?_
      refine xg (Z1.1 _ _ i1 (by simp)) (by rfl) ?_
      refine xcV hsl (c_AL_size L1) (by rfl) (by rfl) (by rfl) (Nat.zero_le _) (Nat.zero_le _) ?_
      rintro o h1 ⟨rfl, rfl⟩
      refine xt (by rw [hk]; exact Int32.le_refl _) ?_
      refine xP hP ⟨⟨vs1, rfl, hv1⟩, ?_⟩
      rw [hk, hle, List.take_length]; rfl
    | succ n ih =>
      intro k vs1 ls hk hv1 hls
      refine xG.locs ?_ hls
      have c1 : k < x1.length := by omega
      have Z1 := Z.put (c := (105, vs1))
      have L1 := i2.ext Z1.1
      obtain ⟨sv, hsl⟩ := L1.cell
      have i1' := Z1.1 _ _ i1 (by simp)
      have Sk := i4.at k c1 (by omega)
      have Sk1 := Sk.ext Z1.1
      have hgk := Sk.wgt
      obtain ⟨_, _, _, y1, -⟩ := id Sk1
      have hwk := wF_le (ts := ts) (ty := ty) (S := S) (e := e) (R.1.take k) 0 (fun l hl => hw l (List.mem_of_mem_take hl)) (by omega)
      have hst : (R.1.take (k + 1)).foldl (wStep ts ty S e) 0 = wStep ts ty S e ((R.1.take k).foldl (wStep ts ty S e) 0) (R.1[k]'(by omega)) := fold_take _ _ _ _
      generalize hwv : (R.1.take k).foldl (wStep ts ty S e) 0 = w at hst hwk ⊢
      have nxt : ∀ (v : Int32) (vs2 : List Value) (ls : xL), vs2.length = 20 → v = wI (wStep ts ty S e w (R.1[k]'(by omega))) → (∀ p ∈ [(4, Value.int (nI k + 1)), (3, .int v), (0, .ref x), (1, .ref (G.ad e)), (2, .ref rc)], p ∈ ls) → xG X 5 ls [] (xset h rc (105, vs2)) 0 0 := by
        intro v vs2 ls h1 h2 h3
        refine ih (k + 1) vs2 ls (by omega) h1 ?_
        rw [hst, ← nI_1, ← h2]
        exact h3
      refine xgo [5] 80 hA ?_
      refine xg i1' (by rfl) ?_
      refine xcV hsl (c_AL_size L1) (by rfl) (by rfl) (by rfl) (Nat.zero_le _) (Nat.zero_le _) ?_
      rintro o h1 ⟨rfl, rfl⟩
      refine xf (fun y => by have := (nI_leI (a := x1.length) (b := k) (by omega) (by omega)).mp y; omega) ?_
      refine xg i1' (by rfl) ?_
      refine xcV hsl (c_AL_get L1 c1) (by rfl) (by rfl) (by rfl) (Nat.zero_le _) (Nat.zero_le _) ?_
      rintro o h1 ⟨rfl, rfl⟩
      refine xct y1 rfl ?_
      refine xg y1 (by rfl) ?_
      refine xb (fun c => ?_) (fun c => ?_)
      · have c2 := (wI_le (by omega) (by omega)).mp c
        exact nxt _ vs1 _ hv1 (by unfold wStep; rw [if_neg (fun y => by omega)]) (by simp)
      · have c2 : ¬ wgt (R.1[k]'(by omega)) + 1 ≤ w := fun y => c ((wI_le (g := wgt (R.1[k]'(by omega))) (w := w) (by omega) (by omega)).mpr y)
        refine xcV y1 (c_Se_matches Z1 Sk he (xset_same _ _ _) hv1 (hlk _ (List.getElem_mem _))) (by rfl) (by rfl) (by rfl) (Nat.zero_le _) (Nat.zero_le _) ?_
        rintro o h2 ⟨⟨vs2, rfl, hv2⟩, rfl⟩
        rw [xset_set]
        have y2 := (Sk.ext (Z.put (c := (105, vs2))).1)
        obtain ⟨_, _, _, y3, -⟩ := id y2
        refine xb (fun c3 => ?_) (fun c3 => ?_)
        · exact nxt _ vs2 _ hv2 (by unfold wStep; rw [if_neg (fun y => by rw [(bI_0 _).mp c3] at y; cases y.2)]) (by simp)
        · refine xg y3 (by rfl) ?_
          exact nxt (nI (wgt (R.1[k]'(by omega)))) vs2 _ hv2 (by unfold wStep; rw [if_pos ⟨by omega, (bI_n0 _).mp c3⟩, wI, if_neg (by omega), Nat.add_sub_cancel]) (by simp)
  refine xgo [5] 60 hA ?_
  have := key x1.length 0 vs [(4, .int (nI 0)), (3, .int (-1)), (0, .ref x), (1, .ref (G.ad e)), (2, .ref rc)] (by omega) hvs (by simp [wI])
  rw [xset_self hrc] at this
  exact this
abbrev tst (d : TD) : Bool := d.2.2.2.2.2
def ldB (b : Option (TD × Nat)) (p : TD × Nat) : Bool := match b with
  | none => true
  | some q => tst p.1 || !tst q.1
def ldS (wh : Nat) (b : Option (TD × Nat)) (p : TD × Nat) : Option (TD × Nat) := if p.1.1 = wh ∧ ldB b p = true then some p else b
def ld (wh : Nat) (ps : List (TD × Nat)) : Option (TD × Nat) := ps.foldl (ldS wh) none
def tdO (B : Nat → Prop) (h : xH) (ty : List Nat) (v : Value) (q : Option (TD × Nat)) : Prop := match q with
  | none => v = .null
  | some p => ∃ y : Nat, v = .ref y ∧ isTd B h ty y p.2 p.1
theorem tdO.ext {B : Nat → Prop} {z z' : xH} {ty : List Nat} {v : Value} {q : Option (TD × Nat)} (H : tdO B z ty v q) (f : fr [] z z') : tdO B z' ty v q := by
  cases q with
  | none => exact H
  | some p =>
    obtain ⟨y, h1, h2⟩ := H
    exact ⟨y, h1, h2.ext f⟩
theorem tdO.nr {B : Nat → Prop} {z : xH} {ty : List Nat} {v : Value} {q : Option (TD × Nat)} (H : tdO B z ty v q) : v = .null ∨ ∃ y : Nat, v = .ref y := by
  cases q with
  | none => exact Or.inl H
  | some p =>
    obtain ⟨y, h1, h2⟩ := H
    exact Or.inr ⟨y, h1⟩
set_option maxRecDepth 20000 in
theorem c_leading {B : Nat → Prop} {l : Launch} {D : xD} {z h : xH} {ty : List Nat} {x t0 wh : Nat} {wv : Int32} {R : RU} (I : isRu D B z ty x t0 R) (f : fr [] z h) (hw : ∀ d ∈ R.2, nI d.1 = wv ↔ d.1 = wh) (hnl : R.2.length ≤ 600) : xMet l D 3 y_Ru_leading [.ref x, .int wv] h 0 0 (fun o h' => h' = h ∧ ∃ v, o = .inl (some v) ∧ tdO B z ty v (ld wh (R.2.zipIdx t0))) := by
  obtain ⟨l1, e1, l2, e2, x1, x2, i1, i2, i3, i4, i5⟩ := I
  have hle := i5.len
  replace i1 := f _ _ i1 (by simp)
  replace i3 := i3.ext f
  have hzl : (R.2.zipIdx t0).length = R.2.length := List.length_zipIdx
  obtain ⟨sv, hsl⟩ := i3.cell
  refine m_Ru_leading (Nat.le_of_ble_eq_true rfl) fun X hl hD hP hA => ?_
  subst hl hD
  have key : ∀ (n k : Nat) (v : Value) (ls : xL), k + n = x2.length → tdO B z ty v (((R.2.zipIdx t0).take k).foldl (ldS wh) none) → (∀ p ∈ [(3, Value.int (nI k)), (2, v), (0, .ref x), (1, .int wv)], p ∈ ls) → xG X 4 ls [] h 0 0 := by
    intro n
    induction n with
    | zero =>
      intro k v ls hk hT hls
      refine xG.locs ?_ hls
      have hk : k = x2.length := by omega
      have fin : X.P (.inl (some v)) h := xP hP ⟨rfl, v, rfl, by
        rw [hk, hle, List.take_length] at hT; exact hT⟩
      rcases hT.nr with rfl | ⟨y, rfl⟩
      · refine xgo [] 60 hA ?_
        refine xg i1 (by rfl) ?_
        refine xcV hsl (c_AL_size i3) (by rfl) (by rfl) (by rfl) (Nat.zero_le _) (Nat.zero_le _) ?_
        rintro o h1 ⟨rfl, rfl⟩
        exact xt (by rw [hk]; exact Int32.le_refl _) fin
      · refine xgo [] 60 hA ?_
        refine xg i1 (by rfl) ?_
        refine xcV hsl (c_AL_size i3) (by rfl) (by rfl) (by rfl) (Nat.zero_le _) (Nat.zero_le _) ?_
        rintro o h1 ⟨rfl, rfl⟩
        exact xt (by rw [hk]; exact Int32.le_refl _) fin
    | succ n ih =>
      intro k v ls hk hT hls
      refine xG.locs ?_ hls
      have c1 : k < x2.length := by omega
      have Tk := i5.at k c1 (by omega)
      obtain ⟨tv, y1, -⟩ := id (Tk.ext f)
      have hst : ((R.2.zipIdx t0).take (k + 1)).foldl (ldS wh) none = ldS wh (((R.2.zipIdx t0).take k).foldl (ldS wh) none) ((R.2.zipIdx t0)[k]'(by omega)) := fold_take _ _ _ _
      have hmem : ((R.2.zipIdx t0)[k]'(by omega)).1 ∈ R.2 := by
        rw [List.getElem_zipIdx]; exact List.getElem_mem _
      generalize hpk : (R.2.zipIdx t0)[k]'(by omega) = pk at hst hmem Tk y1
      have hwk := hw _ hmem
      generalize hbv : ((R.2.zipIdx t0).take k).foldl (ldS wh) none = bq at hst hT
      have nxt : ∀ (v' : Value) (ls : xL), tdO B z ty v' (ldS wh bq pk) → (∀ p ∈ [(3, Value.int (nI k + 1)), (2, v'), (0, .ref x), (1, .int wv)], p ∈ ls) → xG X 4 ls [] h 0 0 := by
        intro v' ls h1 h2
        refine ih (k + 1) v' ls (by omega) (by rw [hst]; exact h1) ?_
        rw [← nI_1]; exact h2
      cases bq with
      | none =>
        have hT : v = .null := hT
        subst hT
        refine xgo [4] 80 hA ?_
        refine xg i1 (by rfl) ?_
        refine xcV hsl (c_AL_size i3) (by rfl) (by rfl) (by rfl) (Nat.zero_le _) (Nat.zero_le _) ?_
        rintro o h1 ⟨rfl, rfl⟩
        refine xf (fun y => by have := (nI_leI (a := x2.length) (b := k) (by omega) (by omega)).mp y; omega) ?_
        refine xg i1 (by rfl) ?_
        refine xcV hsl (c_AL_get i3 c1) (by rfl) (by rfl) (by rfl) (Nat.zero_le _) (Nat.zero_le _) ?_
        rintro o h1 ⟨rfl, rfl⟩
        refine xct y1 rfl ?_
        refine xg y1 (by rfl) ?_
        refine xb (fun c => ?_) (fun c => ?_)
        · exact nxt .null _ (by unfold ldS; rw [if_neg (fun y => c (hwk.mpr y.1))]; rfl) (by simp)
        · exact nxt (.ref x2[k]) _ (by unfold ldS; rw [if_pos ⟨hwk.mp c, rfl⟩]; exact ⟨_, rfl, Tk⟩) (by simp)
      | some q =>
        obtain ⟨yb, rfl, Tb⟩ := hT
        obtain ⟨tvb, yb1, -⟩ := id (Tb.ext f)
        refine xgo [4] 80 hA ?_
        refine xg i1 (by rfl) ?_
        refine xcV hsl (c_AL_size i3) (by rfl) (by rfl) (by rfl) (Nat.zero_le _) (Nat.zero_le _) ?_
        rintro o h1 ⟨rfl, rfl⟩
        refine xf (fun y => by have := (nI_leI (a := x2.length) (b := k) (by omega) (by omega)).mp y; omega) ?_
        refine xg i1 (by rfl) ?_
        refine xcV hsl (c_AL_get i3 c1) (by rfl) (by rfl) (by rfl) (Nat.zero_le _) (Nat.zero_le _) ?_
        rintro o h1 ⟨rfl, rfl⟩
        refine xct y1 rfl ?_
        refine xg y1 (by rfl) ?_
        refine xb (fun c => ?_) (fun c => ?_)
        · exact nxt (.ref yb) _ (by unfold ldS; rw [if_neg (fun y => c (hwk.mpr y.1))]; exact ⟨_, rfl, Tb⟩) (by simp)
        · have c1 := hwk.mp c
          refine xg y1 (by rfl) ?_
          refine xb (fun c2 => ?_) (fun c2 => ?_)
          · exact nxt (.ref x2[k]) _ (by unfold ldS ldB; rw [if_pos ⟨c1, by show (tst pk.1 || !tst q.1) = true; rw [show tst pk.1 = true from (bI_n0 _).mp c2]; rfl⟩]; exact ⟨_, rfl, Tk⟩) (by simp)
          · refine xg yb1 (by rfl) ?_
            have c3 : tst pk.1 = false := (bI_0 _).mp c2
            refine xb (fun c4 => ?_) (fun c4 => ?_)
            · exact nxt (.ref yb) _ (by unfold ldS ldB; rw [if_neg (fun y => by
                have y2 : (tst pk.1 || !tst q.1) = true := y.2
                rw [c3, show tst q.1 = true from (bI_n0 _).mp c4] at y2; cases y2)]; exact ⟨_, rfl, Tb⟩) (by simp)
            · exact nxt (.ref x2[k]) _ (by unfold ldS ldB; rw [if_pos ⟨c1, by show (tst pk.1 || !tst q.1) = true; rw [show tst q.1 = false from (bI_0 _).mp c4, Bool.not_false, Bool.or_true]⟩]; exact ⟨_, rfl, Tk⟩) (by simp)
  refine xgo [4] 60 hA ?_
  exact key x2.length 0 .null [(3, .int (nI 0)), (2, .null), (0, .ref x), (1, .int wv)] (by omega) rfl (by simp)
