/-! THE REFERENCE, 14: elements, pieces, entities -/
theorem upP_up {F : SF} {f k v : Nat} (h : f ≠ 2) : ∀ m x, upP (up F f k v) m x = upP F m x
  | 0, _ => rfl
  | m + 1, x => by
    have e : up F f k v 2 (x - 1) = F 2 (x - 1) := by
      unfold up
      rw [if_neg (fun z => h z.1.symm)]
    show upP (up F f k v) m (if x = 0 then 0 else up F f k v 2 (x - 1)) = upP F m (if x = 0 then 0 else F 2 (x - 1))
    rw [e, upP_up h m]
theorem opn_up {F : SF} {f k v x y : Nat} (h : f ≠ 2) : opn (up F f k v) x y ↔ opn F x y := by
  unfold opn
  simp only [upP_up h]
def elM (S : MS) (t : List Nat) (s : SS) (k : Nat) : Prop :=
  ((S.2 12 k = nI (s.F 0 k) ∧ S.2 13 k = nI (s.F 1 k) ∧ S.2 14 k = mI (s.F 2 k) ∧ S.2 15 k = mI (s.F 3 k) ∧ S.2 16 k = nI (s.F 8 k) ∧ S.2 17 k = nI (s.F 4 k)) ∧ (S.2 18 k = nI (s.F 5 k) ∧ S.2 19 k = nI (s.fd k).length ∧ S.2 20 k = nI (s.F 6 k) ∧ S.2 22 k = nI (s.F 13 k) ∧ S.2 24 k = mI (s.F 9 k) ∧ S.2 25 k = bI (s.F 8 k == 0 && s.F 11 k == 0))) ∧
  (¬ opn s.F s.op (k + 1) → S.2 21 k = nI (s.F 12 k) ∧ S.2 23 k = nI (s.F 14 k)) ∧
  ∀ i q, (s.fd k)[i]? = some q → S.2 26 (6 * k + i) = nI q.1.1 ∧ S.2 27 (6 * k + i) = nI q.1.2 ∧ S.2 28 (6 * k + i) = nI q.2.1 ∧ S.2 29 (6 * k + i) = nI q.2.2 ∧ q.1.1 + q.1.2 ≤ t.length ∧ q.2.1 + q.2.2 ≤ t.length
def psM (S : MS) (t : List Nat) (ps : List (Nat × Nat)) : Prop := ∀ i p, ps[i]? = some p → S.2 30 i = nI p.1 ∧ S.2 31 i = nI p.2 ∧ (p.1 + p.2 ≤ t.length ∨ p = (8192, 1) ∨ p = (8193, 1))
def enM (S : MS) (t : List Nat) (en : List PR) : Prop := ∀ i q, en[i]? = some q → S.2 33 i = nI q.1.1 ∧ S.2 34 i = nI q.1.2 ∧ S.2 35 i = nI q.2.1 ∧ S.2 36 i = nI q.2.2 ∧ q.1.1 + q.1.2 ≤ t.length ∧ q.2.1 + q.2.2 ≤ t.length ∧ sub t q.1 ≠ wLt ∧ sub t q.1 ≠ wAmp
def SoR (S : MS) (t : List Nat) (s : SS) (p : Nat) : Prop := tx S 0 t ∧ (S.1 6 = -1 ∧ S.1 38 = nI p ∧ p ≤ t.length) ∧ (S.1 11 = nI s.n ∧ S.1 32 = nI s.ps.length ∧ S.1 37 = nI s.en.length ∧ S.1 39 = nI s.tm ∧ S.1 40 = mI s.tl) ∧ (∀ k, k < s.n → elM S t s k) ∧ psM S t s.ps ∧ enM S t s.en ∧ s.en.length ≤ 40
theorem elM.eq {S S' : MS} {t : List Nat} {s : SS} {k : Nat} (H : elM S t s k) (h : ∀ j i, ((12 ≤ j ∧ j ≤ 25 ∧ i = k) ∨ (26 ≤ j ∧ j ≤ 29 ∧ i < 6 * k + (s.fd k).length ∧ 6 * k ≤ i)) → S'.2 j i = S.2 j i) : elM S' t s k := by
  obtain ⟨⟨⟨a1, a2, a3, a4, a5, a6⟩, b1, b2, b3, b4, b5, b6⟩, c, d⟩ := H
  refine ⟨⟨⟨by rw [h 12 k (by omega)]; exact a1, by rw [h 13 k (by omega)]; exact a2, by rw [h 14 k (by omega)]; exact a3, by rw [h 15 k (by omega)]; exact a4, by rw [h 16 k (by omega)]; exact a5, by rw [h 17 k (by omega)]; exact a6⟩, by rw [h 18 k (by omega)]; exact b1, by rw [h 19 k (by omega)]; exact b2, by rw [h 20 k (by omega)]; exact b3, by rw [h 22 k (by omega)]; exact b4, by rw [h 24 k (by omega)]; exact b5, by rw [h 25 k (by omega)]; exact b6⟩, fun z => by rw [h 21 k (by omega), h 23 k (by omega)]; exact c z, fun i q hq => ?_⟩
  have := (List.getElem?_eq_some_iff.mp hq).1
  rw [h 26 _ (by omega), h 27 _ (by omega), h 28 _ (by omega), h 29 _ (by omega)]
  exact d i q hq
theorem psM.eq {S S' : MS} {t : List Nat} {ps : List (Nat × Nat)} (H : psM S t ps) (h : ∀ j i, 30 ≤ j → j ≤ 31 → i < ps.length → S'.2 j i = S.2 j i) : psM S' t ps := fun i p hp => by
  have := (List.getElem?_eq_some_iff.mp hp).1
  rw [h 30 i (by decide) (by decide) this, h 31 i (by decide) (by decide) this]
  exact H i p hp
theorem enM.eq {S S' : MS} {t : List Nat} {en : List PR} (H : enM S t en) (h : ∀ j i, 33 ≤ j → j ≤ 36 → i < en.length → S'.2 j i = S.2 j i) : enM S' t en := fun i p hp => by
  have := (List.getElem?_eq_some_iff.mp hp).1
  rw [h 33 i (by decide) (by decide) this, h 34 i (by decide) (by decide) this, h 35 i (by decide) (by decide) this, h 36 i (by decide) (by decide) this]
  exact H i p hp
/-- the place goes on -/
theorem SoR.mv {S : MS} {t : List Nat} {s : SS} {p q : Nat} (H : SoR S t s p) (hq : q ≤ t.length) : SoR (s1 S 38 (nI q)) t s q := by
  obtain ⟨h1, h2, h3, h4, h5, h6, h7⟩ := H
  exact ⟨h1.p (by decide) (by decide), ⟨h2.1, s1_eq _ _ _, hq⟩, h3, fun k hk => (h4 k hk).eq (fun _ _ _ => rfl), h5.eq (fun _ _ _ _ _ => rfl), h6.eq (fun _ _ _ _ _ => rfl), h7⟩
abbrev soL : List Nat := [6, 11, 32, 37, 38, 39, 40]
def soP (k _i : Nat) : Prop := 12 ≤ k ∧ k ≤ 36
def soRes (S' : MS) (t : List Nat) (s : SS) (res : Except Nat (SS × Nat)) : Prop := match res with
  | .error w => tx S' 0 t ∧ S'.1 6 = nI w ∧ w ≤ t.length + 9
  | .ok q => SoR S' t q.1 q.2 ∧ q.1.ps.length ≤ s.ps.length + 1
/-- one more piece -/
def pcS (S : MS) (m a n op : Nat) : MS := if n = 0 then S else if op = 0 then s1 (s2 (s2 S 30 m (nI a)) 31 m (nI n)) 32 (nI (m + 1)) else s2 (s1 (s2 (s2 S 30 m (nI a)) 31 m (nI n)) 32 (nI (m + 1))) 25 (op - 1) 0
theorem pcS_gF {S : MS} {m a n op : Nat} : gF [32] (fun k i => ((k = 30 ∨ k = 31) ∧ i = m) ∨ (k = 25 ∧ op ≠ 0 ∧ i = op - 1)) S (pcS S m a n op) := by
  unfold pcS
  by_cases h1 : n = 0
  · rw [if_pos h1]; exact gF.refl _ _ _
  · rw [if_neg h1]
    by_cases h2 : op = 0
    · rw [if_pos h2]
      exact (((gF.refl _ _ _).s (Or.inl ⟨Or.inl rfl, rfl⟩)).s (Or.inl ⟨Or.inr rfl, rfl⟩)).p (by decide)
    · rw [if_neg h2]
      exact ((((gF.refl _ _ _).s (Or.inl ⟨Or.inl rfl, rfl⟩)).s (Or.inl ⟨Or.inr rfl, rfl⟩)).p (by decide)).s (Or.inr ⟨rfl, h2, rfl⟩)
theorem SoR.pc {S : MS} {t : List Nat} {s : SS} {p a n : Nat} (H : SoR S t s p) (hn : a + n ≤ t.length ∨ (a, n) = (8192, 1) ∨ (a, n) = (8193, 1)) : SoR (pcS S s.ps.length a n s.op) t (addP s (a, n)) p ∧ (addP s (a, n)).ps.length ≤ s.ps.length + 1 := by
  by_cases h1 : n = 0
  · have e : addP s (a, n) = s := by unfold addP; rw [if_pos h1]
    have e2 : pcS S s.ps.length a n s.op = S := by unfold pcS; rw [if_pos h1]
    rw [e, e2]
    exact ⟨H, by omega⟩
  · obtain ⟨g1, g2, g3, g4, g5, g6, g7⟩ := H
    have g := pcS_gF (S := S) (m := s.ps.length) (a := a) (n := n) (op := s.op)
    obtain ⟨S', hS'⟩ : ∃ S', S' = pcS S s.ps.length a n s.op := ⟨_, rfl⟩
    rw [← hS'] at g ⊢
    have p30 : S'.2 30 s.ps.length = nI a := by
      rw [hS', pcS, if_neg h1]
      split <;> simp [s1, s2]
    have p31 : S'.2 31 s.ps.length = nI n := by
      rw [hS', pcS, if_neg h1]
      split <;> simp [s1, s2]
    have p32 : S'.1 32 = nI (s.ps.length + 1) := by
      rw [hS', pcS, if_neg h1]
      split <;> simp [s1, s2]
    have p25 : s.op ≠ 0 → S'.2 25 (s.op - 1) = 0 := by
      intro z
      rw [hS', pcS, if_neg h1, if_neg z, s2_eq]
    have hps : psM S' t (s.ps ++ [(a, n)]) := by
      intro i q hq
      rcases snoc_at hq with ⟨y1, y2⟩ | ⟨y1, y2⟩
      · rw [g.2 30 i (by omega), g.2 31 i (by omega)]
        exact g5 i q y2
      · subst y1 y2
        exact ⟨p30, p31, hn⟩
    have he : (addP s (a, n)).n = s.n ∧ (addP s (a, n)).ps = s.ps ++ [(a, n)] ∧ (addP s (a, n)).en = s.en ∧ (addP s (a, n)).tm = s.tm ∧ (addP s (a, n)).tl = s.tl ∧ (addP s (a, n)).op = s.op ∧ (addP s (a, n)).fd = s.fd := by
      unfold addP
      rw [if_neg h1]
      split <;> exact ⟨rfl, rfl, rfl, rfl, rfl, rfl, rfl⟩
    have hF : (addP s (a, n)).F = if s.op = 0 then s.F else up s.F 11 (s.op - 1) 1 := by
      unfold addP
      rw [if_neg h1]
      split <;> rfl
    obtain ⟨e1, e2, e3, e4, e5, e6, e7⟩ := he
    refine ⟨⟨g1.gf g (by decide) (fun i _ _ => by omega), ⟨by rw [g.1 6 (by decide)]; exact g2.1, by rw [g.1 38 (by decide)]; exact g2.2.1, g2.2.2⟩, ⟨by rw [g.1 11 (by decide), e1]; exact g3.1, by rw [p32, e2, List.length_append]; rfl, by rw [g.1 37 (by decide), e3]; exact g3.2.2.1, by rw [g.1 39 (by decide), e4]; exact g3.2.2.2.1, by rw [g.1 40 (by decide), e5]; exact g3.2.2.2.2⟩, fun k hk => ?_, by rw [e2]; exact hps, by rw [e3]; exact g6.eq (fun j i _ _ _ => g.2 j i (by omega)), by rw [e3]; exact g7⟩, by rw [e2, List.length_append]; exact Nat.le_refl _⟩
    rw [e1] at hk
    obtain ⟨⟨a1, b1, b2, b3, b4, b5, b6⟩, c, d⟩ := g4 k hk
    obtain ⟨a1, a2, a3, a4, a5, a6⟩ := a1
    have hG : ∀ f x, f ≠ 11 → (addP s (a, n)).F f x = s.F f x := fun f x hf => by
      rw [hF]
      split
      · rfl
      · unfold up; rw [if_neg (fun z => hf z.1)]
    have hO : opn (addP s (a, n)).F (addP s (a, n)).op (k + 1) ↔ opn s.F s.op (k + 1) := by
      rw [e6, hF]
      split
      · exact Iff.rfl
      · exact opn_up (by decide)
    refine ⟨⟨⟨?_, ?_, ?_, ?_, ?_, ?_⟩, ?_, ?_, ?_, ?_, ?_, ?_⟩, ?_, ?_⟩
    · rw [g.2 12 k (by omega), hG _ _ (by decide)]; exact a1
    · rw [g.2 13 k (by omega), hG _ _ (by decide)]; exact a2
    · rw [g.2 14 k (by omega), hG _ _ (by decide)]; exact a3
    · rw [g.2 15 k (by omega), hG _ _ (by decide)]; exact a4
    · rw [g.2 16 k (by omega), hG _ _ (by decide)]; exact a5
    · rw [g.2 17 k (by omega), hG _ _ (by decide)]; exact a6
    · rw [g.2 18 k (by omega), hG _ _ (by decide)]; exact b1
    · rw [g.2 19 k (by omega), e7]; exact b2
    · rw [g.2 20 k (by omega), hG _ _ (by decide)]; exact b3
    · rw [g.2 22 k (by omega), hG _ _ (by decide)]; exact b4
    · rw [g.2 24 k (by omega), hG _ _ (by decide)]; exact b5
    · rw [hG 8 _ (by decide), hF]
      by_cases z : s.op = 0
      · rw [if_pos z, g.2 25 k (by omega)]; exact b6
      · rw [if_neg z]
        by_cases y : k = s.op - 1
        · subst y
          rw [p25 z]
          unfold up
          rw [if_pos ⟨rfl, rfl⟩]
          simp [bI]
        · rw [g.2 25 k (by omega)]
          unfold up
          rw [if_neg (fun w => y w.2)]
          exact b6
    · rw [hO, g.2 21 k (by omega), g.2 23 k (by omega), hG _ _ (by decide), hG _ _ (by decide)]; exact c
    · rw [e7]
      intro i q hq
      rw [g.2 26 _ (by omega), g.2 27 _ (by omega), g.2 28 _ (by omega), g.2 29 _ (by omega)]
      exact d i q hq
theorem mI_pos {x : Nat} (h : x ≠ 0) (hx : x < 2 ^ 31) : (0 : Int32) ≤ mI x := by
  unfold mI
  rw [if_neg h]
  exact nI_pos' (by omega)
section
variable {l : Launch} {D : xD} {h0 : xH} {M : MA} {S : MS}
set_option maxRecDepth 20000 in
theorem c_piece2 {m a n op : Nat} {av nv : Int32} (ha : av = nI a) (hn : nv = nI n) (hM : mok M) (h32 : S.1 32 = nI m) (hm : m < 20000) (hnl : n < 2 ^ 30) (hop : op ≤ 500) : xMet l D 0 y_Mo_piece [.ref M.1, .int av, .int nv, .int (mI op)] (mH h0 M S) 0 0 (fun o h' => o = .inl none ∧ h' = mH h0 M (pcS S m a n op)) := by
  subst ha hn
  refine m_Mo_piece (Nat.le_of_ble_eq_true rfl) fun X hl hD hP hA => ?_
  subst hl hD
  refine xgo [] 60 hA ?_
  refine xb (fun c => ?_) (fun c => ?_)
  · have c1 : n ≠ 0 := fun z => c (by rw [z]; rfl)
    refine ya (by rfl) ?_
    refine yg (by rfl) ?_
    refine ys (i := m) hM (by rfl) h32 hm ?_
    refine ya (by rfl) ?_
    refine yg (by rfl) ?_
    refine ys (i := m) hM (by rfl) h32 hm ?_
    refine yg (by rfl) ?_
    refine yp (by rfl) ?_
    by_cases z : op = 0
    · subst z
      refine xt (by decide) ?_
      refine xP hP ⟨rfl, ?_⟩
      rw [pcS, if_neg c1, if_pos rfl]
      show mH h0 M (s1 _ 32 (S.1 32 + 1)) = _
      rw [h32, nI_1]
    · refine xf (Int32.not_lt.mpr (mI_pos z (by omega))) ?_
      refine ya (by rfl) ?_
      refine ysz (i := op - 1) hM (by rfl) (by unfold mI; rw [if_neg z]) (by show op - 1 < 1000; omega) (Or.inl rfl) ?_
      refine xP hP ⟨rfl, ?_⟩
      rw [pcS, if_neg c1, if_neg z]
      show mH h0 M (s2 (s1 _ 32 (S.1 32 + 1)) 25 _ _) = _
      rw [h32, nI_1]
  · have c1 : n = 0 := (nI_eq (b := 0) (by omega) (by decide)).mp c
    refine xP hP ⟨rfl, ?_⟩
    rw [pcS, if_pos c1]
def fndE (t : List Nat) (en : List PR) (w : List Nat) : Nat := en.findIdx (fun q => decide (sub t q.1 = w))
set_option maxRecDepth 20000 in
theorem c_entity2 {k : Nat} {kv nv : Int32} {t w : List Nat} {en : List PR} (ek : kv = nI k) (hM : mok M) (T : tx S 0 t) (E : enM S t en) (h37 : S.1 37 = nI en.length) (hn : en.length ≤ 40) (hw : nv = nI w.length) (A : sg S k w) : xMet l D 1 y_Mo_entity [.ref M.1, .int kv, .int nv] (mH h0 M S) 0 0 (fun o h' => h' = mH h0 M S ∧ ((∃ i q, en[i]? = some q ∧ en.find? (fun q => decide (sub t q.1 = w)) = some q ∧ o = .inl (some (.int (nI i)))) ∨ (en.find? (fun q => decide (sub t q.1 = w)) = none ∧ o = .inl (some (.int (-1)))))) := by
  subst hw ek
  refine m_Mo_entity (Nat.le_of_ble_eq_true rfl) fun X hl hD hP hA => ?_
  subst hl hD
  have key : ∀ x : Nat, (x ≤ en.length ∧ en.find? (fun q => decide (sub t q.1 = w)) = (en.drop x).find? (fun q => decide (sub t q.1 = w))) → xG X 2 [(3, .int (nI x)), (0, .ref M.1), (1, .int (nI k)), (2, .int (nI w.length))] [] (mH h0 M S) 0 0 := by
    refine xind _ _ (fun x => en.length - x) (fun x hx ih => ?_)
    obtain ⟨h1, h2⟩ := hx
    refine xgo [2] 60 hA ?_
    refine yg (by rfl) ?_
    rw [h37]
    refine xb (fun c => ?_) (fun c => ?_)
    · have c1 := (nI_leI (a := en.length) (b := x) (by omega) (by omega)).mp c
      refine xP hP ⟨rfl, Or.inr ⟨?_, rfl⟩⟩
      rw [h2, List.drop_eq_nil_of_le c1]; rfl
    · have c1 : x < en.length := Nat.lt_of_not_le fun z => c (nI_le z (by omega))
      have hx := List.getElem?_eq_getElem c1
      obtain ⟨n1, n2, n3, n4, n5, n6, n7⟩ := E x _ hx
      have hd : en.drop x = en[x] :: en.drop (x + 1) := List.drop_eq_getElem_cons c1
      refine yg (by rfl) ?_
      refine ya (by rfl) ?_
      refine yl (i := x) hM (by rfl) rfl (by show x < 40; omega) ?_
      refine ya (by rfl) ?_
      refine yl (i := x) hM (by rfl) rfl (by show x < 40; omega) ?_
      refine yg (by rfl) ?_
      have B : sg S (0 + en[x].1.1) (sub t en[x].1) := T.sg n5
      have e := sub_len n5
      rw [n1, n2, T.1, ← e]
      refine xcV (mH_m _ _ _) (c_sameV (nI_add 0 _) (by show nI 0 + nI k = _; rw [nI_add, Nat.zero_add]) hM B A) (by rfl) (by rfl) (by rfl) (Nat.zero_le _) (Nat.zero_le _) ?_
      rintro o h' ⟨rfl, rfl⟩
      refine xb (fun c => ?_) (fun c => ?_)
      · have n := of_decide_eq_false ((bI_0 _).mp c)
        have q := ih (x + 1) ⟨c1, by rw [h2, hd, List.find?_cons_of_neg (by simpa using n)]⟩ (by omega)
        rw [← nI_1] at q
        exact q
      · have n := of_decide_eq_true ((bI_n0 _).mp c)
        refine xP hP ⟨rfl, Or.inl ⟨x, en[x], hx, ?_, rfl⟩⟩
        rw [h2, hd, List.find?_cons_of_pos (by simpa using n)]
  refine xgo [2] 10 hA ?_
  exact key 0 ⟨Nat.zero_le _, rfl⟩
end
