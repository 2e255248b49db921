/-! THE REFERENCE, 3: words, the tape, names, strings -/
def pkR : List Nat → Nat
  | [] => 0
  | b :: l => pkR l * 256 + b
def pkN (w : List Nat) : Nat := pkR w.reverse
theorem pkN_snoc (w : List Nat) (b : Nat) : pkN (w ++ [b]) = pkN w * 256 + b := by unfold pkN; rw [List.reverse_append]; rfl
theorem pkR_inj : ∀ (l m : List Nat), (∀ b ∈ l, 0 < b ∧ b < 256) → (∀ b ∈ m, 0 < b ∧ b < 256) → pkR l = pkR m → l = m
  | [], [], _, _, _ => rfl
  | [], c :: m, _, h, e => by
    have := h c List.mem_cons_self
    have e : 0 = pkR m * 256 + c := e
    omega
  | b :: l, [], h, _, e => by
    have := h b List.mem_cons_self
    have e : pkR l * 256 + b = 0 := e
    omega
  | b :: l, c :: m, h1, h2, e => by
    have a1 := h1 b List.mem_cons_self
    have a2 := h2 c List.mem_cons_self
    have e : pkR l * 256 + b = pkR m * 256 + c := e
    have e1 : b = c := by omega
    have e2 : pkR l = pkR m := by omega
    rw [e1, pkR_inj l m (fun x hx => h1 x (List.mem_cons_of_mem _ hx)) (fun x hx => h2 x (List.mem_cons_of_mem _ hx)) e2]
theorem pkN_inj {w u : List Nat} (h1 : ∀ b ∈ w, 0 < b ∧ b < 256) (h2 : ∀ b ∈ u, 0 < b ∧ b < 256) (e : pkN w = pkN u) : w = u := by
  have := pkR_inj w.reverse u.reverse (fun b hb => h1 b (List.mem_reverse.mp hb)) (fun b hb => h2 b (List.mem_reverse.mp hb)) e
  exact List.reverse_inj.mp this
theorem pkR_lt : ∀ (l : List Nat), (∀ b ∈ l, b < 256) → pkR l < 256 ^ l.length
  | [], _ => by show 0 < 256 ^ 0; decide
  | b :: l, h => by
    have h1 := pkR_lt l fun x hx => h x (List.mem_cons_of_mem _ hx)
    have h2 := h b List.mem_cons_self
    show pkR l * 256 + b < 256 ^ (l.length + 1)
    rw [Nat.pow_succ]
    omega
theorem pkN_lt {w : List Nat} (h : bytesOk w) (hl : w.length ≤ 7) : pkN w < 2 ^ 56 := by
  have := pkR_lt w.reverse fun b hb => h b (List.mem_reverse.mp hb)
  rw [List.length_reverse] at this
  refine Nat.lt_of_lt_of_le this ?_
  exact Nat.le_trans (Nat.pow_le_pow_right (show 0 < 256 by decide) hl) (by decide)
theorem lN_sh {v b : Nat} (hv : v < 2 ^ 48) (hb : b < 256) : (lN v) <<< ((8 : Int32).toInt64 &&& 63) ||| (nI b).toInt64 = lN (v * 256 + b) := by
  rw [nI_l (by omega)]
  apply Int64.toBitVec_inj.mp
  apply BitVec.eq_of_toNat_eq
  rw [Int64.toBitVec_or, BitVec.toNat_or]
  have e1 : ((lN v) <<< ((8 : Int32).toInt64 &&& 63)).toBitVec.toNat = v * 256 := by
    show (BitVec.ofNat 64 v <<< 8).toNat = v * 256
    rw [BitVec.toNat_shiftLeft, BitVec.toNat_ofNat, Nat.mod_eq_of_lt (by omega), Nat.shiftLeft_eq, Nat.mod_eq_of_lt (by omega)]
  have e2 : (lN b).toBitVec.toNat = b := by
    show (BitVec.ofNat 64 b).toNat = b
    rw [BitVec.toNat_ofNat, Nat.mod_eq_of_lt (by omega)]
  have e3 : (lN (v * 256 + b)).toBitVec.toNat = v * 256 + b := by
    show (BitVec.ofNat 64 (v * 256 + b)).toNat = _
    rw [BitVec.toNat_ofNat, Nat.mod_eq_of_lt (by omega)]
  rw [e1, e2, e3]
  have := Nat.shiftLeft_add_eq_or_of_lt (i := 8) (b := b) (show b < 2 ^ 8 by omega) v
  rw [Nat.shiftLeft_eq] at this
  exact this.symm
section
variable {l : Launch} {D : xD} {h0 : xH} {M : MA} {S : MS}
set_option maxRecDepth 20000 in
theorem c_Mo_isWord {a : Nat} {w u : List Nat} {wd : Int64} (hM : mok M) (A : sg S a w) (hu : wd = lN (pkN u)) (hul : u.length ≤ 7) (hub : ∀ b ∈ u, 0 < b ∧ b < 256) (hwb : ∀ b ∈ w, 0 < b ∧ b < 256) (hwl : w.length ≤ 20000) : xMet l D 0 y_Mo_isWord [.ref M.1, .int (nI a), .int (nI w.length), .long wd] (mH h0 M S) 0 0 (fun o h' => h' = mH h0 M S ∧ o = .inl (some (.int (bI (decide (w = u)))))) := by
  obtain ⟨a1, a2, a3⟩ := A
  refine m_Mo_isWord (Nat.le_of_ble_eq_true rfl) fun X hl hD hP hA => ?_
  subst hl hD
  have fin : ∀ (v' : Int32) (q' : Bool), decide (w = u) = q' → v' = bI q' → narrow .boolean (.int v') = .int v' ∧ X.P (.inl (some (.int v'))) (mH h0 M S) := by
    intro v' q' e1 e2
    subst e2
    exact ⟨bI_nar q', xP hP ⟨rfl, by rw [e1]⟩⟩
  by_cases hl : w.length ≤ 7
  · have key : ∀ k : Nat, (k ≤ w.length) → xG X 14 [(7, .int (nI k)), (5, .long (lN (pkN (w.take k)))), (0, .ref M.1), (1, .int (nI a)), (2, .int (nI w.length)), (3, .long wd)] [] (mH h0 M S) 0 0 := by
      refine xind _ _ (fun k => w.length - k) (fun k hk ih => ?_)
      refine xgo [14] 40 hA ?_
      refine xb (fun c => ?_) (fun c => ?_)
      · have e : k = w.length := Nat.le_antisymm hk ((nI_leI (by omega) (by omega)).mp c)
        rw [e, List.take_length, hu]
        refine xb (fun c2 => ?_) (fun c2 => ?_)
        · exact fin 0 false (decide_eq_false fun z => c2 (by rw [z]; exact (lg_cmp_eq _ _).mpr rfl)) rfl
        · have := (lg_cmp_eq _ _).mp c2
          have h1 := pkN_lt a3 hl
          have h2 := pkN_lt (fun b hb => (hub b hb).2) hul
          exact fin 1 true (decide_eq_true (pkN_inj hwb hub ((pk_lEQ (by omega) (by omega)).mp this))) rfl
      · have c1 : k < w.length := Nat.lt_of_not_le fun z => c (nI_le z (by omega))
        refine ya (by rfl) ?_
        refine yl (i := a + k) hM (by rfl) (nI_add a k) (by show a + k < 50000; omega) ?_
        rw [a1 k c1]
        have hv : pkN (w.take k) < 2 ^ 48 := by
          have := pkR_lt (w.take k).reverse fun b hb => a3 b (List.mem_of_mem_take (List.mem_reverse.mp hb))
          rw [List.length_reverse, List.length_take, Nat.min_eq_left hk] at this
          exact Nat.lt_of_lt_of_le this (Nat.le_trans (Nat.pow_le_pow_right (show 0 < 256 by decide) (show k ≤ 6 by omega)) (by decide))
        have es : lN (pkN (w.take k)) <<< ((8 : Int32).toInt64 &&& 63) ||| (nI (ch w k)).toInt64 = lN (pkN (w.take (k + 1))) := by
          rw [lN_sh hv (a3.lt c1), List.take_succ_eq_append_getElem c1, pkN_snoc, ch_in c1]
        have q := ih (k + 1) c1 (by omega)
        rw [← es, ← nI_1] at q
        exact q.locs (by simp)
    refine xgo [14] 40 hA ?_
    refine xt (nI_le (b := 7) hl (by decide)) ?_
    exact key 0 (Nat.zero_le _)
  · refine xgo [] 40 hA ?_
    refine xf (fun z => hl ((nI_leI (b := 7) (by omega) (by omega)).mp z)) ?_
    exact fin 0 false (decide_eq_false fun z => hl (by rw [z]; exact hul)) rfl
/-- bytes on the tape -/
def tpR (S : MS) (p : List Nat) : Prop := S.1 2 = nI p.length ∧ (∀ k, k < p.length → S.2 1 k = nI (ch p k)) ∧ p.length ≤ 8192
set_option maxRecDepth 20000 in
theorem c_Mo_four {p : List Nat} {x : Int32} (hM : mok M) (T : tpR S p) (hl : p.length + 4 ≤ 8192) : xMet l D 0 y_Mo_four [.ref M.1, .int x] (mH h0 M S) 0 0 (fun o h' => ∃ S', h' = mH h0 M S' ∧ o = .inl none ∧ mF [2] [1] S S' ∧ tpR S' (p ++ by4 x)) := by
  refine m_Mo_four (Nat.le_of_ble_eq_true rfl) fun X hl hD hP hA => ?_
  subst hl hD
  have one : ∀ (s : Int32) (p1 : List Nat) (S1 : MS), ¬ s < 0 → s &&& 31 = s → mF [2] [1] S S1 → tpR S1 p1 → p1.length < 8192 → (∀ S2, mF [2] [1] S S2 → tpR S2 (p1 ++ [byB (x >>> s)]) → xG X 3 [(2, .int (s + (-8))), (0, .ref M.1), (1, .int x)] [] (mH h0 M S2) 0 0) → xG X 3 [(2, .int s), (0, .ref M.1), (1, .int x)] [] (mH h0 M S1) 0 0 := by
    intro s p1 S1 hs hs2 f1 T1 hp nxt
    obtain ⟨t1, t2, t3⟩ := T1
    refine xgo [3] 60 hA ?_
    refine xf hs ?_
    refine ya (by rfl) ?_
    refine yg (by rfl) ?_
    rw [t1]
    refine ys (i := p1.length) hM (by rfl) (by rfl) hp ?_
    rw [hs2, (byB_ok (x >>> s)).2.1]
    refine yg (by rfl) ?_
    refine yp (by rfl) ?_
    have e : (s2 S1 1 p1.length (nI (byB (x >>> s)))).1 2 + 1 = nI (p1 ++ [byB (x >>> s)]).length := by
      show S1.1 2 + 1 = _
      rw [t1, nI_1, List.length_append]; rfl
    rw [e]
    refine nxt _ ((f1.s (by simp)).p (by simp)) ⟨rfl, fun k hk => ?_, by rw [List.length_append]; show p1.length + 1 ≤ 8192; omega⟩
    show (s2 S1 1 p1.length (nI (byB (x >>> s)))).2 1 k = _
    by_cases z : k = p1.length
    · subst z
      rw [s2_eq, ch_in hk]; simp
    · rw [s2_ne _ _ z]
      have hk' : k < p1.length := by
        rw [List.length_append] at hk
        have : [byB (x >>> s)].length = 1 := rfl
        omega
      rw [t2 k hk', ch_in hk', ch_in hk, List.getElem_append_left hk']
  refine xgo [3] 60 hA ?_
  refine one 24 p S (by decide) (by decide) (mF.refl _ _ _) T (by omega) fun S1 f1 T1 => ?_
  refine one 16 _ S1 (by decide) (by decide) f1 T1 (by simp; omega) fun S2 f2 T2 => ?_
  refine one 8 _ S2 (by decide) (by decide) f2 T2 (by simp; omega) fun S3 f3 T3 => ?_
  refine one 0 _ S3 (by decide) (by decide) f3 T3 (by simp; omega) fun S4 f4 T4 => ?_
  refine xgo [] 60 hA ?_
  refine xt (by decide) ?_
  refine xP hP ⟨S4, rfl, rfl, f4, ?_⟩
  have ep : p ++ [byB (x >>> 24)] ++ [byB (x >>> 16)] ++ [byB (x >>> 8)] ++ [byB (x >>> 0)] = p ++ by4 x := by simp [by4]
  rw [← ep]; exact T4
set_option maxRecDepth 20000 in
theorem c_Mo_take {p : List Nat} {b : Nat} (hM : mok M) (T : tpR S p) (hp : bytesOk p) (hb : b ≤ 40000) : xMet l D 0 y_Mo_take [.ref M.1, .int (nI b)] (mH h0 M S) 0 0 (fun o h' => ∃ S', h' = mH h0 M S' ∧ o = .inl none ∧ mF [2, 6, 8, 9] [7] S S' ∧ tx S' b p ∧ tpR S' [] ∧ S'.1 6 = -1 ∧ ∀ k, (k < b ∨ b + p.length ≤ k) → S'.2 7 k = S.2 7 k) := by
  obtain ⟨t1, t2, t3⟩ := T
  refine m_Mo_take (Nat.le_of_ble_eq_true rfl) fun X hl hD hP hA => ?_
  subst hl hD
  have key : ∀ (n k : Nat) (S1 : MS), k + n = p.length → mF [2, 6, 8, 9] [7] S S1 → S1.1 2 = nI p.length → S1.1 8 = nI b → S1.1 9 = nI p.length → (∀ j, j < k → S1.2 7 (b + j) = nI (ch p j)) → (∀ k, (k < b ∨ b + p.length ≤ k) → S1.2 7 k = S.2 7 k) → xG X 15 [(2, .int (nI k)), (0, .ref M.1), (1, .int (nI b))] [] (mH h0 M S1) 0 0 := by
    intro n
    induction n with
    | zero =>
      intro k S1 hk f1 e2 e8 e9 e7 e7'
      have hk : k = p.length := by omega
      subst hk
      refine xgo [] 60 hA ?_
      refine yg (by rfl) ?_
      rw [e2]
      refine xt (Int32.le_refl _) ?_
      refine yp (by rfl) ?_
      refine yp (by rfl) ?_
      exact xP hP ⟨_, rfl, rfl, (f1.p (by simp)).p (by simp), ⟨e8, e9, e7, hb, t3, hp⟩, ⟨rfl, fun k hk => absurd hk (Nat.not_lt_zero _), Nat.zero_le _⟩, rfl, e7'⟩
    | succ n ih =>
      intro k S1 hk f1 e2 e8 e9 e7 e7'
      have hkl : k < p.length := by omega
      refine xgo [15] 60 hA ?_
      refine yg (by rfl) ?_
      rw [e2]
      refine xf (fun y => by have := (nI_leI (by omega) (by omega)).mp y; omega) ?_
      refine ya (by rfl) ?_
      refine ya (by rfl) ?_
      refine yl (i := k) hM (by rfl) (by rfl) (by show k < 8192; omega) ?_
      rw [f1.2 1 (by simp), t2 k hkl]
      refine ys (i := b + k) hM (by rfl) (nI_add b k) (by show b + k < 50000; omega) ?_
      have := ih (k + 1) (s2 S1 7 (b + k) (nI (ch p k))) (by omega) (f1.s (by simp)) e2 e8 e9 (fun j hj => ?_) (fun j hj => ?_)
      · rw [← nI_1] at this
        exact this.locs (by simp)
      · by_cases z : j = k
        · subst z; exact s2_eq _ _ _ _
        · rw [s2_ne _ _ (by omega)]; exact e7 j (by omega)
      · rw [s2_ne _ _ (by omega)]; exact e7' j hj
  refine xgo [15] 60 hA ?_
  refine yp (by rfl) ?_
  refine yg (by rfl) ?_
  refine yp (by rfl) ?_
  refine key p.length 0 _ (by omega) (((mF.refl _ _ S).p (by simp)).p (by simp)) t1 rfl ?_ (fun j hj => absurd hj (Nat.not_lt_zero _)) (fun _ _ => rfl)
  show (s1 S 8 (nI b)).1 2 = _
  exact t1
end
