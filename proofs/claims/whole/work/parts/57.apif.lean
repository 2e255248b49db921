/-! THE CLASS, 6: what is put out -/
section
variable {Zh : xH}
def lns (ty : List Nat) (d : TD) : Bool := decide (0 < d.2.2.2.2.1) || (decide (d.2.1 = 1) && decide (sub ty d.2.2.1 = wUp))
set_option maxRecDepth 20000 in
theorem c_leansOnOuter {B : Nat → Prop} {l : Launch} {D : xD} {h : xH} {ty : List Nat} {x ix : Nat} {d : TD} (E : env D h) (I : isTd B h ty x ix d) (hk : d.2.1 ≤ 3) : xMet l D 6 y_To_leansOnOuter [.ref x] h 0 0 (fun o h' => h' = h ∧ o = .inl (some (.int (bI (lns ty d))))) := by
  obtain ⟨tv, x1, x2, x3, x4⟩ := I
  obtain ⟨-, -, -, -, -, u9⟩ := E.2.2.2.2.2
  obtain ⟨a9, v9, e9, g9⟩ := id u9
  refine m_To_leansOnOuter (Nat.le_of_ble_eq_true rfl) fun X hl hD hP hA => ?_
  subst hl hD
  have fin : ∀ (v : Int32) (q : Bool), lns ty d = q → v = bI q → narrow .boolean (.int v) = .int v ∧ X.P (.inl (some (.int v))) h := by
    intro v q e1 e2
    subst e2
    exact ⟨bI_nar q, xP hP ⟨rfl, by rw [e1]⟩⟩
  unfold lns at fin
  refine xgo [28] 60 hA ?_
  refine xg x1 (by rfl) ?_
  refine xb (fun c => ?_) (fun c => ?_)
  · have c1 : 0 < d.2.2.2.2.1 := (nI_ltI (a := 0) (by omega) (by omega)).mp c
    exact fin 1 true (by rw [decide_eq_true c1]; rfl) rfl
  have c1 : ¬ 0 < d.2.2.2.2.1 := fun z => c ((nI_ltI (a := 0) (by omega) (by omega)).mpr z)
  rw [decide_eq_false c1, Bool.false_or] at fin
  refine xg x1 (by rfl) ?_
  refine xb (fun c => ?_) (fun c => ?_)
  · exact fin 0 false (by rw [decide_eq_false (fun z => c (by rw [z]; rfl))]; rfl) rfl
  have c2 : d.2.1 = 1 := (nI_eq (b := 1) (by omega) (by omega)).mp c
  rw [decide_eq_true c2, Bool.true_and] at fin
  rw [if_neg (by omega)] at x2
  obtain ⟨s, rfl, S⟩ := x2
  obtain ⟨f2, hs2⟩ := S.cell
  refine xg x1 (by rfl) ?_
  refine xg x1 (by rfl) ?_
  show xG X 28 [(0, .ref x)] [X.D.sv 1009, .ref s] h 0 0
  rw [e9]
  refine xgo [] 60 hA ?_
  refine xcV hs2 (c_spells E S u9 e9 (by decide) (by decide)) (by rfl) (by rfl) (by rfl) (Nat.zero_le _) (Nat.zero_le _) ?_
  rintro o h' ⟨rfl, rfl⟩
  refine xb (fun c => ?_) (fun c => ?_)
  · exact fin 0 false ((bI_0 _).mp c) rfl
  · exact fin 1 true ((bI_n0 _).mp c) rfl
/-- what is out changes -/
theorem scQ.ou {D : xD} {h : xH} {sc rd so sy : Nat} {K : CK} {A : AS} {G : SG} {w O' : List Nat} (Q : scQ Zh D h sc K A rd so sy G) (h1 : (w ++ O').length = 16384) (h2 : bytesOk w) (h3 : bytesOk O') : scQ Zh D (xset (xset h K.2.1 (101, txv (w ++ O'))) sc (0, scV K (A.wOu w) rd so sy)) sc K (A.wOu w) rd so sy G := by
  obtain ⟨T, O, fv, rv, hv', v0, v1, r1, ⟨r2, r3⟩, ⟨r4, r5⟩, ⟨r6, r7⟩, r8, ⟨r9, r10⟩, ⟨r11, r12⟩, r13, r14, r15, r16, r17⟩ := Q
  obtain ⟨⟨n1, n2, n3, n4, n5, n6⟩, ⟨n7, n8, n9, n10⟩, ⟨n11, n12, n13, n14⟩, ⟨n15, n16⟩, ⟨n17, n18⟩, n19⟩ := sc_ne r1 r2 r4 r6 r8 r9 r11
  have k : gk (bK K) h (xset (xset h K.2.1 (101, txv (w ++ O'))) sc (0, scV K (A.wOu w) rd so sy)) := ((gk.refl _ _).put r4 (ng0 (Or.inr (Or.inr (Or.inr (Or.inr ⟨rfl, fun z => z.2.1 rfl⟩)))))).put r1 (ng0 (Or.inl rfl))
  have f : ∀ {q d}, h q = some d → q ≠ K.2.1 → q ≠ sc → xset (xset h K.2.1 (101, txv (w ++ O'))) sc (0, scV K (A.wOu w) rd so sy) q = some d := fun {q d} e w1 w2 => xst2 w2 (xst2 w1 e)
  have hl : w.length ≤ 16384 := by rw [List.length_append] at h1; omega
  exact scQ.of (O := O') k r14 r15 r16 (xset_same _ _ _) ⟨f r2 r13.1 n1, r3⟩ ⟨xst2 n2 (xset_same _ _ _), h1, h3⟩ ⟨f r6 n11 n3, r7⟩ (f r8 n12 n4) ⟨f r9 n13 n5, r10⟩ ⟨f r11 n14 n6, r12⟩ r13 ⟨r17.1, ⟨hl, h2⟩, r17.2.2⟩
theorem putB_0 {O w : List Nat} : putB O w 0 = w ++ O.drop w.length := by simp [putB]
theorem isS.bytes {B : Nat → Prop} {h : xH} {s : Nat} {w : List Nat} (H : isS B h s w) : bytesOk w := by
  obtain ⟨a, f, T, h1, h2, h3, h4, h5, h6, h7⟩ := H
  intro b hb
  obtain ⟨k, hk, rfl⟩ := List.mem_iff_getElem.mp hb
  have := h4 k hk
  rw [ch_in hk] at this
  rw [← this]
  exact h6.lt (by omega)
set_option maxRecDepth 20000 in
theorem c_putSlice {B : Nat → Prop} {l : Launch} {D : xD} {h : xH} {sc rd so sy s : Nat} {K : CK} {A : AS} {G : SG} {w : List Nat} (Q : scQ Zh D h sc K A rd so sy G) (S : isS B h s w) (hw : w.length ≤ 16384) : xMet l D 2 y_Sc_putSlice [.ref sc, .ref s] h 0 0 (fun o h' => o = .inl (some (.int (nI w.length))) ∧ scQ Zh D h' sc K (A.wOu w) rd so sy G ∧ gk (bK K) h h') := by
  obtain ⟨T, O, fv, rv, hv', v0, v1, r1, ⟨r2, r3⟩, ⟨r4, r5, r5'⟩, r6, r8, r9, r11, r13, r14, r15, r16, r17⟩ := id Q
  obtain ⟨f2, hs⟩ := S.cell
  have n2 : K.2.1 ≠ sc := xne' r4 r1 (by decide)
  refine m_Sc_putSlice (Nat.le_of_ble_eq_true rfl) fun X hl hD hP hA => ?_
  subst hl hD
  refine xgo [] 60 hA ?_
  refine xg r1 (by rfl) ?_
  refine xcV hs (c_copyTo S r4 (p := 0) (by omega) (by omega)) (by rfl) (by rfl) (by rfl) (Nat.zero_le _) (Nat.zero_le _) ?_
  rintro o h' ⟨rfl, rfl⟩
  rw [Nat.zero_add, putB_0]
  refine xp (fs' := scV K (A.wOu w) rd so sy) (xst2 (Ne.symm n2) r1) rfl rfl ?_
  refine xg (xset_same _ _ _) (by rfl) ?_
  refine xP hP ⟨rfl, Q.ou ?_ S.bytes ((r17.2.1.2.app r5').drop _), ((gk.refl _ _).put r4 (ng0 (Or.inr (Or.inr (Or.inr (Or.inr ⟨rfl, fun z => z.2.1 rfl⟩)))))).put r1 (ng0 (Or.inl rfl))⟩
  rw [List.length_append, List.length_drop, r5]; omega
/-- a number's digits -/
def dgs : Nat → Nat → List Nat
  | 0, n => [48 + n % 10]
  | f + 1, n => if n < 10 then [48 + n] else dgs f (n / 10) ++ [48 + n % 10]
def nd : Nat → Nat → Nat
  | 0, _ => 0
  | f + 1, r => if r = 0 then 0 else 1 + nd f (r / 10)
theorem dgs_len : ∀ f n, n < 10 ^ (f + 1) → (dgs f n).length = 1 + nd f (n / 10)
  | 0, _, _ => rfl
  | f + 1, n, h => by
    unfold dgs nd
    by_cases z : n < 10
    · rw [if_pos z, if_pos (by omega)]; rfl
    · rw [if_neg z, if_neg (by omega), List.length_append, dgs_len f (n / 10) (by rw [Nat.pow_succ] at h; omega)]
      show _ + 1 = _
      omega
theorem dgs_le : ∀ f n, (dgs f n).length ≤ f + 1
  | 0, _ => Nat.le_refl _
  | f + 1, n => by
    unfold dgs
    split
    · show 1 ≤ f + 1 + 1; omega
    · rw [List.length_append]
      have := dgs_le f (n / 10)
      show _ + 1 ≤ _
      omega
theorem dgs_ok : ∀ f n, bytesOk (dgs f n)
  | 0, n => fun b hb => by
    rw [List.mem_singleton.mp hb]
    have := Nat.mod_lt n (show 0 < 10 by decide)
    omega
  | f + 1, n => by
    unfold dgs
    split
    · intro b hb
      rw [List.mem_singleton.mp hb]; omega
    · refine (dgs_ok f (n / 10)).app fun b hb => ?_
      rw [List.mem_singleton.mp hb]
      have := Nat.mod_lt n (show 0 < 10 by decide)
      omega
abbrev dec7 (n : Nat) : List Nat := dgs 6 n
set_option maxRecDepth 20000 in
theorem c_putNumber {l : Launch} {D : xD} {h : xH} {sc rd so sy n : Nat} {K : CK} {A : AS} {G : SG} (Q : scQ Zh D h sc K A rd so sy G) (hn : n < 10000000) : xMet l D 0 y_Sc_putNumber [.ref sc, .int (nI n)] h 0 0 (fun o h' => o = .inl none ∧ scQ Zh D h' sc K (A.wOu (dec7 n)) rd so sy G) := by
  obtain ⟨T, O, fv, rv, hv', v0, v1, r1, ⟨r2, r3⟩, ⟨r4, r5, r5'⟩, r6, r8, r9, r11, r13, r14, r15, r16, r17⟩ := id Q
  have n2 : K.2.1 ≠ sc := xne' r4 r1 (by decide)
  have hlen := dgs_len 6 n (by omega)
  have hle : (dec7 n).length ≤ 7 := dgs_le 6 n
  refine m_Sc_putNumber (Nat.le_of_ble_eq_true rfl) fun X hl hD hP hA => ?_
  subst hl hD
  -- how many
  have cnt : ∀ (f r c : Nat), r < 10 ^ f → 1 ≤ c → c + f ≤ 10 → (∀ ls : xL, (∀ p ∈ [(0, Value.ref sc), (1, .int (nI n))], p ∈ ls) → xG X 32 ls [] (xset h sc (0, scW K (nI A.tp.length) (nI (c + nd f r)) (nI A.fo.length) (nI A.aw) rd so sy)) 0 0) → xG X 10 [(2, .int (nI r)), (0, .ref sc), (1, .int (nI n))] [] (xset h sc (0, scW K (nI A.tp.length) (nI c) (nI A.fo.length) (nI A.aw) rd so sy)) 0 0 := by
    intro f
    induction f with
    | zero =>
      intro r c hr hc1 hc nxt
      have hr : r = 0 := by simpa using hr
      subst hr
      refine xgo [32] 60 hA ?_
      refine xt (by decide) ?_
      exact nxt _ (by simp)
    | succ f ih =>
      intro r c hr hc1 hc nxt
      have hr2 : r < 2 ^ 31 := Nat.lt_of_lt_of_le hr (Nat.le_trans (Nat.pow_le_pow_right (show 0 < 10 by decide) (show f + 1 ≤ 9 by omega)) (by decide))
      by_cases z : r = 0
      · subst z
        refine xgo [32] 60 hA ?_
        refine xt (by decide) ?_
        have := nxt [(2, .int (nI 0)), (0, .ref sc), (1, .int (nI n))] (by simp)
        rw [show nd (f + 1) 0 = 0 from rfl, Nat.add_zero] at this
        exact this
      · refine xgo [10] 60 hA ?_
        refine xf (fun y => z (Nat.le_zero.mp ((nI_leI (b := 0) hr2 (by decide)).mp y))) ?_
        refine xg (xset_same _ _ _) (by rfl) ?_
        refine xp (fs' := scW K (nI A.tp.length) (nI c + 1) (nI A.fo.length) (nI A.aw) rd so sy) (xset_same _ _ _) rfl rfl ?_
        rw [xset_set, nI_1]
        refine And.intro (by decide) ?_
        have hd : nI r / 10 = nI (r / 10) := pk_div (d := 10) hr2 (by decide) (by decide)
        have := ih (r / 10) (c + 1) (by rw [Nat.pow_succ] at hr; omega) (by omega) (by omega) (fun ls hls => by
          have := nxt ls hls
          rw [show nd (f + 1) r = 1 + nd f (r / 10) from if_neg z, ← Nat.add_assoc] at this
          exact this)
        rw [← hd] at this
        exact this.locs (by simp)
  -- the digits, from the last to the first
  have fill : ∀ (f r : Nat) (P suf Z : List Nat) (ls : xL), r < 10 ^ (f + 1) → f ≤ 6 → P.length = (dgs f r).length → (P ++ suf ++ Z).length = 16384 → dgs f r ++ suf = dec7 n → bytesOk Z → (∀ p ∈ [(3, Value.int (nI P.length - 1)), (2, .int (nI r)), (0, .ref sc)], p ∈ ls) → xG X 41 ls [] (xset (xset h sc (0, scW K (nI A.tp.length) (nI (dec7 n).length) (nI A.fo.length) (nI A.aw) rd so sy)) K.2.1 (101, txv (P ++ suf ++ Z))) 0 0 := by
    have cellsc : ∀ W : List Nat, xset (xset h sc (0, scW K (nI A.tp.length) (nI (dec7 n).length) (nI A.fo.length) (nI A.aw) rd so sy)) K.2.1 (101, txv W) sc = some (0, scW K (nI A.tp.length) (nI (dec7 n).length) (nI A.fo.length) (nI A.aw) rd so sy) := fun W => xst2 (Ne.symm n2) (xset_same _ _ _)
    have wr : ∀ (r p : Nat) (P' suf Z : List Nat), r < 2 ^ 31 → (P' ++ [p] ++ suf ++ Z).length = 16384 → (∀ ls : xL, (∀ q ∈ [(3, Value.int (nI P'.length - 1)), (2, .int (nI (r / 10))), (0, .ref sc)], q ∈ ls) → xG X 41 ls [] (xset (xset h sc (0, scW K (nI A.tp.length) (nI (dec7 n).length) (nI A.fo.length) (nI A.aw) rd so sy)) K.2.1 (101, txv (P' ++ ((48 + r % 10) :: suf) ++ Z))) 0 0) → ∀ ls : xL, (∀ q ∈ [(3, Value.int (nI (P' ++ [p]).length - 1)), (2, .int (nI r)), (0, .ref sc)], q ∈ ls) → xG X 41 ls [] (xset (xset h sc (0, scW K (nI A.tp.length) (nI (dec7 n).length) (nI A.fo.length) (nI A.aw) rd so sy)) K.2.1 (101, txv (P' ++ [p] ++ suf ++ Z))) 0 0 := by
      intro r p P' suf Z hr hl nxt ls hls
      refine xG.locs ?_ hls
      have hl' : P'.length < 16384 := by simp only [List.length_append, List.length_cons] at hl; omega
      have ek : nI (P' ++ [p]).length - 1 = nI P'.length := by
        rw [List.length_append, show P'.length + [p].length = P'.length + 1 from rfl, ← nI_1]; exact Int32.add_sub_cancel _ _
      rw [ek]
      refine xgo [41] 60 hA ?_
      refine xf (nI_neg (by omega)) ?_
      refine xg (cellsc _) (by rfl) ?_
      refine And.intro (by decide) ?_
      refine xsb (j := P'.length) (xset_same _ _ _) (by rfl) (by rw [txv_len, hl]; omega) ?_
      rw [show (48 : Int32) + (nI r - nI r / 10 * 10) = nI (48 + r % 10) by rw [show nI r - nI r / 10 * 10 = nI (r % 10) from pk_rem (d := 10) hr (by decide) (by decide)]; exact nI_add 48 _]
      rw [show (nI (48 + r % 10)).toInt8.toInt32 = sb_b (48 + r % 10) from rfl, sb_again, xset_set]
      have ew : (txv (P' ++ [p] ++ suf ++ Z)).set P'.length (.int (sb_b (48 + r % 10))) = txv (P' ++ ((48 + r % 10) :: suf) ++ Z) := by
        rw [List.append_assoc, List.append_assoc, txv_put (by simp)]
        simp
      rw [ew]
      refine And.intro (by decide) ?_
      have hd : nI r / 10 = nI (r / 10) := pk_div (d := 10) hr (by decide) (by decide)
      have := nxt [(3, .int (nI P'.length + (-1))), (2, .int (nI r / 10)), (0, .ref sc)] (by rw [hd, Int32.sub_eq_add_neg]; simp)
      exact this.locs (by simp)
    -- through
    have fin : ∀ (Z : List Nat) (v : Value) (ls : xL), (dec7 n ++ Z).length = 16384 → bytesOk Z → (∀ q ∈ [(3, Value.int (nI 0 - 1)), (0, .ref sc)], q ∈ ls) → xG X 41 ls [] (xset (xset h sc (0, scW K (nI A.tp.length) (nI (dec7 n).length) (nI A.fo.length) (nI A.aw) rd so sy)) K.2.1 (101, txv (dec7 n ++ Z))) 0 0 := by
      intro Z v ls hl hZ hls
      refine xG.locs ?_ hls
      refine xgo [] 60 hA ?_
      refine xt (by decide) ?_
      refine xP hP ⟨rfl, ?_⟩
      have := Q.ou (w := dec7 n) (O' := Z) hl (dgs_ok 6 n) hZ
      rw [xset_comm _ _ _ n2] at this
      exact this
    -- a single digit
    have sg : ∀ (r : Nat) (P suf Z : List Nat) (ls : xL), r < 10 → P.length = 1 → (P ++ suf ++ Z).length = 16384 → [48 + r] ++ suf = dec7 n → bytesOk Z → (∀ p ∈ [(3, Value.int (nI P.length - 1)), (2, .int (nI r)), (0, .ref sc)], p ∈ ls) → xG X 41 ls [] (xset (xset h sc (0, scW K (nI A.tp.length) (nI (dec7 n).length) (nI A.fo.length) (nI A.aw) rd so sy)) K.2.1 (101, txv (P ++ suf ++ Z))) 0 0 := by
      intro r P suf Z ls hr hP1 hl hd hZ hls
      obtain ⟨p, rfl⟩ := List.length_eq_one_iff.mp hP1
      refine wr r p [] suf Z (by omega) hl (fun ls hls => ?_) ls hls
      have e1 : [] ++ (48 + r % 10) :: suf ++ Z = dec7 n ++ Z := by
        rw [← hd, Nat.mod_eq_of_lt hr]; simp
      rw [e1]
      refine fin Z .null ls ?_ hZ (fun q hq => hls q (by
        simp only [List.mem_cons, List.not_mem_nil, or_false] at hq ⊢
        rcases hq with rfl | rfl
        · exact Or.inl rfl
        · exact Or.inr (Or.inr rfl)))
      rw [← hd]
      simpa using hl
    intro f
    induction f with
    | zero =>
      intro r P suf Z ls hr hf hP1 hl hd hZ hls
      have hr : r < 10 := by simpa using hr
      exact sg r P suf Z ls hr hP1 hl (by rw [← hd]; show [48 + r] ++ suf = [48 + r % 10] ++ suf; rw [Nat.mod_eq_of_lt hr]) hZ hls
    | succ f ih =>
      intro r P suf Z ls hr hf hP1 hl hd hZ hls
      have hr31 : r < 2 ^ 31 := Nat.lt_of_lt_of_le hr (Nat.le_trans (Nat.pow_le_pow_right (show 0 < 10 by decide) (show f + 1 + 1 ≤ 9 by omega)) (by decide))
      by_cases z : r < 10
      · have e2 : dgs (f + 1) r = [48 + r] := if_pos z
        rw [e2] at hP1 hd
        exact sg r P suf Z ls z hP1 hl hd hZ hls
      · have e2 : dgs (f + 1) r = dgs f (r / 10) ++ [48 + r % 10] := if_neg z
        rw [e2] at hP1 hd
        have hne : P ≠ [] := fun y => by rw [y] at hP1; simp at hP1
        obtain ⟨P', p, rfl⟩ : ∃ P' p, P = P' ++ [p] := ⟨P.dropLast, P.getLast hne, (List.dropLast_concat_getLast hne).symm⟩
        refine wr r p P' suf Z hr31 hl (fun ls hls => ?_) ls hls
        refine ih (r / 10) P' ((48 + r % 10) :: suf) Z ls (by rw [Nat.pow_succ] at hr; omega) (by omega) ?_ ?_ ?_ hZ hls
        · rw [List.length_append, List.length_append] at hP1
          simpa using hP1
        · simp only [List.length_append, List.length_cons, List.length_nil] at hl ⊢; omega
        · rw [← hd]; simp
  have e1 : nI n / 10 = nI (n / 10) := pk_div (d := 10) (by omega) (by decide) (by decide)
  refine xgo [10] 60 hA ?_
  refine xp (fs' := scW K (nI A.tp.length) 1 (nI A.fo.length) (nI A.aw) rd so sy) r1 rfl rfl ?_
  refine And.intro (by decide) ?_
  have := cnt 6 (n / 10) 1 (by omega) (by omega) (by omega) (fun ls hls => by
    refine xG.locs ?_ hls
    refine xgo [41] 60 hA ?_
    refine xg (xset_same _ _ _) (by rfl) ?_
    rw [← hlen]
    have hO : (A.ou ++ O).length = 16384 := r5
    have := fill 6 n ((A.ou ++ O).take (dec7 n).length) [] ((A.ou ++ O).drop (dec7 n).length) [(3, .int (nI (dec7 n).length - 1)), (2, .int (nI n)), (0, .ref sc), (1, .int (nI n))] (by omega) (by omega) (by rw [List.length_take, hO]; exact Nat.min_eq_left (by omega)) (by rw [List.append_nil, List.take_append_drop]; exact hO) (by rw [List.append_nil]) ((r17.2.1.2.app r5').drop _) (by
      rw [List.length_take, hO, Nat.min_eq_left (by omega)]; simp)
    rw [List.append_nil, List.take_append_drop] at this
    have e3 : xset h sc (0, scW K (nI A.tp.length) (nI (dec7 n).length) (nI A.fo.length) (nI A.aw) rd so sy) K.2.1 = some (101, txv (A.ou ++ O)) := xst2 n2 r4
    rw [xset_self e3] at this
    exact this)
  rw [← e1] at this
  exact this
end
