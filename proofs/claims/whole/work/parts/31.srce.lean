/-! CONTRACTS, 11: begins of elements -/
def un {α : Type} (f : Nat → α) (n : Nat) (v : α) : Nat → α := fun i => if i = n then v else f i
theorem un_same {α : Type} (f : Nat → α) (n : Nat) (v : α) : un f n v n = v := if_pos rfl
theorem un_ne {α : Type} (f : Nat → α) {n i : Nat} (v : α) (h : i ≠ n) : un f n v i = f i := if_neg h
theorem pad_un {ad : Nat → Nat} {ro n a x : Nat} (h : x ≤ n) : pad (un ad n a) ro x = pad ad ro x := by
  cases x with
  | zero => rfl
  | succ k => exact un_ne _ _ (by omega)
theorem rfn_un {ad : Nat → Nat} {n a x : Nat} (h : x ≤ n) : rfn (un ad n a) x = rfn ad x := by
  cases x with
  | zero => rfl
  | succ k => exact congrArg Value.ref (un_ne _ _ (by omega))
def gEl (G : SG) (n el nm fl ef e1 : Nat) (fas : List Nat) : SG := ((G.ro, G.le, G.lt, G.ln), (e1, G.e2, G.e3), (G.rn, G.rf), (un G.ad n el, un G.ns n nm, un G.fl n fl, un G.ef n ef, un G.fas n fas), G.ts, G.es)
/-- the element is there, its parent knows nothing of it yet -/
def addE0 (S : SS) (a : Nat × Nat) (bg : Nat) (fs : List PR) : SS := (S.n + 1, nF1 S a bg, (fun i => if i = S.n then fs else S.fd i), (S.tm, S.tl), (S.ps, S.pc), S.en, S.op)
theorem elA_succ (S : SS) (G : SG) (n el nm fl ef e1 : Nat) (fas : List Nat) (hn : n = S.n) (a : Nat × Nat) (bg : Nat) (fs : List PR) : elA (addE0 S a bg fs) (gEl G n el nm fl ef e1 fas) = elA S G ++ [el] := by
  subst hn
  show (List.range (S.n + 1)).map (un G.ad S.n el) = (List.range S.n).map G.ad ++ [el]
  rw [List.range_succ, List.map_append, List.map_singleton, un_same]
  congr 1
  apply List.map_congr_left
  intro i hi
  exact un_ne _ _ (by have := List.mem_range.mp hi; omega)
/-- what the new one's cell is -/
abbrev nwV (S : SS) (G : SG) (nm fl bg pf : Nat) : List Value := [.ref nm, .ref (pad G.ad G.ro S.op), rfn G.ad (nBef S), .int (nI S.n), .int (nI (nNum S)), .int (nI (nDep S)), .int (nI bg), .ref fl, .null, .int 0, .int 0, .int 0, .int 0, .int (nI pf), .int 0]
theorem srcR.el {B : Nat → Prop} {D : xD} {h0 h h' : xH} {so el nm fl ef e1 bg : Nat} {t : List Nat} {S : SS} {G : SG} {a : Nat × Nat} {fs : List PR} {fas : List Nat} {i0 : Nat} (R : srcR D B h so t S G) (P : srcP h0 so S G) (O : SOk t i0 S) (hb : nBef S ≤ S.n)
    (f : fr (G.le :: oL (elA S G) G.e1) h h') (k : kp h h') (L : isL D h' G.le e1 (elA S G ++ [el])) (hel : h' el = some (4, nwV S G nm fl bg S.pc.length)) (hnm : isS B h' nm (sub t a)) (hfl : isL D h' fl ef fas) (hfs : all2 (isNm B h') fas (fs.map (nmB t))) :
    srcR D B h' so t (addE0 S a bg fs) (gEl G S.n el nm fl ef e1 fas) := by
  obtain ⟨r1, r2, r3, r4, r5, r6, r7, r8⟩ := R
  obtain ⟨p1, p2, p3, p4, p5, p6⟩ := P
  obtain ⟨o1, o2, o3, o4, o5⟩ := O
  refine ⟨?_, ?_, ?_, r4.ind r3 (Ne.symm p3.1) p4.1.sym f k, r5.ind r3 (Ne.symm p3.2.1) p4.2.1.sym f k, r6.mono fun a b q => q.kept k, r7.mono fun a b q => q.kept k, fun i hi => ?_⟩
  · show h' so = some (5, [.ref G.le, .ref G.lt, .ref G.ln, .ref G.ro, .ref (pad (un G.ad S.n el) G.ro S.op)])
    rw [pad_un o1]
    exact f _ _ r1 (r3.off r1 (by decide) (by decide))
  · show h' G.ro = some (4, [.ref G.rn, .null, .null, .int (-1), .int 0, .int (-1), .int 0, .ref G.rf, rfn (un G.ad S.n el) S.tl, .int (nI S.tm), .int 0, .int 0, .int 0, .int 0, .int 0])
    rw [rfn_un o3]
    exact f _ _ r2 (r3.off r2 (by decide) (by decide))
  · rw [elA_succ _ _ _ _ _ _ _ _ _ rfl]
    exact L
  · by_cases z : i = S.n
    · subst z
      refine ⟨?_, ?_, ?_, ?_⟩
      · show h' (un G.ad S.n el S.n) = some (4, [.ref (un G.ns S.n nm S.n), .ref (pad (un G.ad S.n el) G.ro (nF1 S a bg 2 S.n)), rfn (un G.ad S.n el) (nF1 S a bg 3 S.n), .int (nI S.n), .int (nI (nF1 S a bg 4 S.n)), .int (nI (nF1 S a bg 5 S.n)), .int (nI (nF1 S a bg 6 S.n)), .ref (un G.fl S.n fl S.n), rfn (un G.ad S.n el) (nF1 S a bg 9 S.n), .int (nI (nF1 S a bg 8 S.n)), .int (nI (nF1 S a bg 10 S.n)), .int (nI (nF1 S a bg 11 S.n)), .int (nI (nF1 S a bg 12 S.n)), .int (nI (nF1 S a bg 15 S.n)), .int (nI (nF1 S a bg 16 S.n))])
        have e : ∀ q, nF1 S a bg q S.n = nNew S a bg q := fun q => if_pos rfl
        simp only [e, un_same]
        rw [hel]
        show some (4, nwV S G nm fl bg S.pc.length) = some (4, [.ref nm, .ref (pad (un G.ad S.n el) G.ro S.op), rfn (un G.ad S.n el) (nBef S), .int (nI S.n), .int (nI (nNum S)), .int (nI (nDep S)), .int (nI bg), .ref fl, .null, .int (nI 0), .int (nI 0), .int (nI 0), .int (nI 0), .int (nI S.pc.length), .int (nI 0)])
        rw [pad_un o1, rfn_un hb]
        rfl
      · show isS B h' (un G.ns S.n nm S.n) (sub t (nF1 S a bg 0 S.n, nF1 S a bg 1 S.n))
        have e : ∀ q, nF1 S a bg q S.n = nNew S a bg q := fun q => if_pos rfl
        rw [un_same, e, e]
        exact hnm
      · show isL D h' (un G.fl S.n fl S.n) (un G.ef S.n ef S.n) (un G.fas S.n fas S.n)
        rw [un_same, un_same, un_same]
        exact hfl
      · show all2 (isNm B h') (un G.fas S.n fas S.n) ((if S.n = S.n then fs else S.fd S.n).map (nmB t))
        rw [un_same, if_pos rfl]
        exact hfs
    · have hi' : i < S.n := by have : i < S.n + 1 := hi; omega
      obtain ⟨a1, a2, a3, a4⟩ := r8 i hi'
      obtain ⟨q1, q2, q3, q4⟩ := p6 i hi'
      obtain ⟨u1, u2, u3, u4⟩ := o4 i hi'
      have e : ∀ q, nF1 S a bg q i = S.F q i := fun q => if_neg z
      refine ⟨?_, ?_, ?_, ?_⟩
      · show h' (un G.ad S.n el i) = some (4, [.ref (un G.ns S.n nm i), .ref (pad (un G.ad S.n el) G.ro (nF1 S a bg 2 i)), rfn (un G.ad S.n el) (nF1 S a bg 3 i), .int (nI i), .int (nI (nF1 S a bg 4 i)), .int (nI (nF1 S a bg 5 i)), .int (nI (nF1 S a bg 6 i)), .ref (un G.fl S.n fl i), rfn (un G.ad S.n el) (nF1 S a bg 9 i), .int (nI (nF1 S a bg 8 i)), .int (nI (nF1 S a bg 10 i)), .int (nI (nF1 S a bg 11 i)), .int (nI (nF1 S a bg 12 i)), .int (nI (nF1 S a bg 15 i)), .int (nI (nF1 S a bg 16 i))])
        simp only [e, un_ne _ _ z]
        rw [pad_un (by omega), rfn_un (by omega), rfn_un u3]
        exact f _ _ a1 (r3.off a1 (by decide) (by decide))
      · show isS B h' (un G.ns S.n nm i) (sub t (nF1 S a bg 0 i, nF1 S a bg 1 i))
        rw [un_ne _ _ z, e, e]
        exact a2.kept k
      · show isL D h' (un G.fl S.n fl i) (un G.ef S.n ef i) (un G.fas S.n fas i)
        rw [un_ne _ _ z, un_ne _ _ z, un_ne _ _ z]
        exact a3.ind r3 q1.1 q2 f k
      · show all2 (isNm B h') (un G.fas S.n fas i) ((if i = S.n then fs else S.fd i).map (nmB t))
        rw [un_ne _ _ z, if_neg z]
        exact a4.mono fun a b q => q.kept k
theorem srcP.el {B : Nat → Prop} {D : xD} {h0 h : xH} {so r el nm fl ef e1 bg : Nat} {t : List Nat} {S : SS} {G : SG} {a : Nat × Nat} {fs : List PR} {fas : List Nat} {c : xC} (R : srcR D B h so t S G) (P : srcP h0 so S G) (hz : (elA S G ≠ [] ∧ e1 = G.e1) ∨ h e1 = none) (f0 : fr [r] h0 h) (hr : h r = some c)
    (hel : h0 el = none ∧ el ≠ G.ro ∧ ∀ i, i < S.n → G.ad i ≠ el) (hfl : isL D h fl ef fas) (hfn : (fl ≠ G.le ∧ fl ≠ G.lt ∧ fl ≠ G.ln) ∧ dj fas ef (elA S G) G.e1 ∧ dj fas ef G.ts G.e2 ∧ dj fas ef G.es G.e3) : srcP h0 so (addE0 S a bg fs) (gEl G S.n el nm fl ef e1 fas) := by
  obtain ⟨r1, r2, r3, r4, r5, r6, r7, r8⟩ := R
  obtain ⟨p1, p2, p3, p4, p5, p6⟩ := P
  refine ⟨p1, ⟨fun _ => ?_, p2.2⟩, p3, ⟨?_, ?_, p4.2.2⟩, fun i hi => ?_, fun i hi => ?_⟩
  · rcases hz with ⟨a, rfl⟩ | a
    · exact p2.1 a
    · exact f0.none hr a
  · rw [elA_succ _ _ _ _ _ _ _ _ _ rfl]
    exact (dj.add (A' := 0) r4 p4.1.sym hz).sym
  · rw [elA_succ _ _ _ _ _ _ _ _ _ rfl]
    exact (dj.add (A' := 0) r5 p4.2.1.sym hz).sym
  · by_cases z : i = S.n
    · subst z
      refine ⟨?_, ?_, fun j hj => ?_⟩
      · show h0 (un G.ad S.n el S.n) = none
        rw [un_same]; exact hel.1
      · show un G.ad S.n el S.n ≠ G.ro
        rw [un_same]; exact hel.2.1
      · show un G.ad S.n el S.n = un G.ad S.n el j → S.n = j
        rw [un_same]
        by_cases y : j = S.n
        · exact fun _ => y.symm
        · rw [un_ne _ _ y]
          exact fun q => absurd q.symm (hel.2.2 j (by have : j < S.n + 1 := hj; omega))
    · have hi' : i < S.n := by have : i < S.n + 1 := hi; omega
      obtain ⟨b1, b2, b3⟩ := p5 i hi'
      refine ⟨?_, ?_, fun j hj => ?_⟩
      · show h0 (un G.ad S.n el i) = none
        rw [un_ne _ _ z]; exact b1
      · show un G.ad S.n el i ≠ G.ro
        rw [un_ne _ _ z]; exact b2
      · show un G.ad S.n el i = un G.ad S.n el j → i = j
        rw [un_ne _ _ z]
        by_cases y : j = S.n
        · subst y
          rw [un_same]
          exact fun q => absurd q (hel.2.2 i hi')
        · rw [un_ne _ _ y]
          exact b3 j (by have : j < S.n + 1 := hj; omega)
  · rw [elA_succ _ _ _ _ _ _ _ _ _ rfl]
    by_cases z : i = S.n
    · subst z
      show (un G.fl S.n fl S.n ≠ G.le ∧ un G.fl S.n fl S.n ≠ G.lt ∧ un G.fl S.n fl S.n ≠ G.ln) ∧ dj (un G.fas S.n fas S.n) (un G.ef S.n ef S.n) (elA S G ++ [el]) e1 ∧ dj (un G.fas S.n fas S.n) (un G.ef S.n ef S.n) G.ts G.e2 ∧ dj (un G.fas S.n fas S.n) (un G.ef S.n ef S.n) G.es G.e3
      rw [un_same, un_same, un_same]
      exact ⟨hfn.1, dj.add (A' := 0) hfl hfn.2.1 hz, hfn.2.2⟩
    · have hi' : i < S.n := by have : i < S.n + 1 := hi; omega
      obtain ⟨q1, q2, q3, q4⟩ := p6 i hi'
      show (un G.fl S.n fl i ≠ G.le ∧ un G.fl S.n fl i ≠ G.lt ∧ un G.fl S.n fl i ≠ G.ln) ∧ dj (un G.fas S.n fas i) (un G.ef S.n ef i) (elA S G ++ [el]) e1 ∧ dj (un G.fas S.n fas i) (un G.ef S.n ef i) G.ts G.e2 ∧ dj (un G.fas S.n fas i) (un G.ef S.n ef i) G.es G.e3
      rw [un_ne _ _ z, un_ne _ _ z, un_ne _ _ z]
      exact ⟨q1, dj.add (A' := 0) (r8 i hi').2.2.1 q2 hz, q3, q4⟩
theorem nBef_le {t : List Nat} {i : Nat} {S : SS} (O : SOk t i S) : nBef S ≤ S.n := by
  unfold nBef
  split
  · exact O.2.2.1
  · have := O.1
    exact (O.2.2.2.1 (S.op - 1) (by omega)).2.2.1
theorem SOk.addE {t : List Nat} {i j : Nat} {S : SS} {a : Nat × Nat} {bg : Nat} {fs : List PR} (O : SOk t i S) (hn : S.n < 500) (hd : nDep S < 20) (hij : i < j) : SOk t j (addE S a bg fs) := by
  have hb := nBef_le O
  obtain ⟨o1, o2, o3, o4, o5, o6, o7, o8, o9⟩ := O
  have n3 : ∀ q k, q ≠ 8 → q ≠ 9 → q ≠ 10 → nF3 S a bg q k = nF1 S a bg q k := by
    intro q k h1 h2 h3
    unfold nF3 nF2
    split
    · split
      · rfl
      · simp [up, h1, h2]
    · split
      · simp [up, h3]
      · simp [up, h1, h2, h3]
  have n9 : ∀ k, k < S.n + 1 → nF3 S a bg 9 k ≤ S.n + 1 := by
    intro k hk
    have e1 : nF1 S a bg 9 k ≤ S.n := by
      unfold nF1
      split
      · exact Nat.zero_le _
      · exact (o4 k (by omega)).2.2.1
    unfold nF3 nF2
    split
    · split
      · omega
      · simp only [up]; split
        · omega
        · split <;> omega
    · split
      · simp only [up]; split <;> omega
      · simp only [up]; split
        · omega
        · split
          · omega
          · split <;> omega
  refine ⟨Nat.le_succ_of_le o1, hn, ?_, fun k hk => ?_, o5, o6, by show S.pc.length ≤ j; omega, by show S.n + 1 ≤ j; omega, o9⟩
  · show (if S.op = 0 then (S.tm + 1, S.n + 1) else (S.tm, S.tl)).2 ≤ S.n + 1
    split
    · exact Nat.le_refl _
    · exact Nat.le_succ_of_le o3
  · show nF3 S a bg 2 k ≤ k ∧ nF3 S a bg 3 k ≤ k ∧ nF3 S a bg 9 k ≤ S.n + 1 ∧ nF3 S a bg 5 k < 20
    have hk' : k < S.n + 1 := hk
    rw [n3 2 k (by decide) (by decide) (by decide), n3 3 k (by decide) (by decide) (by decide), n3 5 k (by decide) (by decide) (by decide)]
    by_cases z : k = S.n
    · subst z
      have e : ∀ q, nF1 S a bg q S.n = nNew S a bg q := fun q => if_pos rfl
      rw [e, e, e]
      exact ⟨o1, hb, n9 S.n (by omega), hd⟩
    · have e : ∀ q, nF1 S a bg q k = S.F q k := fun q => if_neg z
      rw [e, e, e]
      have := o4 k (by omega)
      exact ⟨this.1, this.2.1, n9 k hk', this.2.2.2⟩
