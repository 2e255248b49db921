/-! WHAT SOURCES KEEP TO, 2 -/
theorem nF3_old (S : SS) (a : Nat × Nat) (bg f : Nat) {k : Nat} (hk : k ≠ S.n) : nF3 S a bg f k = if f = 10 ∧ nBef S ≠ 0 ∧ k = nBef S - 1 then 1 else if f = 9 ∧ S.op ≠ 0 ∧ k = S.op - 1 then S.n + 1 else if f = 8 ∧ S.op ≠ 0 ∧ k = S.op - 1 then nNum S else S.F f k := by
  have e1 : nF1 S a bg f k = S.F f k := if_neg hk
  have e2 : nF2 S a bg f k = if f = 9 ∧ S.op ≠ 0 ∧ k = S.op - 1 then S.n + 1 else if f = 8 ∧ S.op ≠ 0 ∧ k = S.op - 1 then nNum S else S.F f k := by
    unfold nF2
    by_cases z : S.op = 0
    · rw [if_pos z, e1, if_neg (fun y => y.2.1 z), if_neg (fun y => y.2.1 z)]
    · rw [if_neg z]
      unfold up
      rw [e1]
      by_cases y : f = 9 ∧ k = S.op - 1
      · rw [if_pos y, if_pos ⟨y.1, z, y.2⟩]
      · rw [if_neg y, if_neg (c := f = 9 ∧ S.op ≠ 0 ∧ k = S.op - 1) (fun w => y ⟨w.1, w.2.2⟩)]
        by_cases w : f = 8 ∧ k = S.op - 1
        · rw [if_pos w, if_pos ⟨w.1, z, w.2⟩]
        · rw [if_neg w, if_neg (fun u => w ⟨u.1, u.2.2⟩)]
  unfold nF3
  by_cases z : nBef S = 0
  · rw [if_pos z, e2, if_neg (c := f = 10 ∧ nBef S ≠ 0 ∧ k = nBef S - 1) (fun y => y.2.1 z)]
  · rw [if_neg z]
    unfold up
    by_cases y : f = 10 ∧ k = nBef S - 1
    · rw [if_pos y, if_pos ⟨y.1, z, y.2⟩]
    · rw [if_neg y, e2, if_neg (c := f = 10 ∧ nBef S ≠ 0 ∧ k = nBef S - 1) (fun w => y ⟨w.1, w.2.2⟩)]
theorem nF3_new (S : SS) (a : Nat × Nat) (bg f : Nat) (h1 : S.op ≤ S.n) (h2 : nBef S ≤ S.n) : nF3 S a bg f S.n = nNew S a bg f := by
  have e1 : nF1 S a bg f S.n = nNew S a bg f := if_pos rfl
  have e2 : nF2 S a bg f S.n = nNew S a bg f := by
    unfold nF2
    by_cases z : S.op = 0
    · rw [if_pos z, e1]
    · rw [if_neg z]
      unfold up
      rw [if_neg (fun y => by omega), if_neg (fun y => by omega), e1]
  unfold nF3
  by_cases z : nBef S = 0
  · rw [if_pos z, e2]
  · rw [if_neg z]
    unfold up
    rw [if_neg (fun y => by omega), e2]
theorem SI.new {t : List Nat} {S : SS} {a : Nat × Nat} {bg : Nat} {fs : List PR} (I : SI t S) (hn : S.n < 500) (hd : nDep S < 20) (ha : a.1 + a.2 ≤ t.length) (hb : bg ≤ t.length) (hf : fs.length ≤ 6) : SI t (opnE (addE S a bg fs) (S.n + 1)) := by
  obtain ⟨i1, i2, i3, i4⟩ := id I
  have hB : nBef S = LCv (v1 S) S.op := rfl
  have hN : nNum S = CNv (v1 S) S.op + 1 := by
    unfold nNum CNv
    by_cases z : S.op = 0
    · rw [if_pos z, if_pos z]; rfl
    · rw [if_neg z, if_neg z]; rfl
  have hlc := i1.lc (p := S.op) i3
  have hlc1 : nBef S ≤ S.n := hlc.1
  have new := fun f => nF3_new S a bg f i3 hlc1
  have o2 : ∀ f k, k < S.n → f ≠ 8 → f ≠ 9 → f ≠ 10 → nF3 S a bg f k = S.F f k := fun f k hk h1 h2 h3 => by
    rw [nF3_old S a bg f (by omega), if_neg (fun z => h3 z.1), if_neg (fun z => h2 z.1), if_neg (fun z => h1 z.1)]
  refine ⟨?_, fun k hk => ?_, Nat.le_refl _, fun k hk => ?_⟩
  · have e : v1 (opnE (addE S a bg fs) (S.n + 1)) = (S.n + 1, (if S.op = 0 then S.tm + 1 else S.tm), (if S.op = 0 then S.n + 1 else S.tl), msk (nF3 S a bg)) := by
      unfold v1 opnE addE
      by_cases z : S.op = 0
      · simp only [if_pos z]
      · simp only [if_neg z]
    rw [e]
    refine SI1.add (dep := nDep S) (g := msk S.F) (op := S.op) i1 i3 hn hd (fun z => if_pos z) (fun z => if_neg z) (fun f k hk hf => ?_) (fun k hk => ?_) (fun k hk => ?_) (fun k hk => ?_) (new 2) (new 3) ?_ (new 5) (new 8) (new 9) (new 10) rfl rfl
    · rcases hf with rfl | rfl | rfl | rfl <;> exact o2 _ k hk (by decide) (by decide) (by decide)
    · show nF3 S a bg 8 k = if k + 1 = S.op then CNv (v1 S) S.op + 1 else S.F 8 k
      rw [nF3_old S a bg 8 (by omega), if_neg (fun z => by cases z.1), if_neg (fun z => by cases z.1), hN]
      by_cases z : k + 1 = S.op
      · rw [if_pos z, if_pos ⟨rfl, by omega, by omega⟩]
      · rw [if_neg z, if_neg (fun y => z (by have := y.2.1; have := y.2.2; omega))]
    · show nF3 S a bg 9 k = if k + 1 = S.op then S.n + 1 else S.F 9 k
      rw [nF3_old S a bg 9 (by omega), if_neg (fun z => by cases z.1)]
      by_cases z : k + 1 = S.op
      · rw [if_pos z, if_pos ⟨rfl, by omega, by omega⟩]
      · rw [if_neg z, if_neg (fun y => z (by have := y.2.1; have := y.2.2; omega)), if_neg (fun y => by cases y.1)]
    · show nF3 S a bg 10 k = if k + 1 = nBef S then 1 else S.F 10 k
      rw [nF3_old S a bg 10 (by omega)]
      by_cases z : k + 1 = nBef S
      · rw [if_pos z, if_pos ⟨rfl, by omega, by omega⟩]
      · rw [if_neg z, if_neg (fun y => z (by have := y.2.1; have := y.2.2; omega)), if_neg (fun y => by cases y.1), if_neg (fun y => by cases y.1)]
    · show nF3 S a bg 4 S.n = CNv (v1 S) S.op + 1
      rw [new 4, ← hN]; rfl
  · show ((if k = S.n then fs else S.fd k)).length ≤ 6 ∧ nF3 S a bg 6 k ≤ t.length ∧ nF3 S a bg 12 k ≤ t.length ∧ nF3 S a bg 0 k + nF3 S a bg 1 k ≤ t.length ∧ nF3 S a bg 11 k ≤ 1
    have hk : k < S.n + 1 := hk
    by_cases z : k = S.n
    · subst z
      rw [if_pos rfl, new, new, new, new, new]
      exact ⟨hf, hb, Nat.zero_le _, ha, Nat.zero_le _⟩
    · rw [if_neg z, o2 6 k (by omega) (by decide) (by decide) (by decide), o2 12 k (by omega) (by decide) (by decide) (by decide), o2 0 k (by omega) (by decide) (by decide) (by decide), o2 1 k (by omega) (by decide) (by decide) (by decide), o2 11 k (by omega) (by decide) (by decide) (by decide)]
      exact i2 k (by omega)
  · have hk : k < S.n + 1 := hk
    have hF : ∀ x, x < S.n → ∀ f, f ≠ 8 → f ≠ 9 → f ≠ 10 → (opnE (addE S a bg fs) (S.n + 1)).F f x = S.F f x := fun x hx f h1 h2 h3 => o2 f x hx h1 h2 h3
    by_cases z : k = S.n
    · subst z
      refine ⟨fun _ => ?_, Or.inl ⟨0, rfl⟩⟩
      have e13 : (opnE (addE S a bg fs) (S.n + 1)).F 13 S.n = S.ps.length := new 13
      have e15 : (opnE (addE S a bg fs) (S.n + 1)).F 15 S.n = S.pc.length := new 15
      unfold ncl
      rw [e13, e15]
      refine ⟨Nat.le_refl _, Nat.le_refl _, ?_⟩
      show S.ps.drop S.ps.length = S.pc.drop S.pc.length
      rw [List.drop_length, List.drop_length]
    · have hk' : k < S.n := by omega
      refine ⟨fun o => ?_, ?_⟩
      · have o2' : opn (opnE (addE S a bg fs) (S.n + 1)).F S.op (k + 1) := by
          rcases o.cs (by show S.n + 1 ≠ 0; omega) with y | y
          · have y : k + 1 = S.n + 1 := y
            omega
          · have y : opn (opnE (addE S a bg fs) (S.n + 1)).F (nF3 S a bg 2 S.n) (k + 1) := y
            rw [new 2] at y
            exact y
        have y := (i4 k hk').1 (opn.congr (F := (opnE (addE S a bg fs) (S.n + 1)).F) (n := S.n) (fun x hx => by rw [hF x hx 2 (by decide) (by decide) (by decide)]; exact I.f2 x hx) (fun x hx => (hF x hx 2 (by decide) (by decide) (by decide)).symm) i3 o2')
        unfold ncl
        rw [hF k hk' 13 (by decide) (by decide) (by decide), hF k hk' 15 (by decide) (by decide) (by decide)]
        exact y
      · rcases (i4 k hk').2 with y | y
        · refine Or.inl (opn.up (x := S.n + 1) (by omega) ?_)
          show opn (nF3 S a bg) (nF3 S a bg 2 S.n) (k + 1)
          rw [new 2]
          exact opn.congr (F := S.F) (n := S.n) I.f2 (fun x hx => o2 2 x hx (by decide) (by decide) (by decide)) i3 y
        · refine Or.inr ?_
          unfold cls
          rw [hF k hk' 13 (by decide) (by decide) (by decide), hF k hk' 14 (by decide) (by decide) (by decide), hF k hk' 15 (by decide) (by decide) (by decide), hF k hk' 16 (by decide) (by decide) (by decide)]
          exact y
theorem sFld_le {t : List Nat} : ∀ (n j : Nat) (fs r : List PR) (k : Nat), fs.length + n ≤ 6 → sFld t n j fs = .ok (r, k) → r.length ≤ 6
  | 0, j, fs, r, k, hl, h => by
    rw [sFld] at h
    split at h
    · cases h; omega
    · cases h
  | n + 1, j, fs, r, k, hl, h => by
    rw [sFld] at h
    split at h
    · cases h; omega
    · split at h
      · cases h
      · obtain ⟨a, j1, -, e1⟩ := pB_inv h
        split at e1
        · obtain ⟨u, j2, -, e2⟩ := pB_inv e1
          obtain ⟨b, j3, -, e3⟩ := pB_inv e2
          exact sFld_le n j3 _ r k (by rw [List.length_append]; show _ + 1 + n ≤ 6; omega) e3
        · cases e1
theorem SI.beg2 {t : List Nat} {S S' : SS} {a : Nat × Nat} {bg j k : Nat} {fs : List PR} (I : SI t S) (hn : S.n < 500) (hd : nDep S < 20) (ha : a.1 + a.2 ≤ t.length) (hb : bg ≤ t.length) (hf : fs.length ≤ 6) (h : sBeg2 t j (addE S a bg fs) = .ok (S', k)) : SI t S' := by
  have N := I.new hn hd ha hb hf
  unfold sBeg2 at h
  split at h
  · obtain ⟨u, m, e1, e2⟩ := pB_inv h
    cases e2
    have hm := (pSig_adv 62 (by decide) t _ u k e1).2
    have e13 : (opnE (addE S a bg fs) (S.n + 1)).F 2 S.n = S.op := by
      have hlc := (I.1.lc (p := S.op) I.2.2.1).1
      exact nF3_new S a bg 2 I.2.2.1 hlc
    have hop := I.2.2.1
    have := SI.fin (e := S.n) (j := k) N (by show S.n < S.n + 1; omega) hm S.op (by show S.op ≤ S.n + 1; omega) (fun x hx hne ho => ?_) (fun x ho => ?_) ((N.2.2.2 S.n (by show S.n < S.n + 1; omega)).1 ⟨0, rfl⟩)
    · exact this
    · have hx : x < S.n + 1 := hx
      rcases ho.cs (by show S.n + 1 ≠ 0; omega) with z | z
      · have z : x + 1 = S.n + 1 := z
        omega
      · have z : opn (opnE (addE S a bg fs) (S.n + 1)).F ((opnE (addE S a bg fs) (S.n + 1)).F 2 S.n) (x + 1) := z
        rw [e13] at z
        exact z
    · refine ⟨?_, opn.up (x := S.n + 1) (by omega) ?_⟩
      · have := ho.le (n := S.n + 1) N.f2 (by omega)
        omega
      · show opn (opnE (addE S a bg fs) (S.n + 1)).F ((opnE (addE S a bg fs) (S.n + 1)).F 2 S.n) (x + 1)
        rw [e13]; exact ho
  · obtain ⟨u, m, e1, e2⟩ := pB_inv h
    cases e2
    exact N
theorem SI.piece {t : List Nat} {S S' : SS} {i k : Nat} (I : SI t S) (h : sPiece t i S = .ok (S', k)) : SI t S' := by
  unfold sPiece at h
  split at h
  · rename_i hch
    have hlt := ch_lt hch (by decide)
    unfold sMark at h
    split at h
    · unfold sEnd at h
      split at h
      · cases h
      · rename_i hop
        obtain ⟨a, j, -, e1⟩ := pB_inv h
        split at e1
        · obtain ⟨u, m, e2, e3⟩ := pB_inv e1
          cases e3
          have hm := (pSig_adv 62 (by decide) t _ u k e2).2
          have h3 := I.2.2.1
          have hF := I.f2 (S.op - 1) (by omega)
          refine SI.fin I (by omega) hm _ (by omega) (fun x hx hne ho => ?_) (fun x ho => ?_) ((I.2.2.2 (S.op - 1) (by omega)).1 ⟨0, by show S.op = S.op - 1 + 1; omega⟩)
          · rcases ho.cs hop with z | z
            · omega
            · exact z
          · refine ⟨?_, opn.up hop ho⟩
            have := ho.le (n := S.n) I.f2 (by omega)
            omega
        · cases e1
    · split at h
      · split at h
        · unfold sCom at h
          obtain ⟨u, j, -, e1⟩ := pB_inv h
          obtain ⟨u2, j2, -, e2⟩ := pB_inv e1
          cases e2; exact I
        · unfold sEnt at h
          obtain ⟨a, j, -, e1⟩ := pB_inv h
          split at e1
          · cases e1
          · obtain ⟨b, j2, -, e2⟩ := pB_inv e1
            split at e2
            · cases e2
            · obtain ⟨u, j3, -, e3⟩ := pB_inv e2
              cases e3; exact I
      · unfold sBeg at h
        obtain ⟨a, j, e1, e2⟩ := pB_inv h
        split at e2
        · cases e2
        · rename_i hlim
          obtain ⟨fs, j2, e3, e4⟩ := pB_inv e2
          obtain ⟨n1, n2, n3, n4, n5, n6, -⟩ := pName_sub e1
          exact I.beg2 (by omega) (by omega) (by omega) (by omega) (sFld_le 6 _ [] fs j2 (by decide) e3) e4
  · split at h
    · unfold sRef at h
      obtain ⟨a, j, -, e1⟩ := pB_inv h
      split at e1
      · cases e1
      · obtain ⟨u, j2, -, e2⟩ := pB_inv e1
        cases e2; exact I.addP _
    · unfold sText at h
      split at h
      · cases h
      · cases h; exact I.addP _
