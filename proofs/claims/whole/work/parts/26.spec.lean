/-! WHAT IS READ, 1: sources -/
abbrev SF : Type := Nat → Nat → Nat
def up (F : SF) (k i v : Nat) : SF := fun a b => if a = k ∧ b = i then v else F a b
abbrev PR : Type := (Nat × Nat) × (Nat × Nat)
/-- the elements' number, their numbers (0 name's place, 1 name's length, 2 parent + 1, 3 before + 1, 4 number, 5 depth, 6 begin, 8 children, 9 last child + 1, 10 followed, 11 has text, 12 end, 13 14 pieces from, to; 15 16 the same among the pieces in elements), their fields; children of the root, its last + 1; all pieces, those in elements; entities; the one that is not closed + 1 -/
abbrev SS : Type := Nat × SF × (Nat → List PR) × (Nat × Nat) × (List (Nat × Nat) × List (Nat × Nat)) × List PR × Nat
abbrev SS.n (S : SS) : Nat := S.1
abbrev SS.F (S : SS) : SF := S.2.1
abbrev SS.fd (S : SS) : Nat → List PR := S.2.2.1
abbrev SS.tm (S : SS) : Nat := S.2.2.2.1.1
abbrev SS.tl (S : SS) : Nat := S.2.2.2.1.2
abbrev SS.ps (S : SS) : List (Nat × Nat) := S.2.2.2.2.1.1
abbrev SS.pc (S : SS) : List (Nat × Nat) := S.2.2.2.2.1.2
abbrev SS.en (S : SS) : List PR := S.2.2.2.2.2.1
abbrev SS.op (S : SS) : Nat := S.2.2.2.2.2.2
def SS0 : SS := (0, fun _ _ => 0, fun _ => [], (0, 0), ([], []), [], 0)
/-- one more piece of text -/
def addP (S : SS) (p : Nat × Nat) : SS := if p.2 = 0 then S else if S.op = 0 then (S.n, S.F, S.fd, (S.tm, S.tl), (S.ps ++ [p], S.pc), S.en, S.op) else (S.n, up S.F 11 (S.op - 1) 1, S.fd, (S.tm, S.tl), (S.ps ++ [p], S.pc ++ [p]), S.en, S.op)
def addN (S : SS) (q : PR) : SS := (S.n, S.F, S.fd, (S.tm, S.tl), (S.ps, S.pc), S.en ++ [q], S.op)
def nDep (S : SS) : Nat := if S.op = 0 then 0 else S.F 5 (S.op - 1) + 1
def nNum (S : SS) : Nat := if S.op = 0 then S.tm + 1 else S.F 8 (S.op - 1) + 1
def nBef (S : SS) : Nat := if S.op = 0 then S.tl else S.F 9 (S.op - 1)
def nNew (S : SS) (a : Nat × Nat) (bg : Nat) (k : Nat) : Nat := [a.1, a.2, S.op, nBef S, nNum S, nDep S, bg, 0, 0, 0, 0, 0, 0, S.ps.length, 0, S.pc.length, 0].getD k 0
def nF1 (S : SS) (a : Nat × Nat) (bg : Nat) : SF := fun k i => if i = S.n then nNew S a bg k else S.F k i
def nF2 (S : SS) (a : Nat × Nat) (bg : Nat) : SF := if S.op = 0 then nF1 S a bg else up (up (nF1 S a bg) 8 (S.op - 1) (nNum S)) 9 (S.op - 1) (S.n + 1)
def nF3 (S : SS) (a : Nat × Nat) (bg : Nat) : SF := if nBef S = 0 then nF2 S a bg else up (nF2 S a bg) 10 (nBef S - 1) 1
/-- one more element -/
def addE (S : SS) (a : Nat × Nat) (bg : Nat) (fs : List PR) : SS := (S.n + 1, nF3 S a bg, (fun i => if i = S.n then fs else S.fd i), (if S.op = 0 then (S.tm + 1, S.n + 1) else (S.tm, S.tl)), (S.ps, S.pc), S.en, S.op)
def finE (S : SS) (e j : Nat) : SS := (S.n, up (up (up S.F 12 e j) 14 e S.ps.length) 16 e S.pc.length, S.fd, (S.tm, S.tl), (S.ps, S.pc), S.en, S.op)
def opnE (S : SS) (q : Nat) : SS := (S.n, S.F, S.fd, (S.tm, S.tl), (S.ps, S.pc), S.en, q)
def txc (c : Nat) : Bool := c == 10 || (pr c && (!(c == 60) && !(c == 38)))
def sText (t : List Nat) (i : Nat) (S : SS) : Except Nat (SS × Nat) := if scan txc t i = i then .error i else .ok (addP S (i, scan txc t i - i), scan txc t i)
def wLt : List Nat := [108, 116]
def wAmp : List Nat := [97, 109, 112]
/-- what a name stands for -/
def look (t : List Nat) (S : SS) (w : List Nat) : Option (Nat × Nat) := if w = wLt then some (8192, 1) else if w = wAmp then some (8193, 1) else (S.en.find? (fun q => decide (sub t q.1 = w))).map (fun q => q.2)
def sRef (t : List Nat) (i : Nat) (S : SS) : Except Nat (SS × Nat) := pB (pName t i) fun a j => match look t S (sub t a) with
  | none => .error i
  | some p => pB (pExp 59 t j) fun _ k => .ok (addP S p, k)
def sEnt (t : List Nat) (i : Nat) (S : SS) : Except Nat (SS × Nat) := pB (pName t i) fun a j => if 40 ≤ S.en.length ∨ (look t S (sub t a)).isSome = true then .error i else
  pB (pStr t (scan bl t j)) fun b k => if (sub t b).contains 60 = true ∨ (sub t b).contains 38 = true then .error (scan bl t j) else pB (pSig 62 t k) fun _ m => .ok (addN S (a, b), m)
def sFld (t : List Nat) : Nat → Nat → List PR → Except Nat (List PR × Nat)
  | 0, j, fs => if sm (ch t (scan bl t j)) = false then .ok (fs, scan bl t j) else .error (scan bl t j)
  | n + 1, j, fs => if sm (ch t (scan bl t j)) = false then .ok (fs, scan bl t j) else if scan bl t j = j then .error (scan bl t j) else
    pB (pName t (scan bl t j)) fun a j1 => if fs.all (fun q => !decide (sub t q.1 = sub t a)) = true then pB (pSig 61 t j1) fun _ j2 => pB (pStr t (scan bl t j2)) fun b j3 => sFld t n j3 (fs ++ [(a, b)]) else .error (scan bl t j)
def sBeg2 (t : List Nat) (j : Nat) (S : SS) : Except Nat (SS × Nat) := if ch t (scan bl t j) = 47 then pB (pSig 62 t (scan bl t j + 1)) fun _ m => .ok (finE S (S.n - 1) m, m) else pB (pSig 62 t (scan bl t j)) fun _ m => .ok (opnE S S.n, m)
def sBeg (t : List Nat) (bg i : Nat) (S : SS) : Except Nat (SS × Nat) := pB (pName t i) fun a j => if 500 ≤ S.n ∨ 20 ≤ nDep S then .error i else pB (sFld t 6 j []) fun fs k => sBeg2 t k (addE S a bg fs)
def sEnd (t : List Nat) (i : Nat) (S : SS) : Except Nat (SS × Nat) := if S.op = 0 then .error i else pB (pName t (i + 1)) fun a j => if sub t a = sub t (S.F 0 (S.op - 1), S.F 1 (S.op - 1)) then pB (pSig 62 t j) fun _ m => .ok (opnE (finE S (S.op - 1) m) (S.F 2 (S.op - 1)), m) else .error (i + 1)
def sCom (t : List Nat) (i : Nat) (S : SS) : Except Nat (SS × Nat) := pB (pExp 45 t i) fun _ j => pB (pCom t j) fun _ k => .ok (S, k)
def sMark (t : List Nat) (bg i : Nat) (S : SS) : Except Nat (SS × Nat) := if ch t i = 47 then sEnd t i S else if ch t i = 33 then (if ch t (i + 1) = 45 then sCom t (i + 2) S else sEnt t (i + 1) S) else sBeg t bg i S
def sPiece (t : List Nat) (i : Nat) (S : SS) : Except Nat (SS × Nat) := if ch t i = 60 then sMark t i (i + 1) S else if ch t i = 38 then sRef t (i + 1) S else sText t i S
def sAll (t : List Nat) : Nat → Nat → SS → Except Nat (SS × Nat)
  | 0, i, S => .ok (S, i)
  | n + 1, i, S => if ch t i = 256 then .ok (S, i) else pB (sPiece t i S) fun S' j => sAll t n j S'
def sSrc (t : List Nat) : Except Nat (SS × Nat) := pB (sAll t t.length 0 SS0) fun S j => if S.op = 0 then .ok (S, j) else .error t.length
/-! progress -/
theorem pB_ok {α β : Type} {x : Except Nat (α × Nat)} {f : α → Nat → Except Nat (β × Nat)} {a : α} {i : Nat} (h : x = .ok (a, i)) : pB x f = f a i := by rw [h]; rfl
theorem pB_er {α β : Type} {x : Except Nat (α × Nat)} {f : α → Nat → Except Nat (β × Nat)} {w : Nat} (h : x = .error w) : pB x f = .error w := by rw [h]; rfl
theorem pB_inv {α β : Type} {x : Except Nat (α × Nat)} {f : α → Nat → Except Nat (β × Nat)} {q : β × Nat} (h : pB x f = .ok q) : ∃ a i, x = .ok (a, i) ∧ f a i = .ok q := by
  cases x with
  | error w => cases h
  | ok p => exact ⟨p.1, p.2, rfl, h⟩
/-- a reading goes on by m at least, and stays in the text -/
def adv {α : Type} (t : List Nat) (i m : Nat) (x : Except Nat (α × Nat)) : Prop := ∀ a j, x = .ok (a, j) → i + m ≤ j ∧ j ≤ t.length
theorem adv.bind {α β : Type} {t : List Nat} {i m : Nat} {x : Except Nat (α × Nat)} {f : α → Nat → Except Nat (β × Nat)} (h : adv t i m x) (hf : ∀ a j, x = .ok (a, j) → adv t j 0 (f a j)) : adv t i m (pB x f) := by
  intro b k e
  obtain ⟨a, j, e1, e2⟩ := pB_inv e
  have h1 := h a j e1
  have h2 := hf a j e1 b k e2
  exact ⟨by omega, h2.2⟩
theorem adv.weak {α : Type} {t : List Nat} {i m m' : Nat} {x : Except Nat (α × Nat)} (h : adv t i m x) (hm : m' ≤ m) : adv t i m' x := fun a j e => ⟨by have := (h a j e).1; omega, (h a j e).2⟩
theorem adv.from {α : Type} {t : List Nat} {i i' m m' : Nat} {x : Except Nat (α × Nat)} (h : adv t i m x) (hm : i' + m' ≤ i + m) : adv t i' m' x := fun a j e => ⟨by have := (h a j e).1; omega, (h a j e).2⟩
theorem adv.er {α : Type} {t : List Nat} {i m w : Nat} : adv t i m (.error w : Except Nat (α × Nat)) := fun a j e => by cases e
theorem adv.ok {α : Type} {t : List Nat} {i j : Nat} {a : α} (h1 : i ≤ j) (h2 : j ≤ t.length) : adv t i 0 (.ok (a, j) : Except Nat (α × Nat)) := fun b k e => by cases e; exact ⟨by omega, h2⟩
theorem adv.ite {α : Type} {t : List Nat} {i m : Nat} {p : Prop} [Decidable p] {x y : Except Nat (α × Nat)} (h1 : p → adv t i m x) (h2 : ¬ p → adv t i m y) : adv t i m (if p then x else y) := by
  by_cases h : p
  · rw [if_pos h]; exact h1 h
  · rw [if_neg h]; exact h2 h
theorem ch_lt {t : List Nat} {i c : Nat} (h : ch t i = c) (hc : c ≠ 256) : i < t.length := Nat.lt_of_not_le fun z => hc (by rw [← h, ch_out z])
theorem sm_lt {t : List Nat} {i : Nat} (h : sm (ch t i) = true) : i < t.length := Nat.lt_of_not_le fun z => by rw [ch_out z] at h; cases h
theorem pName_sub {t : List Nat} {i j : Nat} {a : Nat × Nat} (e : pName t i = .ok (a, j)) : a.1 = i ∧ a.1 + a.2 = j ∧ 1 ≤ a.2 ∧ a.2 ≤ 12 ∧ j = scan nmc t i ∧ j ≤ t.length ∧ sm (ch t i) = true := by
  unfold pName at e
  split at e
  · rename_i h
    have hl := sm_lt h.1
    have h1 := scan_ge nmc t (i + 1)
    have h2 : scan nmc t i = scan nmc t (i + 1) := scan_step hl (by rw [nmc, h.1]; rfl)
    have h3 : scan nmc t i ≤ t.length := scan_le (by omega)
    cases e
    exact ⟨rfl, by show i + (scan nmc t i - i) = _; omega, by show 1 ≤ scan nmc t i - i; omega, h.2, rfl, h3, h.1⟩
  · cases e
theorem pName_adv (t : List Nat) (i : Nat) : adv t i 1 (pName t i) := fun a j e => by
  obtain ⟨h1, h2, h3, h4, h5, h6, -⟩ := pName_sub e
  omega
theorem pStr_sub {t : List Nat} {i j : Nat} {a : Nat × Nat} (e : pStr t i = .ok (a, j)) : a.1 = i + 1 ∧ a.1 + a.2 + 1 = j ∧ j ≤ t.length ∧ ch t i = 34 ∧ j = scan qsc t (i + 1) + 1 := by
  unfold pStr at e
  split at e
  · rename_i h
    have hl := ch_lt h.2 (by decide)
    have h1 := scan_ge qsc t (i + 1)
    cases e
    exact ⟨rfl, by show i + 1 + (scan qsc t (i + 1) - i - 1) + 1 = _; omega, hl, h.1, rfl⟩
  · cases e
theorem pStr_adv (t : List Nat) (i : Nat) : adv t i 2 (pStr t i) := fun a j e => by
  obtain ⟨h1, h2, h3, h4, h5⟩ := pStr_sub e
  omega
theorem pExp_adv (c : Nat) (hc : c ≠ 256) (t : List Nat) (i : Nat) : adv t i 1 (pExp c t i) := fun a j e => by
  unfold pExp at e
  split at e
  · rename_i h
    have := ch_lt h hc
    cases e
    omega
  · cases e
theorem pSig_adv (c : Nat) (hc : c ≠ 256) (t : List Nat) (i : Nat) : adv t i 1 (pSig c t i) := (pExp_adv c hc t (scan bl t i)).from (by have := scan_ge bl t i; omega)
theorem pNum_adv (t : List Nat) {i : Nat} (hi : i ≤ t.length) : adv t i 1 (pNum t i) := fun a j e => by
  unfold pNum at e
  split at e
  · cases e
  · rename_i h
    have h1 := scan_ge dg t i
    have h2 : scan dg t i ≤ t.length := scan_le hi
    cases e
    omega
theorem cnd_ge (t : List Nat) : ∀ n i, i ≤ cnd t n i
  | 0, _ => Nat.le_refl _
  | n + 1, i => by
    unfold cnd
    split
    · have := cnd_ge t n (i + 1); omega
    · exact Nat.le_refl _
theorem pCom_adv (t : List Nat) (i : Nat) : adv t i 3 (pCom t i) := fun a j e => by
  unfold pCom at e
  split at e
  · have := cnd_ge t t.length i
    cases e
    omega
  · cases e
theorem sText_adv (t : List Nat) {i : Nat} (S : SS) (hi : i ≤ t.length) : adv t i 1 (sText t i S) := fun a j e => by
  unfold sText at e
  split at e
  · cases e
  · rename_i h
    have h1 := scan_ge txc t i
    have h2 : scan txc t i ≤ t.length := scan_le hi
    cases e
    omega
theorem sRef_adv (t : List Nat) (i : Nat) (S : SS) : adv t i 2 (sRef t i S) := by
  intro b m e
  obtain ⟨a, j, e1, e2⟩ := pB_inv e
  have h1 := pName_adv t i a j e1
  split at e2
  · cases e2
  · obtain ⟨u, k, e3, e4⟩ := pB_inv e2
    have h2 := pExp_adv 59 (by decide) t j u k e3
    cases e4
    omega
theorem sEnt_adv (t : List Nat) (i : Nat) (S : SS) : adv t i 4 (sEnt t i S) := by
  intro b m e
  obtain ⟨a, j, e1, e2⟩ := pB_inv e
  have h1 := pName_adv t i a j e1
  split at e2
  · cases e2
  · obtain ⟨u, k, e3, e4⟩ := pB_inv e2
    have h2 := pStr_adv t _ u k e3
    have h3 := scan_ge bl t j
    split at e4
    · cases e4
    · obtain ⟨v, m', e5, e6⟩ := pB_inv e4
      have h4 := pSig_adv 62 (by decide) t k v m' e5
      cases e6
      omega
theorem sFld_adv (t : List Nat) : ∀ (n : Nat) {j : Nat} (fs : List PR), j ≤ t.length → adv t j 0 (sFld t n j fs)
  | 0, j, fs, hj => by
    have h1 := scan_ge bl t j
    have h2 : scan bl t j ≤ t.length := scan_le hj
    exact adv.ite (fun _ => adv.ok h1 h2) (fun _ => adv.er)
  | n + 1, j, fs, hj => by
    have h1 := scan_ge bl t j
    have h2 : scan bl t j ≤ t.length := scan_le hj
    refine adv.ite (fun _ => adv.ok h1 h2) (fun _ => adv.ite (fun _ => adv.er) (fun _ => ?_))
    refine adv.bind ((pName_adv t (scan bl t j)).from (by omega)) fun a j1 e1 => ?_
    refine adv.ite (fun _ => ?_) (fun _ => adv.er)
    refine adv.bind ((pSig_adv 61 (by decide) t j1).weak (by omega)) fun u j2 e2 => ?_
    refine adv.bind ((pStr_adv t (scan bl t j2)).from (by have := scan_ge bl t j2; omega)) fun b j3 e3 => ?_
    exact sFld_adv t n _ (pStr_adv t _ b j3 e3).2
theorem sBeg2_adv (t : List Nat) (j : Nat) (S : SS) : adv t j 1 (sBeg2 t j S) := by
  have h1 := scan_ge bl t j
  refine adv.ite (fun _ => ?_) (fun _ => ?_)
  · exact adv.bind ((pSig_adv 62 (by decide) t _).from (by omega)) fun u m e => adv.ok (Nat.le_refl _) (pSig_adv 62 (by decide) t _ u m e).2
  · exact adv.bind ((pSig_adv 62 (by decide) t _).from (by omega)) fun u m e => adv.ok (Nat.le_refl _) (pSig_adv 62 (by decide) t _ u m e).2
theorem sBeg_adv (t : List Nat) (bg i : Nat) (S : SS) : adv t i 2 (sBeg t bg i S) := by
  intro b m e
  obtain ⟨a, j, e1, e2⟩ := pB_inv e
  have h1 := pName_adv t i a j e1
  split at e2
  · cases e2
  · obtain ⟨u, k, e3, e4⟩ := pB_inv e2
    have h2 := sFld_adv t 6 [] h1.2 u k e3
    have h3 := sBeg2_adv t k _ b m e4
    omega
theorem sEnd_adv (t : List Nat) (i : Nat) (S : SS) : adv t i 3 (sEnd t i S) := by
  refine adv.ite (fun _ => adv.er) (fun _ => ?_)
  intro b m e
  obtain ⟨a, j, e1, e2⟩ := pB_inv e
  have h1 := pName_adv t _ a j e1
  split at e2
  · obtain ⟨u, k, e3, e4⟩ := pB_inv e2
    have h2 := pSig_adv 62 (by decide) t j u k e3
    cases e4
    omega
  · cases e2
theorem sCom_adv (t : List Nat) (i : Nat) (S : SS) : adv t i 4 (sCom t i S) := by
  intro b m e
  obtain ⟨a, j, e1, e2⟩ := pB_inv e
  obtain ⟨u, k, e3, e4⟩ := pB_inv e2
  have h1 := pExp_adv 45 (by decide) t i a j e1
  have h2 := pCom_adv t j u k e3
  cases e4
  omega
theorem sMark_adv (t : List Nat) (bg i : Nat) (S : SS) : adv t i 2 (sMark t bg i S) :=
  adv.ite (fun _ => (sEnd_adv t i S).weak (by omega)) fun _ => adv.ite (fun _ => adv.ite (fun _ => (sCom_adv t _ S).from (by omega)) fun _ => (sEnt_adv t _ S).from (by omega)) fun _ => sBeg_adv t bg i S
theorem sPiece_adv (t : List Nat) {i : Nat} (S : SS) (hi : i ≤ t.length) : adv t i 1 (sPiece t i S) :=
  adv.ite (fun _ => (sMark_adv t i (i + 1) S).from (by omega)) fun _ => adv.ite (fun _ => (sRef_adv t _ S).from (by omega)) fun _ => sText_adv t S hi
