/-! WHAT IS READ, 2: styles -/
/-- a condition: kind (0 field, 1 first, 2 last, 3 empty, 4 nth, 5 not), name, text, number -/
abbrev CN : Type := Nat × (Nat × Nat) × Option (Nat × Nat) × Nat
/-- a step: name, link (256 for the first), conditions -/
abbrev ST : Type := Option (Nat × Nat) × Nat × List CN
/-- told: which name, kind (1 name, 2 number, 3 string), text, number, share, strong -/
abbrev TD : Type := Nat × Nat × (Nat × Nat) × Nat × Nat × Bool
abbrev RU : Type := List (List ST) × List TD
def pBr (t : List Nat) (i : Nat) : Except Nat (CN × Nat) := pB (pName t (scan bl t i)) fun a j => if ch t (scan bl t j) = 61 then pB (pStr t (scan bl t (scan bl t j + 1))) fun b k => pB (pSig 93 t k) fun _ m => .ok ((0, a, some b, 0), m) else pB (pSig 93 t (scan bl t j)) fun _ m => .ok ((0, a, none, 0), m)
def wFirst : List Nat := [102, 105, 114, 115, 116]
def wLast : List Nat := [108, 97, 115, 116]
def wEmpty : List Nat := [101, 109, 112, 116, 121]
def wNth : List Nat := [110, 116, 104]
def wNot : List Nat := [110, 111, 116]
def wUp : List Nat := [117, 112]
def pCo (t : List Nat) (i : Nat) : Except Nat (CN × Nat) := pB (pName t (scan bl t i)) fun a j =>
  if sub t a = wFirst then .ok ((1, (0, 0), none, 0), j) else if sub t a = wLast then .ok ((2, (0, 0), none, 0), j) else if sub t a = wEmpty then .ok ((3, (0, 0), none, 0), j) else
  if sub t a = wNth then pB (pSig 40 t j) fun _ k => pB (pNum t (scan bl t k)) fun n m => pB (pSig 41 t m) fun _ q => .ok ((4, (0, 0), none, n), q) else
  if sub t a = wNot then pB (pSig 40 t j) fun _ k => pB (pName t (scan bl t k)) fun b m => pB (pSig 41 t m) fun _ q => .ok ((5, b, none, 0), q) else .error (scan bl t i)
def pCond (t : List Nat) (s : Nat) : Except Nat (CN × Nat) := if ch t s = 91 then pBr t (s + 1) else pCo t (s + 1)
def pConds (t : List Nat) : Nat → Nat → List CN → Except Nat (List CN × Nat)
  | 0, i, cs => if ch t (scan bl t i) = 91 ∨ ch t (scan bl t i) = 58 then .error (scan bl t i) else .ok (cs, scan bl t i)
  | n + 1, i, cs => if ch t (scan bl t i) = 91 ∨ ch t (scan bl t i) = 58 then pB (pCond t (scan bl t i)) fun c j => pConds t n j (cs ++ [c]) else .ok (cs, scan bl t i)
def pHead (t : List Nat) (s : Nat) : Except Nat (Option (Nat × Nat) × Nat) := if ch t s = 42 then .ok (none, s + 1) else pB (pName t s) fun a j => .ok (some a, j)
def pStep (t : List Nat) (i lk : Nat) : Except Nat (ST × Nat) := pB (pHead t (scan bl t i)) fun nm j => pB (pConds t 4 j []) fun cs k => .ok ((nm, lk, cs), k)
def isLk (c : Nat) : Bool := c == 62 || c == 47 || c == 43
def pSteps (t : List Nat) : Nat → Nat → Nat → List ST → Except Nat (List ST × Nat)
  | 0, i, _, _ => .error (scan bl t i)
  | n + 1, i, lk, ss => pB (pStep t i lk) fun s j => if isLk (ch t (scan bl t j)) = true then pSteps t n (scan bl t j + 1) (ch t (scan bl t j)) (ss ++ [s]) else .ok (ss ++ [s], scan bl t j)
def pSel (t : List Nat) (i : Nat) : Except Nat (List ST × Nat) := pSteps t 8 i 256 []
def wSt (s : ST) : Nat := (if s.1.isSome then 1 else 0) + 100 * s.2.2.length
def wgt (l : List ST) : Nat := (l.map wSt).sum
/-- the amount of a value: number, share -/
def pAmt (t : List Nat) (s : Nat) : Except Nat ((Nat × Nat) × Nat) := pB (pNum t s) fun n j => if ch t (scan bl t j) = 37 then (if n < 1 ∨ 1000 < n then .error s else .ok ((n, n), scan bl t j + 1)) else .ok ((n, 0), scan bl t j)
/-- kind, text, number, share -/
def pVal (t : List Nat) (s : Nat) : Except Nat ((Nat × (Nat × Nat) × Nat × Nat) × Nat) := if ch t s = 34 then pB (pStr t s) fun b j => .ok ((3, b, 0, 0), j) else if dg (ch t s) = true then pB (pAmt t s) fun q j => .ok ((2, (0, 0), q.1, q.2), j) else pB (pName t s) fun a j => .ok ((1, a, 0, 0), j)
def pVal2 (t : List Nat) (i : Nat) : Except Nat (((Nat × (Nat × Nat) × Nat × Nat) × Bool) × Nat) := pB (pVal t (scan bl t i)) fun v j => if ch t (scan bl t j) = 33 then .ok ((v, true), scan bl t j + 1) else .ok ((v, false), scan bl t j)
/-- where the names have it -/
def fndN (t : List Nat) (ns : List (Nat × Nat)) (w : List Nat) : Nat := ns.findIdx (fun a => decide (sub t a = w))
def addNm (t : List Nat) (ns : List (Nat × Nat)) (a : Nat × Nat) : List (Nat × Nat) := if fndN t ns (sub t a) < ns.length then ns else ns ++ [a]
def pTold (t : List Nat) (i : Nat) (ns : List (Nat × Nat)) (cnt : Nat) : Except Nat ((TD × List (Nat × Nat)) × Nat) := pB (pName t i) fun a j => if 600 ≤ cnt ∨ 30 < (addNm t ns a).length then .error i else
  pB (pSig 58 t j) fun _ k => pB (pVal2 t k) fun v m => pB (pSig 59 t m) fun _ q => .ok (((fndN t ns (sub t a), v.1.1, v.1.2.1, v.1.2.2.1, v.1.2.2.2, v.2), addNm t ns a), q)
/-- the body of a rule: what it tells, the names known behind it -/
def pBody (t : List Nat) : Nat → Nat → List TD → List (Nat × Nat) → Nat → Except Nat ((List TD × List (Nat × Nat)) × Nat)
  | 0, i, ds, ns, _ => .ok ((ds, ns), i)
  | n + 1, i, ds, ns, cnt => if ch t (scan bl t i) = 125 then .ok ((ds, ns), scan bl t i) else pB (pTold t (scan bl t i) ns cnt) fun d j => pBody t n j (ds ++ [d.1]) d.2 (cnt + 1)
def pSels (t : List Nat) : Nat → Nat → Nat → List (List ST) → Except Nat (List (List ST) × Nat)
  | 0, i, _, ls => .ok (ls, i)
  | n + 1, i, cnt, ls => if 120 ≤ cnt then .error (scan bl t i) else pB (pSel t (scan bl t i)) fun l j => if ch t (scan bl t j) = 44 then pSels t n (scan bl t j + 1) (cnt + 1) (ls ++ [l]) else .ok (ls ++ [l], scan bl t j)
/-- rules, names, selectors' and told ones' numbers -/
abbrev YS : Type := List RU × List (Nat × Nat) × Nat × Nat
abbrev YS.ru (Y : YS) : List RU := Y.1
abbrev YS.ns (Y : YS) : List (Nat × Nat) := Y.2.1
abbrev YS.sc (Y : YS) : Nat := Y.2.2.1
abbrev YS.tc (Y : YS) : Nat := Y.2.2.2
def pRule (t : List Nat) (i : Nat) (Y : YS) : Except Nat (YS × Nat) := pB (pSels t 121 i Y.sc []) fun ls j => pB (pSig 123 t j) fun _ k => pB (pBody t 601 k [] Y.ns Y.tc) fun q m => pB (pSig 125 t m) fun _ z => .ok ((Y.ru ++ [(ls, q.1)], q.2, Y.sc + ls.length, Y.tc + q.1.length), z)
def pRules (t : List Nat) : Nat → Nat → YS → Except Nat (YS × Nat)
  | 0, i, Y => .ok (Y, i)
  | n + 1, i, Y => if ch t (scan bl t i) = 256 then .ok (Y, scan bl t i) else pB (pRule t (scan bl t i) Y) fun Y' j => pRules t n j Y'
def YS0 : YS := ([], [], 0, 0)
def pSty (t : List Nat) : Except Nat (YS × Nat) := pRules t t.length 0 YS0
/-- a selector that is asked for -/
def pAsk (t : List Nat) : Except Nat (List ST × Nat) := pB (pSel t 0) fun l j => if ch t (scan bl t j) = 256 then .ok (l, j) else .error (scan bl t j)
/-! progress -/
theorem pBr_adv (t : List Nat) (i : Nat) : adv t i 2 (pBr t i) := by
  have h0 := scan_ge bl t i
  refine adv.bnd (m := 1) (m' := 1) ((pName_adv t _).from (by omega)) fun a j e => ?_
  have h1 := scan_ge bl t j
  refine adv.ite (fun _ => ?_) (fun _ => ?_)
  · have h2 := scan_ge bl t (scan bl t j + 1)
    refine adv.bind ((pStr_adv t _).from (by omega)) fun b k e => ?_
    exact adv.bind ((pSig_adv 93 (by decide) t k).weak (by decide)) fun u m e => adv.ok (Nat.le_refl _) (pSig_adv 93 (by decide) t k u m e).2
  · exact adv.bind ((pSig_adv 93 (by decide) t _).from (by omega)) fun u m e => adv.ok (Nat.le_refl _) (pSig_adv 93 (by decide) t _ u m e).2
theorem pCo_adv (t : List Nat) (i : Nat) : adv t i 1 (pCo t i) := by
  have h0 := scan_ge bl t i
  refine adv.bind ((pName_adv t _).from (by omega)) fun a j e => ?_
  have hj := (pName_adv t _ a j e).2
  refine adv.ite (fun _ => adv.ok (Nat.le_refl _) hj) fun _ => adv.ite (fun _ => adv.ok (Nat.le_refl _) hj) fun _ => adv.ite (fun _ => adv.ok (Nat.le_refl _) hj) fun _ => adv.ite (fun _ => ?_) fun _ => adv.ite (fun _ => ?_) fun _ => adv.er
  · refine adv.bind ((pSig_adv 40 (by decide) t j).weak (by decide)) fun u k e => ?_
    have hk := (pSig_adv 40 (by decide) t j u k e).2
    have h1 := scan_ge bl t k
    refine adv.bind ((pNum_adv t (scan_le hk)).from (by omega)) fun n m e => ?_
    exact adv.bind ((pSig_adv 41 (by decide) t m).weak (by decide)) fun u q e => adv.ok (Nat.le_refl _) (pSig_adv 41 (by decide) t m u q e).2
  · refine adv.bind ((pSig_adv 40 (by decide) t j).weak (by decide)) fun u k e => ?_
    have h1 := scan_ge bl t k
    refine adv.bind ((pName_adv t _).from (by omega)) fun n m e => ?_
    exact adv.bind ((pSig_adv 41 (by decide) t m).weak (by decide)) fun u q e => adv.ok (Nat.le_refl _) (pSig_adv 41 (by decide) t m u q e).2
theorem pCond_adv (t : List Nat) (s : Nat) : adv t s 2 (pCond t s) := adv.ite (fun _ => (pBr_adv t (s + 1)).from (by omega)) fun _ => (pCo_adv t (s + 1)).from (by omega)
theorem pConds_adv (t : List Nat) : ∀ (n : Nat) {i : Nat} (cs : List CN), i ≤ t.length → adv t i 0 (pConds t n i cs)
  | 0, i, cs, hi => adv.ite (fun _ => adv.er) fun _ => adv.ok (scan_ge _ _ _) (scan_le hi)
  | n + 1, i, cs, hi => by
    refine adv.ite (fun _ => ?_) fun _ => adv.ok (scan_ge _ _ _) (scan_le hi)
    refine adv.bind ((pCond_adv t _).from (by have := scan_ge bl t i; omega)) fun c j e => ?_
    exact pConds_adv t n _ (pCond_adv t _ c j e).2
theorem pHead_adv (t : List Nat) (s : Nat) : adv t s 1 (pHead t s) := by
  unfold pHead
  by_cases h : ch t s = 42
  · rw [if_pos h]
    have := ch_lt h (by decide)
    intro a j e
    cases e
    omega
  · rw [if_neg h]
    exact adv.bind (pName_adv t s) fun a j e => adv.ok (Nat.le_refl _) (pName_adv t s a j e).2
theorem pStep_adv (t : List Nat) (i lk : Nat) : adv t i 1 (pStep t i lk) := by
  refine adv.bind ((pHead_adv t _).from (by have := scan_ge bl t i; omega)) fun nm j e => ?_
  have hj := (pHead_adv t _ nm j e).2
  exact adv.bind (pConds_adv t 4 [] hj) fun cs k e => adv.ok (Nat.le_refl _) (pConds_adv t 4 [] hj cs k e).2
theorem isLk_lt {t : List Nat} {s : Nat} (h : isLk (ch t s) = true) : s < t.length := Nat.lt_of_not_le fun z => by rw [ch_out z] at h; cases h
theorem pSteps_adv (t : List Nat) : ∀ (n i lk : Nat) (ss : List ST), adv t i 1 (pSteps t n i lk ss)
  | 0, i, lk, ss => adv.er
  | n + 1, i, lk, ss => by
    refine adv.bind (pStep_adv t i lk) fun s j e => ?_
    have hj := (pStep_adv t i lk s j e).2
    have h1 := scan_ge bl t j
    refine adv.ite (fun _ => ?_) fun _ => adv.ok h1 (scan_le hj)
    exact (pSteps_adv t n _ _ _).from (by omega)
theorem pSel_adv (t : List Nat) (i : Nat) : adv t i 1 (pSel t i) := pSteps_adv t 8 i 256 []
theorem pAmt_adv (t : List Nat) {s : Nat} (hs : s ≤ t.length) : adv t s 1 (pAmt t s) := by
  refine adv.bind (pNum_adv t hs) fun n j e => ?_
  have hj := (pNum_adv t hs n j e).2
  have h1 := scan_ge bl t j
  by_cases h : ch t (scan bl t j) = 37
  · rw [if_pos h]
    have := ch_lt h (by decide)
    exact adv.ite (fun _ => adv.er) fun _ => adv.ok (by omega) this
  · rw [if_neg h]
    exact adv.ok h1 (scan_le hj)
theorem dg_lt {t : List Nat} {s : Nat} (h : dg (ch t s) = true) : s < t.length := Nat.lt_of_not_le fun z => by rw [ch_out z] at h; cases h
theorem pVal_adv (t : List Nat) (s : Nat) : adv t s 1 (pVal t s) := by
  unfold pVal
  by_cases h : ch t s = 34
  · rw [if_pos h]
    exact adv.bind ((pStr_adv t s).weak (by decide)) fun b j e => adv.ok (Nat.le_refl _) (pStr_adv t s b j e).2
  · rw [if_neg h]
    by_cases h2 : dg (ch t s) = true
    · rw [if_pos h2]
      have := dg_lt h2
      exact adv.bind (pAmt_adv t (by omega)) fun b j e => adv.ok (Nat.le_refl _) (pAmt_adv t (by omega) b j e).2
    · rw [if_neg h2]
      exact adv.bind (pName_adv t s) fun b j e => adv.ok (Nat.le_refl _) (pName_adv t s b j e).2
theorem pVal2_adv (t : List Nat) (i : Nat) : adv t i 1 (pVal2 t i) := by
  refine adv.bind ((pVal_adv t _).from (by have := scan_ge bl t i; omega)) fun v j e => ?_
  have hj := (pVal_adv t _ v j e).2
  have h1 := scan_ge bl t j
  by_cases h : ch t (scan bl t j) = 33
  · rw [if_pos h]
    exact adv.ok (by omega) (ch_lt h (by decide))
  · rw [if_neg h]
    exact adv.ok h1 (scan_le hj)
theorem pTold_adv (t : List Nat) (i : Nat) (ns : List (Nat × Nat)) (cnt : Nat) : adv t i 4 (pTold t i ns cnt) := by
  refine adv.bnd (m := 1) (m' := 3) (pName_adv t i) fun a j e => ?_
  refine adv.ite (fun _ => adv.er) fun _ => ?_
  refine adv.bnd (m := 1) (m' := 2) (pSig_adv 58 (by decide) t j) fun u k e => ?_
  refine adv.bnd (m := 1) (m' := 1) (pVal2_adv t k) fun v m e => ?_
  exact adv.bind (pSig_adv 59 (by decide) t m) fun u q e => adv.ok (Nat.le_refl _) (pSig_adv 59 (by decide) t m u q e).2
theorem pBody_adv (t : List Nat) : ∀ (n : Nat) {i : Nat} (ds : List TD) (ns : List (Nat × Nat)) (cnt : Nat), i ≤ t.length → adv t i 0 (pBody t n i ds ns cnt)
  | 0, i, ds, ns, cnt, hi => adv.ok (Nat.le_refl _) hi
  | n + 1, i, ds, ns, cnt, hi => by
    have h1 := scan_ge bl t i
    refine adv.ite (fun _ => adv.ok h1 (scan_le hi)) fun _ => ?_
    refine adv.bind ((pTold_adv t _ ns cnt).from (by omega)) fun d j e => ?_
    exact pBody_adv t n _ _ _ (pTold_adv t _ ns cnt d j e).2
theorem pSels_adv (t : List Nat) : ∀ (n : Nat) {i : Nat} (cnt : Nat) (ls : List (List ST)), i ≤ t.length → adv t i 0 (pSels t n i cnt ls)
  | 0, i, cnt, ls, hi => adv.ok (Nat.le_refl _) hi
  | n + 1, i, cnt, ls, hi => by
    have h0 := scan_ge bl t i
    refine adv.ite (fun _ => adv.er) fun _ => ?_
    refine adv.bind ((pSel_adv t _).from (by omega)) fun l j e => ?_
    have hj := (pSel_adv t _ l j e).2
    have h1 := scan_ge bl t j
    by_cases h : ch t (scan bl t j) = 44
    · rw [if_pos h]
      exact (pSels_adv t n _ _ (ch_lt h (by decide))).from (by omega)
    · rw [if_neg h]
      exact adv.ok h1 (scan_le hj)
theorem pRule_adv (t : List Nat) {i : Nat} (Y : YS) (hi : i ≤ t.length) : adv t i 2 (pRule t i Y) := by
  refine adv.bnd (m := 0) (m' := 2) (pSels_adv t 121 _ _ hi) fun ls j e => ?_
  refine adv.bnd (m := 1) (m' := 1) (pSig_adv 123 (by decide) t j) fun u k e => ?_
  have hk := (pSig_adv 123 (by decide) t j u k e).2
  refine adv.bnd (m := 0) (m' := 1) (pBody_adv t 601 _ _ _ hk) fun q m e => ?_
  exact adv.bind (pSig_adv 125 (by decide) t m) fun u z e => adv.ok (Nat.le_refl _) (pSig_adv 125 (by decide) t m u z e).2
