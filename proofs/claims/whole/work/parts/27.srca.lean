/-! CONTRACTS, 7: how the class holds a source -/
def dj (xs : List Nat) (e : Nat) (ys : List Nat) (f : Nat) : Prop := xs ≠ [] → ys ≠ [] → e ≠ f
theorem dj.sym {xs ys : List Nat} {e f : Nat} (h : dj xs e ys f) : dj ys f xs e := fun a b => Ne.symm (h b a)
theorem isL.off {D : xD} {h : xH} {A e q k : Nat} {xs : List Nat} {v : List Value} (H : isL D h A e xs) (hq : h q = some (k, v)) (h1 : k ≠ 12) (h2 : k ≠ 104) : q ∉ A :: oL xs e := by
  intro z
  rcases List.mem_cons.mp z with rfl | z
  · obtain ⟨w, hw⟩ := H.cell
    rw [hw] at hq; cases hq; exact h1 rfl
  · obtain ⟨rfl, hx⟩ := oL_sub _ _ z
    obtain ⟨w, hw⟩ := H.arr hx
    rw [hw] at hq; cases hq; exact h2 rfl
theorem isL.ind {D : xD} {h h' : xH} {A e A' e' : Nat} {xs xs' : List Nat} (H : isL D h A e xs) (H' : isL D h A' e' xs') (hA : A ≠ A') (hd : dj xs e xs' e') (f : fr (A' :: oL xs' e') h h') (k : kp h h') : isL D h' A e xs := by
  refine H.frm f k ?_ ?_
  · intro z
    rcases List.mem_cons.mp z with z | z
    · exact hA z
    · obtain ⟨rfl, hx⟩ := oL_sub _ _ z
      obtain ⟨v, hv⟩ := H'.arr hx
      obtain ⟨w, hw⟩ := H.cell
      rw [hv] at hw; cases hw
  · intro hx z
    rcases List.mem_cons.mp z with z | z
    · subst z
      obtain ⟨v, hv⟩ := H.arr hx
      obtain ⟨w, hw⟩ := H'.cell
      rw [hv] at hw; cases hw
    · obtain ⟨z, hx'⟩ := oL_sub _ _ z
      exact hd hx hx' z

set_option maxRecDepth 20000 in
theorem c_addL {l : Launch} {D : xD} {h : xH} {A e x cx : Nat} {fx : List Value} {xs : List Nat} (E : env D h) (H : isL D h A e xs) (hx : h x = some (cx, fx)) (hok : xok4 cx = true) (q3 : ∀ x ∈ xs, ∃ ci fs, h x = some (ci, fs) ∧ xok4 ci = true) (hn : xs.length < 2 ^ 18) : xMet l D 6 y_AL_add [.ref A, .ref x] h (amc (capN xs.length) xs.length) (gS (xs.length + 1) - gS xs.length) (fun o h' => (∃ e', isL D h' A e' (xs ++ [x]) ∧ ((xs ≠ [] ∧ e' = e) ∨ h e' = none)) ∧ fr (A :: oL xs e) h h' ∧ kp h h' ∧ o = .inl (some (.int 1))) := by
  refine (c_add E H hx hok q3 hn).mono ?_
  rintro o h' ⟨⟨e', y1, y2⟩, y3⟩
  refine ⟨⟨e', y1, ?_⟩, y3⟩
  rcases y2 with z | z
  · refine Or.inl ⟨fun y => ?_, z⟩
    subst y
    subst z
    rcases H.2.2.2 with ⟨-, a, -⟩ | ⟨a, -⟩
    · rcases y1.2.2.2 with ⟨b, -⟩ | ⟨-, b, -⟩
      · have := capN_pos (n := ([] ++ [x]).length) (by simp); omega
      · exact b a
    · exact absurd a (Nat.lt_irrefl _)
  · exact Or.inr z
theorem dj.add {D : xD} {h : xH} {A e A' e' x e2 : Nat} {xs ys : List Nat} (H : isL D h A e ys) (hd : dj ys e xs e') (hz : (xs ≠ [] ∧ e2 = e') ∨ h e2 = none) : dj ys e (xs ++ [x]) e2 := by
  intro h1 _
  rcases hz with ⟨a, rfl⟩ | a
  · exact hd h1 a
  · obtain ⟨v, hv⟩ := H.arr h1
    exact xnn hv a
theorem fr.none {h0 h : xH} {r a : Nat} {c : xC} (f : fr [r] h0 h) (hr : h r = some c) (ha : h a = none) : h0 a = none := by
  cases e : h0 a with
  | none => rfl
  | some d =>
    have : a ≠ r := fun z => by rw [z, hr] at ha; cases ha
    rw [f.one e this] at ha; cases ha
def pad (ad : Nat → Nat) (ro x : Nat) : Nat := match x with
  | 0 => ro
  | k + 1 => ad k
def rfn (ad : Nat → Nat) (x : Nat) : Value := match x with
  | 0 => .null
  | k + 1 => .ref (ad k)
/-- a piece's bytes -/
def pby (t : List Nat) (p : Nat × Nat) : List Nat := if p.1 = 8192 then [60] else if p.1 = 8193 then [38] else sub t p
def nmB (t : List Nat) (q : PR) : List Nat × List Nat := (sub t q.1, sub t q.2)
def enB (t : List Nat) (en : List PR) : List (List Nat × List Nat) := (wLt, [60]) :: (wAmp, [38]) :: en.map (nmB t)
abbrev SG : Type := (Nat × Nat × Nat × Nat) × (Nat × Nat × Nat) × (Nat × Nat) × ((Nat → Nat) × (Nat → Nat) × (Nat → Nat) × (Nat → Nat) × (Nat → List Nat)) × List Nat × List Nat
abbrev SG.ro (G : SG) : Nat := G.1.1
abbrev SG.le (G : SG) : Nat := G.1.2.1
abbrev SG.lt (G : SG) : Nat := G.1.2.2.1
abbrev SG.ln (G : SG) : Nat := G.1.2.2.2
abbrev SG.e1 (G : SG) : Nat := G.2.1.1
abbrev SG.e2 (G : SG) : Nat := G.2.1.2.1
abbrev SG.e3 (G : SG) : Nat := G.2.1.2.2
abbrev SG.rn (G : SG) : Nat := G.2.2.1.1
abbrev SG.rf (G : SG) : Nat := G.2.2.1.2
abbrev SG.ad (G : SG) : Nat → Nat := G.2.2.2.1.1
abbrev SG.ns (G : SG) : Nat → Nat := G.2.2.2.1.2.1
abbrev SG.fl (G : SG) : Nat → Nat := G.2.2.2.1.2.2.1
abbrev SG.ef (G : SG) : Nat → Nat := G.2.2.2.1.2.2.2.1
abbrev SG.fas (G : SG) : Nat → List Nat := G.2.2.2.1.2.2.2.2
abbrev SG.ts (G : SG) : List Nat := G.2.2.2.2.1
abbrev SG.es (G : SG) : List Nat := G.2.2.2.2.2
abbrev elV (G : SG) (F : SF) (i : Nat) : List Value := [.ref (G.ns i), .ref (pad G.ad G.ro (F 2 i)), rfn G.ad (F 3 i), .int (nI i), .int (nI (F 4 i)), .int (nI (F 5 i)), .int (nI (F 6 i)), .ref (G.fl i), rfn G.ad (F 9 i), .int (nI (F 8 i)), .int (nI (F 10 i)), .int (nI (F 11 i)), .int (nI (F 12 i)), .int (nI (F 15 i)), .int (nI (F 16 i))]
abbrev roV (G : SG) (tm tl : Nat) : List Value := [.ref G.rn, .null, .null, .int (-1), .int 0, .int (-1), .int 0, .ref G.rf, rfn G.ad tl, .int (nI tm), .int 0, .int 0, .int 0, .int 0, .int 0]
def elI (D : xD) (B : Nat → Prop) (h : xH) (t : List Nat) (S : SS) (G : SG) (i : Nat) : Prop := h (G.ad i) = some (4, elV G S.F i) ∧ isS B h (G.ns i) (sub t (S.F 0 i, S.F 1 i)) ∧ isL D h (G.fl i) (G.ef i) (G.fas i) ∧ all2 (isNm B h) (G.fas i) ((S.fd i).map (nmB t))
abbrev elA (S : SS) (G : SG) : List Nat := (List.range S.n).map G.ad
/-- the heap holds S -/
def srcR (D : xD) (B : Nat → Prop) (h : xH) (so : Nat) (t : List Nat) (S : SS) (G : SG) : Prop :=
  h so = some (5, [.ref G.le, .ref G.lt, .ref G.ln, .ref G.ro, .ref (pad G.ad G.ro S.op)]) ∧ h G.ro = some (4, roV G S.tm S.tl) ∧ isL D h G.le G.e1 (elA S G) ∧ isL D h G.lt G.e2 G.ts ∧ isL D h G.ln G.e3 G.es ∧
  all2 (isS B h) G.ts (S.pc.map (pby t)) ∧ all2 (isNm B h) G.es (enB t S.en) ∧ ∀ i, i < S.n → elI D B h t S G i
/-- what is of its own -/
def srcP (h0 : xH) (so : Nat) (S : SS) (G : SG) : Prop :=
  (h0 so = none ∧ h0 G.ro = none ∧ h0 G.le = none ∧ h0 G.lt = none ∧ h0 G.ln = none) ∧ ((elA S G ≠ [] → h0 G.e1 = none) ∧ (G.ts ≠ [] → h0 G.e2 = none) ∧ (G.es ≠ [] → h0 G.e3 = none)) ∧
  (G.le ≠ G.lt ∧ G.le ≠ G.ln ∧ G.lt ≠ G.ln) ∧ (dj (elA S G) G.e1 G.ts G.e2 ∧ dj (elA S G) G.e1 G.es G.e3 ∧ dj G.ts G.e2 G.es G.e3) ∧
  (∀ i, i < S.n → h0 (G.ad i) = none ∧ G.ad i ≠ G.ro ∧ ∀ j, j < S.n → G.ad i = G.ad j → i = j) ∧
  ∀ i, i < S.n → (G.fl i ≠ G.le ∧ G.fl i ≠ G.lt ∧ G.fl i ≠ G.ln) ∧ dj (G.fas i) (G.ef i) (elA S G) G.e1 ∧ dj (G.fas i) (G.ef i) G.ts G.e2 ∧ dj (G.fas i) (G.ef i) G.es G.e3
def SOk (t : List Nat) (i : Nat) (S : SS) : Prop := S.op ≤ S.n ∧ S.n ≤ 500 ∧ S.tl ≤ S.n ∧ (∀ k, k < S.n → S.F 2 k ≤ k ∧ S.F 3 k ≤ k ∧ S.F 9 k ≤ S.n ∧ S.F 5 k < 20) ∧ (∀ q ∈ S.en, q.2.1 + q.2.2 < t.length) ∧ S.en.length ≤ 40 ∧ S.pc.length ≤ i ∧ S.n ≤ i ∧ t.length ≤ 8192
def srcI (D : xD) (B : Nat → Prop) (h0 h : xH) (so r b : Nat) (t : List Nat) (i : Nat) (S : SS) : Prop := ∃ G : SG, rdr h r b t i (-1) ∧ fr [r] h0 h ∧ env D h ∧ srcR D B h so t S G ∧ srcP h0 so S G ∧ SOk t i S
/-- a step over a frame that leaves the source alone -/
theorem srcR.adv {B : Nat → Prop} {D : xD} {h h' : xH} {so : Nat} {t : List Nat} {S : SS} {G : SG} {M : List Nat} (R : srcR D B h so t S G) (f : fr M h h') (hM : ∀ q ∈ M, ∀ c, h q = some c → c.1 = 1) : srcR D B h' so t S G := by
  have off : ∀ {q k v}, h q = some (k, v) → k ≠ 1 → h' q = some (k, v) := fun {q k v} e hk => f _ _ e fun z => hk (hM q z _ e)
  have k : kp h h' := f.im fun q hq c e => by rw [hM q hq c e]; rfl
  have L : ∀ {A e xs}, isL D h A e xs → isL D h' A e xs := by
    intro A e xs H
    refine H.frm f k (fun z => ?_) (fun hx z => ?_)
    · obtain ⟨v, hv⟩ := H.cell
      have := hM _ z _ hv
      cases this
    · obtain ⟨v, hv⟩ := H.arr hx
      have := hM _ z _ hv
      cases this
  obtain ⟨r1, r2, r3, r4, r5, r6, r7, r8⟩ := R
  refine ⟨off r1 (by decide), off r2 (by decide), L r3, L r4, L r5, r6.mono fun a b q => q.kept k, r7.mono fun a b q => q.kept k, fun i hi => ?_⟩
  obtain ⟨a, b, c, d⟩ := r8 i hi
  exact ⟨off a (by decide), b.kept k, L c, d.mono fun a b q => q.kept k⟩
theorem srcI.adv {B : Nat → Prop} {D : xD} {h0 h h' : xH} {so r b i j : Nat} {t : List Nat} {S : SS} (I : srcI D B h0 h so r b t i S) (f : fr [r] h h') (H : rdr h' r b t j (-1)) (hij : i ≤ j) : srcI D B h0 h' so r b t j S := by
  obtain ⟨G, a, b, c, d, e, g⟩ := I
  have hM : ∀ q ∈ [r], ∀ c, h q = some c → c.1 = 1 := fun q hq c e => by rw [List.mem_singleton.mp hq, a.1] at e; cases e; rfl
  refine ⟨G, H, b.tr f, c.kept (f.im fun q hq c e => by rw [hM q hq c e]; rfl), d.adv f hM, e, ?_⟩
  obtain ⟨g1, g2, g3, g4, g5, g6, g7, g8, g9⟩ := g
  exact ⟨g1, g2, g3, g4, g5, g6, by omega, by omega, g9⟩
theorem srcI.new {B : Nat → Prop} {D : xD} {h0 h : xH} {so r b i a : Nat} {t : List Nat} {S : SS} {c : xC} (I : srcI D B h0 h so r b t i S) (ha : h a = none) : srcI D B h0 (xset h a c) so r b t i S := by
  obtain ⟨G, q1, q2, q3, q4, q5, q6⟩ := I
  exact ⟨G, q1.new ha, q2.put (Or.inr (q2.none q1.1 ha)), q3.kept ((kp.refl _).new ha), q4.adv (M := []) (fr.new ha _ _) (fun q hq => by cases hq), q5, q6⟩
theorem srcI.rd {B : Nat → Prop} {D : xD} {h0 h : xH} {so r b i : Nat} {t : List Nat} {S : SS} (I : srcI D B h0 h so r b t i S) : rdr h r b t i (-1) := by
  obtain ⟨G, q1, -⟩ := I
  exact q1
theorem srcI.frm {B : Nat → Prop} {D : xD} {h0 h : xH} {so r b i : Nat} {t : List Nat} {S : SS} (I : srcI D B h0 h so r b t i S) : fr [r] h0 h := by
  obtain ⟨G, -, q1, -⟩ := I
  exact q1
/-- a reading of a source -/
def sRes (D : xD) (B : Nat → Prop) (h0 : xH) (so r b : Nat) (t : List Nat) (res : Except Nat (SS × Nat)) (o : xO) (h' : xH) : Prop := match res with
  | .error w => xEr r b w [] h0 o h'
  | .ok q => srcI D B h0 h' so r b t q.2 q.1 ∧ o = .inl none
theorem sRes.er {B : Nat → Prop} {D : xD} {h0 h' : xH} {so r b w : Nat} {t : List Nat} {res : Except Nat (SS × Nat)} {o : xO} (e : res = .error w) (q : xEr r b w [] h0 o h') : sRes D B h0 so r b t res o h' := by subst e; exact q
theorem sRes.ok {B : Nat → Prop} {D : xD} {h0 h' : xH} {so r b j : Nat} {t : List Nat} {S : SS} {res : Except Nat (SS × Nat)} {o : xO} (e : res = .ok (S, j)) (q : srcI D B h0 h' so r b t j S) (ho : o = .inl none) : sRes D B h0 so r b t res o h' := by subst e; exact ⟨q, ho⟩
theorem xEr.base {r b w : Nat} {h0 h h' : xH} {o : xO} (q : xEr r b w [] h o h') (f : fr [r] h0 h) : xEr r b w [] h0 o h' := q.tr f (fun _ z => absurd z List.not_mem_nil)
theorem xEr.hr {r b w : Nat} {h h' : xH} {o : xO} {M : List Nat} (q : xEr r b w M h o h') : ∃ e, o = .inr (16, e) := q.1
/-- costs: K for each byte that is read; E more where it breaks -/
def cst {α : Type} (K E len i : Nat) (x : Except Nat (α × Nat)) : Nat := match x with
  | .ok q => K * (q.2 - i)
  | .error _ => K * (len - i) + E
theorem cst_ok {α : Type} {K E len i j : Nat} {a : α} {x : Except Nat (α × Nat)} (h : x = .ok (a, j)) : cst K E len i x = K * (j - i) := by rw [h]; rfl
theorem cst_er {α : Type} {K E len i w : Nat} {x : Except Nat (α × Nat)} (h : x = .error w) : cst K E len i x = K * (len - i) + E := by rw [h]; rfl
theorem cst_bind {α β : Type} {K E i j : Nat} {t : List Nat} {a : α} {x : Except Nat (α × Nat)} {f : α → Nat → Except Nat (β × Nat)} (h : x = .ok (a, j)) (hij : i ≤ j) (hj : j ≤ t.length) (hf : adv t j 0 (f a j)) : cst K E t.length i (pB x f) = K * (j - i) + cst K E t.length j (f a j) := by
  rw [pB_ok h]
  cases e : f a j with
  | error w =>
    show K * (t.length - i) + E = K * (j - i) + (K * (t.length - j) + E)
    rw [← Nat.add_assoc, ← Nat.mul_add]
    congr 2
    omega
  | ok q =>
    have := hf q.1 q.2 e
    show K * (q.2 - i) = K * (j - i) + K * (q.2 - j)
    rw [← Nat.mul_add]
    congr 1
    omega
theorem cst_ge {α : Type} {K E i m : Nat} {t : List Nat} {x : Except Nat (α × Nat)} (h : adv t i m x) (hE : K * m ≤ E) : K * m ≤ cst K E t.length i x := by
  cases e : x with
  | error w => show K * m ≤ K * (t.length - i) + E; omega
  | ok q =>
    have := h q.1 q.2 e
    exact Nat.mul_le_mul_left _ (by omega)
/-- growth of the three lists -/
def grw (S S' : SS) : Nat := (gS S'.n - gS S.n) + (gS S'.pc.length - gS S.pc.length) + (gS (S'.en.length + 2) - gS (S.en.length + 2))
def grE (S : SS) : Nat := (gS (S.n + 1) - gS S.n) + (gS (S.pc.length + 1) - gS S.pc.length) + (gS (S.en.length + 3) - gS (S.en.length + 2))
def gRes (S : SS) (x : Except Nat (SS × Nat)) : Nat := match x with
  | .ok q => grw S q.1
  | .error _ => grE S
theorem gRes_ok {S S' : SS} {j : Nat} {x : Except Nat (SS × Nat)} (h : x = .ok (S', j)) : gRes S x = grw S S' := by rw [h]; rfl
theorem gRes_er {S : SS} {w : Nat} {x : Except Nat (SS × Nat)} (h : x = .error w) : gRes S x = grE S := by rw [h]; rfl
