/-! CONTRACTS, 20: the lists of a style -/
theorem gS_120 : ∀ n, n < 120 → gS (n + 1) - gS n ≤ 163 := by decide +kernel
theorem gS_600 : ∀ n, n < 601 → gS (n + 1) - gS n ≤ 823 := by decide +kernel
theorem gS_31 : ∀ n, n < 31 → gS (n + 1) - gS n ≤ 49 := by decide +kernel
/-- a list: address, array, members -/
abbrev LG : Type := Nat × Nat × List Nat
def lst (D : xD) (h : xH) (O : List Nat) (n : Nat) (G : Nat → LG) : Prop := (∀ k, k < n → isL D h (G k).1 (G k).2.1 (G k).2.2 ∧ (G k).1 ∈ O ∧ ((G k).2.2 ≠ [] → (G k).2.1 ∈ O)) ∧ ∀ j k, j < n → k < n → j ≠ k → (G j).1 ≠ (G k).1 ∧ ((G j).2.2 ≠ [] → (G k).2.2 ≠ [] → (G j).2.1 ≠ (G k).2.1)
def lup (G : Nat → LG) (k : Nat) (v : LG) : Nat → LG := fun j => if j = k then v else G j
theorem lup_eq (G : Nat → LG) (k : Nat) (v : LG) : lup G k v k = v := if_pos rfl
theorem lup_ne (G : Nat → LG) {k j : Nat} (v : LG) (h : j ≠ k) : lup G k v j = G j := if_neg h
theorem lst.frm {D : xD} {h h' : xH} {O O' M : List Nat} {n : Nat} {G : Nat → LG} (Ls : lst D h O n G) (f : fr M h h') (k : kp h h') (h1 : ∀ j, j < n → (G j).1 ∉ M) (h2 : ∀ j, j < n → (G j).2.2 ≠ [] → (G j).2.1 ∉ M) (hO : ∀ q ∈ O, q ∈ O') : lst D h' O' n G :=
  ⟨fun j hj => ⟨(Ls.1 j hj).1.frm f k (h1 j hj) (h2 j hj), hO _ (Ls.1 j hj).2.1, fun z => hO _ ((Ls.1 j hj).2.2 z)⟩, Ls.2⟩
theorem lst.kl {D : xD} {h0 h h' : xH} {r b i n : Nat} {t O : List Nat} {G : Nat → LG} (Ls : lst D h O n G) (C : cx D h0 h r b t i O) (f : fr [r] h h') : lst D h' O n G :=
  Ls.frm f (f.im1 C.1.1 rfl) (fun j hj => by simpa using C.ner (Ls.1 j hj).2.1) (fun j hj z => by simpa using C.ner ((Ls.1 j hj).2.2 z)) fun q hq => hq
theorem lst.put {D : xD} {h : xH} {y n k : Nat} {O : List Nat} {G : Nat → LG} {v : List Value} {c : xC} (Ls : lst D h O n G) (hy : h y = some (k, v)) (k1 : k ≠ 12) (k2 : k ≠ 104) (hk : immK k = false) : lst D (xset h y c) O n G :=
  Ls.frm (M := [y]) (fr.set _ _ _) ((kp.refl _).put hy hk) (fun j hj z => by
    obtain ⟨w, hw⟩ := (Ls.1 j hj).1.cell
    rw [List.mem_singleton.mp z, hy] at hw; cases hw; exact k1 rfl) (fun j hj hx z => by
    obtain ⟨w, hw⟩ := (Ls.1 j hj).1.arr hx
    rw [List.mem_singleton.mp z, hy] at hw; cases hw; exact k2 rfl) fun q hq => hq
theorem lst.new {D : xD} {h : xH} {y n : Nat} {O O' : List Nat} {G : Nat → LG} {c : xC} (Ls : lst D h O n G) (hy : h y = none) (hO : ∀ q ∈ O, q ∈ O') : lst D (xset h y c) O' n G :=
  ⟨fun j hj => ⟨(Ls.1 j hj).1.new hy, hO _ (Ls.1 j hj).2.1, fun z => hO _ ((Ls.1 j hj).2.2 z)⟩, Ls.2⟩
set_option maxRecDepth 20000 in
theorem c_addG {l : Launch} {D : xD} {h0 h : xH} {r b i n k x cx' : Nat} {fx : List Value} {t O : List Nat} {G : Nat → LG} (C : cx D h0 h r b t i O) (Ls : lst D h O n G) (hk : k < n) (hx : h x = some (cx', fx)) (hok : xok4 cx' = true) (q3 : ∀ x ∈ (G k).2.2, ∃ ci fs, h x = some (ci, fs) ∧ xok4 ci = true) (hn : (G k).2.2.length < 2 ^ 18) : xMet l D 6 y_AL_add [.ref (G k).1, .ref x] h (amc (capN (G k).2.2.length) (G k).2.2.length) (gS ((G k).2.2.length + 1) - gS (G k).2.2.length) (fun o h' => ∃ e' O', cx D h0 h' r b t i O' ∧ fr [] (zz h0 O h) (zz h0 O' h') ∧ lst D h' O' n (lup G k ((G k).1, e', (G k).2.2 ++ [x])) ∧ (∀ q k v, h q = some (k, v) → k ≠ 12 → k ≠ 104 → h' q = some (k, v) ∧ (q ∈ O → k ≠ 204 → q ∈ O')) ∧ o = .inl (some (.int 1))) := by
  obtain ⟨L, hA, he⟩ := Ls.1 k hk
  refine (c_addC C hA he L hx hok q3 hn).mono ?_
  rintro o h' ⟨e', O', C', z', L', me, hee, mO, f, kk, hf, rfl⟩
  refine ⟨e', O', C', z', ⟨fun j hj => ?_, ?_⟩, fun q k' v e1 k1 k2 => ⟨hf q k' v e1 k1 k2, fun hq k3 => mO q hq (L.nearr C.2.1 e1 k2 k3)⟩, rfl⟩
  · obtain ⟨va, hva⟩ := L.cell
    by_cases hjk : j = k
    · subst hjk
      rw [lup_eq]
      exact ⟨L', mO _ hA (L.nearr C.2.1 hva (by decide) (by decide)), fun _ => me⟩
    · rw [lup_ne _ _ hjk]
      obtain ⟨Lj, hAj, hej⟩ := Ls.1 j hj
      obtain ⟨d1, d2⟩ := Ls.2 j k hj hk hjk
      obtain ⟨vj, hvj⟩ := Lj.cell
      have ene : (G j).2.2 ≠ [] → (G j).2.1 ≠ (G k).2.1 := fun z y => by
        by_cases hxs : (G k).2.2 = []
        · have := Lj.mine z
          rw [hxs] at L
          rw [y] at this
          exact this L.shared
        · exact d2 z hxs y
      refine ⟨Lj.frm f kk (fun z => ?_) (fun hx z => ?_), mO _ hAj (L.nearr C.2.1 hvj (by decide) (by decide)), fun z => mO _ (hej z) (ene z)⟩
      · rcases List.mem_cons.mp z with y | y
        · exact d1 y
        · obtain ⟨y1, y2⟩ := oL_sub _ _ y
          exact L.nearr C.2.1 hvj (by decide) (by decide) y1
      · rcases List.mem_cons.mp z with y | y
        · obtain ⟨w, hw⟩ := Lj.arr hx
          rw [y, hva] at hw; cases hw
        · exact ene hx (oL_sub _ _ y).1
  · have side : ∀ j, j < n → j ≠ k → (G j).2.2 ≠ [] → (G j).2.1 ≠ e' := fun j hj hjk z y => by
      obtain ⟨Lj, hAj, hej⟩ := Ls.1 j hj
      obtain ⟨w, hw⟩ := Lj.arr z
      rcases hee with y2 | y2
      · by_cases hxs : (G k).2.2 = []
        · have := Lj.mine z
          rw [hxs] at L
          rw [y, y2] at this
          exact this L.shared
        · exact (Ls.2 j k hj hk hjk).2 z hxs (y.trans y2)
      · rw [← y, hw] at y2; cases y2
    intro j j' hj hj' hjj
    by_cases h1 : j = k
    · subst h1
      rw [lup_eq, lup_ne _ _ (Ne.symm hjj)]
      exact ⟨(Ls.2 j j' hj hj' hjj).1, fun _ z y => side j' hj' (Ne.symm hjj) z y.symm⟩
    · by_cases h2 : j' = k
      · subst h2
        rw [lup_eq, lup_ne _ _ hjj]
        exact ⟨(Ls.2 j j' hj hj' hjj).1, fun z _ y => side j hj hjj z y⟩
      · rw [lup_ne _ _ h1, lup_ne _ _ h2]
        exact Ls.2 j j' hj hj' hjj
/-- what is told -/
def isTd (B : Nat → Prop) (h : xH) (t : List Nat) (x ix : Nat) (d : TD) : Prop := ∃ tv : Value, h x = some (9, [.int (nI ix), .int (nI d.1), .int (nI d.2.1), tv, .int (nI d.2.2.2.1), .int (nI d.2.2.2.2.1), .int (bI d.2.2.2.2.2)]) ∧ opS B h tv (if d.2.1 = 2 then none else some (sub t d.2.2.1)) ∧ d.2.2.2.1 < 10000000 ∧ d.2.2.2.2.1 ≤ 1000
theorem isTd.ext {B : Nat → Prop} {z z' : xH} {t : List Nat} {x ix : Nat} {d : TD} (H : isTd B z t x ix d) (f : fr [] z z') : isTd B z' t x ix d := by
  obtain ⟨tv, h1, h2, h3⟩ := H
  exact ⟨tv, f _ _ h1 (by simp), h2.ext f, h3⟩
theorem isTd.ok {B : Nat → Prop} {z : xH} {t : List Nat} {x ix : Nat} {d : TD} (H : isTd B z t x ix d) : ∃ ci fs, z x = some (ci, fs) ∧ xok4 ci = true := by
  obtain ⟨tv, h1, -⟩ := H
  exact ⟨9, _, h1, rfl⟩
/-- a rule, t0 were told ahead of it -/
def isRu (D : xD) (B : Nat → Prop) (h : xH) (t : List Nat) (x t0 : Nat) (R : RU) : Prop := ∃ (l1 e1 l2 e2 : Nat) (x1 x2 : List Nat), h x = some (10, [.ref l1, .ref l2]) ∧ isL D h l1 e1 x1 ∧ isL D h l2 e2 x2 ∧ all2 (isSl D B h t) x1 R.1 ∧ all2 (fun x p => isTd B h t x p.2 p.1) x2 (R.2.zipIdx t0)
theorem isRu.ext {D : xD} {B : Nat → Prop} {z z' : xH} {t : List Nat} {x ix : Nat} {d : RU} (H : isRu D B z t x ix d) (f : fr [] z z') : isRu D B z' t x ix d := by
  obtain ⟨l1, e1, l2, e2, x1, x2, h1, h2, h3, h4, h5⟩ := H
  exact ⟨l1, e1, l2, e2, x1, x2, f _ _ h1 (by simp), h2.ext f, h3.ext f, h4.mono fun a b q => q.ext f, h5.mono fun a b q => q.ext f⟩
theorem isRu.ok {D : xD} {B : Nat → Prop} {z : xH} {t : List Nat} {x ix : Nat} {d : RU} (H : isRu D B z t x ix d) : ∃ ci fs, z x = some (ci, fs) ∧ xok4 ci = true := by
  obtain ⟨l1, e1, l2, e2, x1, x2, h1, -⟩ := H
  exact ⟨10, _, h1, rfl⟩
/-- rules with how many were told ahead of each -/
def idx : Nat → List RU → List (Nat × RU)
  | _, [] => []
  | c, R :: l => (c, R) :: idx (c + R.2.length) l
def tcs : List RU → Nat
  | [] => 0
  | R :: l => R.2.length + tcs l
theorem idx_snoc (R : RU) : ∀ (l : List RU) (c : Nat), idx c (l ++ [R]) = idx c l ++ [(c + tcs l, R)]
  | [], c => rfl
  | Q :: l, c => by
    show (c, Q) :: idx (c + Q.2.length) (l ++ [R]) = (c, Q) :: (idx (c + Q.2.length) l ++ [(c + (Q.2.length + tcs l), R)])
    rw [idx_snoc R l, Nat.add_assoc]
theorem tcs_snoc (R : RU) : ∀ l : List RU, tcs (l ++ [R]) = tcs l + R.2.length
  | [] => by show R.2.length + 0 = 0 + R.2.length; omega
  | Q :: l => by
    show Q.2.length + tcs (l ++ [R]) = Q.2.length + tcs l + R.2.length
    rw [tcs_snoc R l]; omega
theorem idx_len : ∀ (l : List RU) (c : Nat), (idx c l).length = l.length
  | [], _ => rfl
  | Q :: l, c => by show (idx _ l).length + 1 = l.length + 1; rw [idx_len l]
/-- what the five lists hold: rules, selectors, names; the rule's selectors, what it tells -/
def yC (D : xD) (B : Nat → Prop) (z : xH) (t : List Nat) (G : Nat → LG) (rs : List RU) (ss : List (List ST)) (ns : List (Nat × Nat)) (ls : List (List ST)) (ds : List TD) (t0 : Nat) : Prop :=
  all2 (fun x p => isRu D B z t x p.1 p.2) (G 0).2.2 (idx 0 rs) ∧ all2 (isSl D B z t) (G 1).2.2 ss ∧ all2 (fun x a => isS B z x (sub t a)) (G 2).2.2 ns ∧ all2 (isSl D B z t) (G 3).2.2 ls ∧ all2 (fun x p => isTd B z t x p.2 p.1) (G 4).2.2 (ds.zipIdx t0)
theorem yC.ext {D : xD} {B : Nat → Prop} {z z' : xH} {t : List Nat} {G : Nat → LG} {rs : List RU} {ss : List (List ST)} {ns : List (Nat × Nat)} {ls : List (List ST)} {ds : List TD} {t0 : Nat} (H : yC D B z t G rs ss ns ls ds t0) (f : fr [] z z') : yC D B z' t G rs ss ns ls ds t0 :=
  ⟨H.1.mono fun a b q => q.ext f, H.2.1.mono fun a b q => q.ext f, H.2.2.1.mono fun a b q => q.ext f, H.2.2.2.1.mono fun a b q => q.ext f, H.2.2.2.2.mono fun a b q => q.ext f⟩
/-- a style that is being read, and the rule that is -/
def sX (D : xD) (B : Nat → Prop) (h0 h : xH) (r b : Nat) (t : List Nat) (i : Nat) (O : List Nat) (sy ru : Nat) (G : Nat → LG) (rs : List RU) (ss : List (List ST)) (ns : List (Nat × Nat)) (ls : List (List ST)) (ds : List TD) (tc : Nat) : Prop :=
  cx D h0 h r b t i O ∧ lst D h O 5 G ∧ (sy ∈ O ∧ h sy = some (11, [.ref (G 0).1, .ref (G 1).1, .ref (G 2).1, .int (nI tc)])) ∧ (ru ∈ O ∧ h ru = some (10, [.ref (G 3).1, .ref (G 4).1])) ∧ yC D B (zz h0 O h) t G rs ss ns ls ds (tcs rs)
theorem sX.stp {D : xD} {B : Nat → Prop} {h0 h h' : xH} {r b i j sy ru tc tc' : Nat} {t O O' M : List Nat} {G : Nat → LG} {rs : List RU} {ss : List (List ST)} {ns : List (Nat × Nat)} {ls : List (List ST)} {ds : List TD} (X : sX D B h0 h r b t i O sy ru G rs ss ns ls ds tc) (C' : cx D h0 h' r b t j O') (z : fr [] (zz h0 O h) (zz h0 O' h')) (f : fr M h h') (hM : ∀ q ∈ M, ∀ c, h q = some c → c.1 = 1 ∨ c.1 = 9 ∨ c.1 = 11) (hO : ∀ q ∈ O, q ∈ O') (hy : h' sy = some (11, [.ref (G 0).1, .ref (G 1).1, .ref (G 2).1, .int (nI tc')])) : sX D B h0 h' r b t j O' sy ru G rs ss ns ls ds tc' := by
  obtain ⟨C, Ls, ⟨s1, s2⟩, ⟨u1, u2⟩, Y⟩ := X
  have k : kp h h' := f.im fun q hq c e => by rcases hM q hq c e with y | y | y <;> rw [y] <;> rfl
  refine ⟨C', Ls.frm f k (fun j hj y => ?_) (fun j hj hx y => ?_) hO, ⟨hO _ s1, hy⟩, ⟨hO _ u1, f _ _ u2 fun y => ?_⟩, Y.ext z⟩
  · obtain ⟨w, hw⟩ := (Ls.1 j hj).1.cell
    rcases hM _ y _ hw with y | y | y <;> cases y
  · obtain ⟨w, hw⟩ := (Ls.1 j hj).1.arr hx
    rcases hM _ y _ hw with y | y | y <;> cases y
  · rcases hM _ y _ u2 with y | y | y <;> cases y
/-- the reader alone went on -/
theorem sX.rd {D : xD} {B : Nat → Prop} {h0 h h' : xH} {r b i j sy ru tc : Nat} {t O : List Nat} {G : Nat → LG} {rs : List RU} {ss : List (List ST)} {ns : List (Nat × Nat)} {ls : List (List ST)} {ds : List TD} (X : sX D B h0 h r b t i O sy ru G rs ss ns ls ds tc) (f : fr [r] h h') (hr : rdr h' r b t j (-1)) : sX D B h0 h' r b t j O sy ru G rs ss ns ls ds tc := by
  obtain ⟨C', z⟩ := X.1.rd f hr
  exact X.stp C' z f (fun q hq c e => by rw [List.mem_singleton.mp hq, X.1.1.1] at e; cases e; exact Or.inl rfl) (fun q hq => hq) (f.one X.2.2.1.2 (X.1.ner X.2.2.1.1))
theorem sX.mv {D : xD} {B : Nat → Prop} {h0 h : xH} {r b i j sy ru tc : Nat} {t O : List Nat} {G : Nat → LG} {rs : List RU} {ss : List (List ST)} {ns : List (Nat × Nat)} {ls : List (List ST)} {ds : List TD} (X : sX D B h0 h r b t i O sy ru G rs ss ns ls ds tc) (hj : j ≤ t.length) : sX D B h0 (xset h r (rdc b j (-1))) r b t j O sy ru G rs ss ns ls ds tc := X.rd (fr.set _ _ _) (X.1.1.mv hj)
theorem sX.cs {α : Type} {D : xD} {B : Nat → Prop} {h0 h h' : xH} {r b i sy ru tc : Nat} {t O : List Nat} {G : Nat → LG} {rs : List RU} {ss : List (List ST)} {ns : List (Nat × Nat)} {ls : List (List ST)} {ds : List TD} {res : Except Nat (α × Nat)} {ok : α → xO → xH → Prop} {o : xO} (X : sX D B h0 h r b t i O sy ru G rs ss ns ls ds tc) (q : xRes r b t [] h res ok o h') : (∃ w, res = .error w ∧ xEr r b w [] h0 o h') ∨ ∃ a j, res = .ok (a, j) ∧ sX D B h0 h' r b t j O sy ru G rs ss ns ls ds tc ∧ fr [] (zz h0 O h) (zz h0 O h') ∧ fr [r] h h' ∧ ok a o h' := by
  rcases X.1.cs q with z | ⟨a, j, e1, C2, z2, f2, k⟩
  · exact Or.inl z
  · exact Or.inr ⟨a, j, e1, X.rd f2 C2.1, z2, f2, k⟩
theorem all2.mapR {α β γ : Type} {R : α → γ → Prop} {f : β → γ} : ∀ {s : List α} {t : List β}, all2 (fun a b => R a (f b)) s t → all2 R s (t.map f)
  | [], [], _ => trivial
  | _ :: _, _ :: _, h => ⟨h.1, all2.mapR h.2⟩
set_option maxRecDepth 20000 in
theorem c_numberOfName {B B' : Nat → Prop} {l : Launch} {D : xD} {h : xH} {sy A e s : Nat} {xs : List Nat} {ws : List (List Nat)} {w : List Nat} {v0 v1 v3 : Value} (hy : h sy = some (11, [v0, v1, .ref A, v3])) (L : isL D h A e xs) (N : all2 (isS B h) xs ws) (S : isS B' h s w) (hl : ws.length < 1000) : xMet l D 3 y_Sy_numberOfName [.ref sy, .ref s] h 0 0 (fun o h' => h' = h ∧ o = .inl (some (.int (if ws.findIdx (fun v => decide (v = w)) < ws.length then nI (ws.findIdx (fun v => decide (v = w))) else -1)))) := by
  obtain ⟨av, hA0⟩ := L.cell
  have hle := N.len
  refine m_Sy_numberOfName (Nat.le_of_ble_eq_true rfl) fun X hl hD hP hA => ?_
  subst hl hD
  have key : ∀ k : Nat, (k ≤ xs.length ∧ ∀ j, ∀ hj : j < ws.length, j < k → ws[j] ≠ w) → xG X 2 [(2, .int (nI k)), (0, .ref sy), (1, .ref s)] [] h 0 0 := by
    refine xind _ _ (fun k => xs.length - k) (fun k hk ih => ?_)
    obtain ⟨hk, he⟩ := hk
    refine xgo [2] 40 hA ?_
    refine xg hy (by rfl) ?_
    refine xcV hA0 (c_AL_size L) (by rfl) (by rfl) (by rfl) (Nat.zero_le _) (Nat.zero_le _) ?_
    rintro o h' ⟨rfl, rfl⟩
    refine xb (fun c => ?_) (fun c => ?_)
    · have e1 : k = xs.length := Nat.le_antisymm hk ((nI_leI (by omega) (by omega)).mp c)
      have e2 : ¬ ws.findIdx (fun v => decide (v = w)) < ws.length := fun z => by
        have := List.findIdx_getElem (w := z)
        exact he _ z (by omega) (of_decide_eq_true this)
      exact xP hP ⟨rfl, by rw [if_neg e2]⟩
    · have c1 : k < xs.length := Nat.lt_of_not_le fun z => c (nI_le z (by omega))
      have y2 := N.at k c1 (by omega)
      obtain ⟨f1, hs1⟩ := y2.cell
      refine xg hy (by rfl) ?_
      refine xcV hA0 (c_AL_get L c1) (by rfl) (by rfl) (by rfl) (Nat.zero_le _) (Nat.zero_le _) ?_
      rintro o h1 ⟨rfl, rfl⟩
      refine xct hs1 rfl ?_
      refine xcV hs1 (c_sameAs y2 S) (by rfl) (by rfl) (by rfl) (Nat.zero_le _) (Nat.zero_le _) ?_
      rintro o h1 ⟨rfl, rfl⟩
      refine xb (fun c => ?_) (fun c => ?_)
      · have q := ih (k + 1) ⟨c1, fun j hj h2 => by
          rcases Nat.lt_succ_iff_lt_or_eq.mp h2 with z | z
          · exact he j hj z
          · subst z; exact of_decide_eq_false ((bI_0 _).mp c)⟩ (by omega)
        rw [← nI_1] at q
        exact q
      · have c2 := of_decide_eq_true ((bI_n0 _).mp c)
        have e1 : ws.findIdx (fun v => decide (v = w)) = k := by
          refine (List.findIdx_eq (by omega)).mpr ⟨by simpa using c2, fun j hj => by simpa using he j (by omega) hj⟩
        exact xP hP ⟨rfl, by rw [e1, if_pos (by omega)]⟩
  refine xgo [2] 40 hA ?_
  exact key 0 ⟨Nat.zero_le _, fun j hj h2 => absurd h2 (Nat.not_lt_zero _)⟩
