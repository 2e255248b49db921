/-! THE ABSTRACT MACHINE, 1: abstract heaps, worlds, contracts -/
abbrev xC : Type := Nat × List Value
abbrev xH : Type := Nat → Option xC
abbrev xO : Type := Option Value ⊕ (Nat × Nat)
abbrev xD : Type := (Nat → ClassId) × (Nat → Nat → Nat) × Nat × (Nat → Value)
abbrev xD.cid (D : xD) : Nat → ClassId := D.1
abbrev xD.slo (D : xD) : Nat → Nat → Nat := D.2.1
abbrev xD.sz (D : xD) : Nat := D.2.2.1
abbrev xD.sv (D : xD) : Nat → Value := D.2.2.2
def xset (h : xH) (a : Nat) (c : xC) : xH := fun q => if q = a then some c else h q
theorem xset_same (h : xH) (a : Nat) (c : xC) : xset h a c a = some c := if_pos rfl
theorem xset_ne (h : xH) {a q : Nat} (c : xC) (hq : q ≠ a) : xset h a c q = h q := if_neg hq
theorem xset_set (h : xH) (a : Nat) (c d : xC) : xset (xset h a c) a d = xset h a d := by
  funext q; unfold xset; split <;> rfl
theorem xset_comm (h : xH) {a b : Nat} (c d : xC) (hab : a ≠ b) : xset (xset h a c) b d = xset (xset h b d) a c := by
  funext q; unfold xset; split
  · rename_i e; rw [if_neg (by rw [e]; exact fun z => hab z.symm)]
  · rfl
theorem xset_self {h : xH} {a : Nat} {c : xC} (e : h a = some c) : xset h a c = h := by
  funext q; unfold xset; split
  · rename_i z; rw [z, e]
  · rfl
theorem xne {h : xH} {a b : Nat} {c d : xC} (ha : h a = some c) (hb : h b = some d) (hk : c.1 ≠ d.1) : a ≠ b := by
  intro e; subst e; rw [ha] at hb; cases hb; exact hk rfl
theorem xnn {h : xH} {a b : Nat} {c : xC} (ha : h a = some c) (hb : h b = none) : a ≠ b := by
  intro e; subst e; rw [ha] at hb; cases hb
def xel (t : Nat) : FieldType := xela.getD t .int
/-- a String constant of before the run: its bytes' array at v, Latin-1 -/
def xO_RO (D : xD) (U : State) (H : Heap) (a : Nat) (vs : List Value) : Prop :=
  ∃ v : Nat, vs = [.ref v] ∧ va_O "java/lang/String" a (fun q => D.sz ≤ q) U H ∧ va_OF "java/lang/String" "value" "[B" (.ref v) a (fun q => D.sz ≤ q) U H ∧ va_OF "java/lang/String" "coder" "B" (.int 0) a (fun q => D.sz ≤ q) U H
/-- what a cell of the abstract heap says of the heap: objects (kinds below 100), arrays (100 ..), arrays and objects of before the run (200 .., 300 ..) -/
def x_at (D : xD) (U : State) (H : Heap) (a : Nat) (c : xC) : Prop :=
  if c.1 < 100 then D.sz ≤ a ∧ ∃ r : vw_C, xcl[c.1]? = some r ∧ c.2.length = r.2.2 ∧ t_OB a (D.cid c.1) r.2.2 (D.slo c.1) H (vp_V c.2)
  else if c.1 < 200 then D.sz ≤ a ∧ c.2.length < 2 ^ 31 ∧ (∃ ty, xela[c.1 - 100]? = some ty) ∧ H[a]? = some { cls := D.cid c.1, slots := c.2.toArray, vm := .none }
  else if c.1 < 300 then a < D.sz ∧ c.2.length < 2 ^ 31 ∧ ∃ cell : Cell, H[a]? = some cell ∧ U.isArrayOf cell (xel (c.1 - 200)) ∧ cell.vm ≠ .unknown ∧ cell.slots = c.2.toArray
  else a < D.sz ∧ c.1 = 300 ∧ xO_RO D U H a c.2
def x_K (D : xD) (U : State) : Prop := (∀ (c : Nat) (q : vw_C), xcl[c]? = some q → u_Kn U q.1 q.2.1 q.2.2 (D.cid c) (D.slo c)) ∧ ∀ (t : Nat) (ty : FieldType), xela[t]? = some ty → ArrOfT U (D.cid (100 + t)) ty ∧ va_RA U (D.cid (100 + t)) ty
/-- a static field of before the run that holds a reference or null, with all that the tables say of it -/
def x_LS (q : String × String × String) (sz : Nat) (U : State) (H : Heap) : Prop := ∃ (c : ClassId) (k : Class) (i : Nat) (f : Field) (a : Nat) (cell : Cell) (v : Value), U.vm.findClass q.1 = some c ∧ U.fieldFound? q.1 q.2.1 q.2.2 = some (c, k, i, f) ∧ f.isStatic = true ∧ k.statics = some a ∧ H[a]? = some cell ∧ cell.vm.isStatics = true ∧ cell.cls = c ∧ f.slot < cell.slots.size ∧ k.staticTypes[f.slot]? = some f.type ∧ a < sz ∧ cell.slots[f.slot]? = some v ∧ (v = .null ∨ ∃ t, v = .ref t)
theorem x_LS.moved {q : String × String × String} {sz : Nat} {u U : State} {H : Heap} (hvm : u.vm.Alike U.vm) (h : x_LS q sz u H) : x_LS q sz U H := by
  obtain ⟨c, k, i, f, a, cell, v, h1, h2, h3, h4, h5, h6, h7, h8, h9, h10⟩ := h
  obtain ⟨k', hi', he⟩ := State.fieldFound?_setVm hvm h2
  exact ⟨c, k', i, f, a, cell, v, by rw [hvm.findClass]; exact h1, hi', h3, by rw [he]; exact h4, h5, h6, h7, h8, by rw [he]; exact h9, h10⟩
theorem x_LS.kept {q : String × String × String} {sz : Nat} {U : State} {H H1 : Heap} (h : x_LS q sz U H) (hq : ∀ a : Nat, a < sz → H1[a]? = H[a]?) : x_LS q sz U H1 := by
  obtain ⟨c, k, i, f, a, cell, v, h1, h2, h3, h4, h5, h6, h7, h8, h9, h10, h11⟩ := h
  exact ⟨c, k, i, f, a, cell, v, h1, h2, h3, h4, by rw [hq a h10]; exact h5, h6, h7, h8, h9, h10, h11⟩
theorem x_LS.lays {q : String × String × String} {sz : Nat} {args : Array Value} {s : State} (h : x_LS q sz s s.heap) : (Cond.laysStatic q.1 q.2.1 q.2.2).before args s = true := by
  obtain ⟨c, k, i, f, a, cell, v, h1, h2, h3, h4, h5, h6, h7, h8, h9, h10, h11⟩ := h
  simp [Cond.before, Cond.holds, Cond.value, h1, h2, h3, h4, h5, h6, h7, h8, h9]
theorem x_LS.isRef {q : String × String × String} {sz : Nat} {args : Array Value} {s : State} (h : x_LS q sz s s.heap) : (Cond.isRef (.static q.1 q.2.1 q.2.2)).before args s = true := by
  obtain ⟨c, k, i, f, a, cell, v, h1, h2, h3, h4, h5, h6, h7, h8, h9, h10, h11, h12⟩ := h
  have e2 : (Term.static q.1 q.2.1 q.2.2).eval args s none [] s = some v := by simp [Term.eval, State.fieldNamed?, h2, h3, h4, h5, h6, h11]
  rcases h12 with rfl | ⟨t, rfl⟩ <;> simp [Cond.before, Cond.holds, Cond.value, e2]
abbrev xt1 : String × String × String := (Bundle.tN, "UNASSIGNED_STACK", Bundle.steD)
abbrev xt2 : String × String × String := (Bundle.tN, "SUPPRESSED_SENTINEL", Bundle.listD)
def xhw : List Cond := [.isRef (.static Bundle.tN "UNASSIGNED_STACK" Bundle.steD), .isRef (.static Bundle.tN "SUPPRESSED_SENTINEL" Bundle.listD), .laysStatic Bundle.tN "UNASSIGNED_STACK" Bundle.steD, .laysStatic Bundle.tN "SUPPRESSED_SENTINEL" Bundle.listD]
def x_E (D : xD) (U : State) (H : Heap) : Prop := (∀ (i : Nat) (q : String × String × String), xst[i]? = some q → va_Z q.1 q.2.1 q.2.2 (D.sv i) (fun q => D.sz ≤ q) U H) ∧ (∀ (i : Nat) (q : String × Nat × String), xsr[i]? = some q → ∃ a : Nat, D.sv (1000 + i) = .ref a ∧ vk_R q.1 q.2.1 q.2.2 a U) ∧ x_LS xt1 D.sz U H ∧ x_LS xt2 D.sz U H ∧ ∃ mi : Nat, D.sv 2000 = .ref mi ∧ va_Mi "[Ljava/lang/Object;" mi U ∧ U.vm.assignable (D.cid 14) (D.cid 15) = false
theorem x_E.refs {D : xD} {args : Array Value} {s : State} (h : x_E D s s.heap) : ∀ a ∈ xhw, a.before args s = true := by
  intro a ha
  rcases List.mem_cons.mp ha with rfl | ha
  · exact h.2.2.1.isRef
  rcases List.mem_cons.mp ha with rfl | ha
  · exact h.2.2.2.1.isRef
  rcases List.mem_cons.mp ha with rfl | ha
  · exact h.2.2.1.lays
  rcases List.mem_cons.mp ha with rfl | ha
  · exact h.2.2.2.1.lays
  cases ha
def x_R (D : xD) (U : State) (h : xH) (H : Heap) : Prop := ∀ (a : Nat) (c : xC), h a = some c → x_at D U H a c
def x_S (D : xD) (H0 H : Heap) (locs : List Loc) : Prop := H0.size ≤ H.size ∧ (∀ q : Nat, q < D.sz → H[q]? = H0[q]?) ∧ ∀ l ∈ locs, D.sz ≤ l.base
theorem x_at.lt {D : xD} {U : State} {H : Heap} {a : Nat} {c : xC} (h : x_at D U H a c) : a < H.size := by
  unfold x_at at h
  split at h
  · obtain ⟨-, r, -, -, cell, h1, -⟩ := h
    exact (Array.getElem?_eq_some_iff.mp h1).1
  · split at h
    · exact (Array.getElem?_eq_some_iff.mp h.2.2.2).1
    · split at h
      · obtain ⟨-, -, cell, h1, -⟩ := h
        exact (Array.getElem?_eq_some_iff.mp h1).1
      · obtain ⟨-, -, v, -, ⟨cell, h1, -⟩, -⟩ := h
        exact (Array.getElem?_eq_some_iff.mp h1).1
theorem x_at.kept {D : xD} {U : State} {H H1 : Heap} {a : Nat} {c : xC} (h : x_at D U H a c) (hq : H1[a]? = H[a]?) : x_at D U H1 a c := by
  unfold x_at at h ⊢
  split at h
  · rename_i z
    rw [if_pos z]
    obtain ⟨h0, r, h1, h2, h3⟩ := h
    exact ⟨h0, r, h1, h2, h3.kept hq⟩
  · rename_i z
    rw [if_neg z]
    split at h
    · rename_i z
      rw [if_pos z, hq]
      exact h
    · rename_i z
      rw [if_neg z]
      split at h
      · rename_i z
        rw [if_pos z, hq]
        exact h
      · rename_i z
        rw [if_neg z]
        obtain ⟨h0, h1, v, h2, ⟨cell, g1, g2⟩, ⟨cf, k, i, f, cell2, g3, g4, g5, g6⟩, ⟨cf3, k3, i3, f3, cell3, g7, g8, g9, g10⟩⟩ := h
        exact ⟨h0, h1, v, h2, ⟨cell, by rw [hq]; exact g1, g2⟩, ⟨cf, k, i, f, cell2, g3, g4, by rw [hq]; exact g5, g6⟩, ⟨cf3, k3, i3, f3, cell3, g7, g8, by rw [hq]; exact g9, g10⟩⟩
theorem x_at.moved {D : xD} {u U : State} {H : Heap} {a : Nat} {c : xC} (hvm : u.vm.Alike U.vm) (h : x_at D u H a c) : x_at D U H a c := by
  unfold x_at at h ⊢
  split at h
  · rename_i z
    rw [if_pos z]
    exact h
  · rename_i z
    rw [if_neg z]
    split at h
    · rename_i z
      rw [if_pos z]
      exact h
    · rename_i z
      rw [if_neg z]
      split at h
      · rename_i z
        rw [if_pos z]
        obtain ⟨h0, h1, cell, h2, h3, h4⟩ := h
        exact ⟨h0, h1, cell, h2, State.isArrayOf_alike hvm h3, h4⟩
      · rename_i z
        rw [if_neg z]
        obtain ⟨h0, h1, v, h2, h3, h4, h5⟩ := h
        exact ⟨h0, h1, v, h2, h3.moved hvm, h4.moved hvm, h5.moved hvm⟩
theorem x_R.moved {D : xD} {u U : State} {h : xH} {H : Heap} (hvm : u.vm.Alike U.vm) (hR : x_R D u h H) : x_R D U h H := fun a c e => (hR a c e).moved hvm
theorem x_K.moved {D : xD} {u U : State} (hvm : u.vm.Alike U.vm) (hK : x_K D u) : x_K D U := ⟨fun c q hq => u_Kn_moved hvm (hK.1 c q hq), fun t ty ht => ⟨arrOfT_moved hvm (hK.2 t ty ht).1, (hK.2 t ty ht).2.moved hvm⟩⟩
theorem x_E.warm {D : xD} {s U : State} {H : Heap} (hW : s.WarmedH U.vm) (hE : x_E D s H) : x_E D U H := ⟨fun i q hq => (hE.1 i q hq).moved hW.alike, fun i q hq => by obtain ⟨a, h1, h2⟩ := hE.2.1 i q hq; exact ⟨a, h1, h2.warm hW⟩, hE.2.2.1.moved hW.alike, hE.2.2.2.1.moved hW.alike, by obtain ⟨mi, h1, h2, h3⟩ := hE.2.2.2.2; exact ⟨mi, h1, h2.moved hW.alike, by rw [hW.alike.assignable]; exact h3⟩⟩
theorem x_E.kept {D : xD} {U : State} {H H1 : Heap} (hE : x_E D U H) (hq : ∀ q : Nat, q < D.sz → H1[q]? = H[q]?) : x_E D U H1 := ⟨fun i q hi => (hE.1 i q hi).kept (fun a _ ha => hq a (Nat.not_le.mp ha)), hE.2.1, hE.2.2.1.kept hq, hE.2.2.2.1.kept hq, hE.2.2.2.2⟩
theorem x_R.set {D : xD} {U : State} {h : xH} {H H1 : Heap} {a : Nat} {c : xC} (hR : x_R D U h H) (hc : x_at D U H1 a c) (hq : ∀ q, q ≠ a → H1[q]? = H[q]?) : x_R D U (xset h a c) H1 := by
  intro q d e
  by_cases z : q = a
  · subst z; rw [xset_same] at e; cases e; exact hc
  · rw [xset_ne _ _ z] at e; exact (hR q d e).kept (hq q z)
theorem x_R.push {D : xD} {U : State} {h : xH} {H H1 : Heap} {c : xC} (hR : x_R D U h H) (hc : x_at D U H1 H.size c) (hq : ∀ q, q < H.size → H1[q]? = H[q]?) : x_R D U (xset h H.size c) H1 := by
  intro q d e
  by_cases z : q = H.size
  · subst z; rw [xset_same] at e; cases e; exact hc
  · rw [xset_ne _ _ z] at e; exact (hR q d e).kept (hq q (hR q d e).lt)
theorem x_R.fresh {D : xD} {U : State} {h : xH} {H : Heap} (hR : x_R D U h H) : h H.size = none := by
  cases e : h H.size with
  | none => rfl
  | some c => exact absurd (hR _ _ e).lt (Nat.lt_irrefl _)
/-- words -/
theorem xws_warm {args : Array Value} {s : State} (hts : ∀ w ∈ xws, w.before args s = true) : ∀ w ∈ xws, ∀ (a' : Array Value) (U : State), s.WarmedH U.vm → w.before a' U = true :=
  fun w hw a' U hW => xgood_warm (List.mem_filter.mp hw).2 hW (hts w hw)
/-- outcomes -/
def xout (o : xO) (oc : Outcome) : Prop := match o with
  | .inl v => oc = .returned v
  | .inr q => oc = .threw q.2
def xOe (o : xO) (h : xH) : Prop := match o with
  | .inl _ => True
  | .inr q => q.1 < 100 ∧ h q.2 = some (q.1, [])
def xQ (D : xD) (P : xO → xH → Prop) : State → Outcome → State → Prop := fun st oc t =>
  ∃ (o : xO) (h' : xH), xout o oc ∧ xOe o h' ∧ P o h' ∧ x_R D st h' t.heap ∧ (∀ q : Nat, q < D.sz → t.heap[q]? = st.heap[q]?) ∧ st.heap.size ≤ t.heap.size
def xFE (first t : State) (L : List Loc) (k n : Nat) : Prop := first.WarmedH t.vm ∧ first.sameButNew ({ t with vm := first.vm } : State) L k n
def xrm (d mc ms : Nat) : Room := { frames := d, cells := mc, slots := ms, locals := 30 * d + 130 }
/-- A CONTRACT at a start: method y with the arguments av over the abstract heap h, within mc cells of ms slots, ends so that P -/
def xMet (l : Launch) (D : xD) (d : Nat) (y : MethodName) (av : List Value) (h : xH) (mc ms : Nat) (P : xO → xH → Prop) : Prop :=
  MetFree l y (headSpec xws (xrm d mc ms)) (fun a U => a = av.toArray ∧ x_R D U h U.heap ∧ x_K D U ∧ x_E D U U.heap ∧ D.sz ≤ U.heap.size) (fun _ e _ _ _ => e.platform.stackTraces = false)
    (fun _ st oc t => xQ D P st oc t ∧ ∃ L, xFE st t L mc ms ∧ ∀ q ∈ L, D.sz ≤ q.base)
theorem xMet.mono {l : Launch} {D : xD} {d : Nat} {y : MethodName} {av : List Value} {h : xH} {mc ms : Nat} {P Q : xO → xH → Prop} (hM : xMet l D d y av h mc ms P) (hPQ : ∀ o h', P o h' → Q o h') : xMet l D d y av h mc ms Q := by
  intro p e ha hc hk s m args below hf happ hP hK
  obtain ⟨n, o, h1, h2, h3, ⟨o', h', q1, q2, q3, q4⟩, q5⟩ := hM p e ha hc hk s m args below hf happ hP hK
  exact ⟨n, o, h1, h2, h3, ⟨o', h', q1, q2, hPQ _ _ q3, q4⟩, q5⟩
/-! THE ABSTRACT MACHINE, 2: a walk's context, its judgement, tables of operations -/
abbrev xX : Type := Program × Launch × Env × Room × State × MethodId × Array Value × List Frame × Method × Code × xD × (xO → xH → Prop)
abbrev xX.p (X : xX) : Program := X.1
abbrev xX.l (X : xX) : Launch := X.2.1
abbrev xX.e (X : xX) : Env := X.2.2.1
abbrev xX.R (X : xX) : Room := X.2.2.2.1
abbrev xX.s (X : xX) : State := X.2.2.2.2.1
abbrev xX.m (X : xX) : MethodId := X.2.2.2.2.2.1
abbrev xX.args (X : xX) : Array Value := X.2.2.2.2.2.2.1
abbrev xX.below (X : xX) : List Frame := X.2.2.2.2.2.2.2.1
abbrev xX.meth (X : xX) : Method := X.2.2.2.2.2.2.2.2.1
abbrev xX.c (X : xX) : Code := X.2.2.2.2.2.2.2.2.2.1
abbrev xX.D (X : xX) : xD := X.2.2.2.2.2.2.2.2.2.2.1
abbrev xX.P (X : xX) : xO → xH → Prop := X.2.2.2.2.2.2.2.2.2.2.2
def xZ (X : xX) : State → Prop := fun t => ∃ oc, t.status = .running ∧ Ended t X.below oc ∧ xQ X.D X.P X.s oc t ∧ ∃ L, xFE X.s t L X.R.cells X.R.slots ∧ ∀ q ∈ L, X.D.sz ≤ q.base
abbrev xW (X : xX) (H : Heap) (locs : List Loc) (k n : Nat) (g : JFrame) : Prop := W X.p X.l X.e X.R X.s X.m X.args X.below X.meth X.c H locs k n (xZ X) g
abbrev xL : Type := List (Nat × Value)
abbrev xK : Type := xL → List Value → xH → Nat → Nat → Prop
abbrev xOp : Type := (Nat → xK) → xK
/-- at pc, with these locals, this stack, this heap, and room for rc cells of rs slots: the walk ends well -/
def xG (X : xX) (pc : Nat) : xK := fun ls st h rc rs =>
  ∀ (A : Array Slot) (H : Heap) (locs : List Loc) (k n : Nat), lv_has A X.c.maxLocals ls → x_R X.D X.s h H → x_S X.D X.s.heap H locs → k + rc ≤ X.R.cells → n + rs ≤ X.R.slots → xW X H locs k n (F0 X.m pc A st)
def xCx (X : xX) (cc : ByteArray) (own : String) (nL d : Nat) : Prop :=
  X.p.tables.exec = Jvm.exec ∧ X.c.code = cc ∧ X.c.maxLocals = nL ∧ X.s.vm.findClass own = some X.m.cls ∧ (∀ w ∈ xws, w.before X.args X.s = true) ∧ X.meth.locks = false ∧ x_K X.D X.s ∧ x_E X.D X.s X.s.heap ∧ X.D.sz ≤ X.s.heap.size ∧ X.e.platform.stackTraces = false ∧ d ≤ X.R.frames ∧ 30 * d + 130 ≤ X.R.locals
section XCX
variable {X : xX} {cc : ByteArray} {own : String} {nL d : Nat}
theorem xCx.x (h : xCx X cc own nL d) : X.p.tables.exec = Jvm.exec := h.1
theorem xCx.b (h : xCx X cc own nL d) : X.c.code = cc := h.2.1
theorem xCx.ml (h : xCx X cc own nL d) : X.c.maxLocals = nL := h.2.2.1
theorem xCx.ow (h : xCx X cc own nL d) : X.s.vm.findClass own = some X.m.cls := h.2.2.2.1
theorem xCx.ts (h : xCx X cc own nL d) : ∀ w ∈ xws, w.before X.args X.s = true := h.2.2.2.2.1
theorem xCx.lk (h : xCx X cc own nL d) : X.meth.locks = false := h.2.2.2.2.2.1
theorem xCx.K (h : xCx X cc own nL d) : x_K X.D X.s := h.2.2.2.2.2.2.1
theorem xCx.E (h : xCx X cc own nL d) : x_E X.D X.s X.s.heap := h.2.2.2.2.2.2.2.1
theorem xCx.z (h : xCx X cc own nL d) : X.D.sz ≤ X.s.heap.size := h.2.2.2.2.2.2.2.2.1
theorem xCx.tr (h : xCx X cc own nL d) : X.e.platform.stackTraces = false := h.2.2.2.2.2.2.2.2.2.1
theorem xCx.fr (h : xCx X cc own nL d) : d ≤ X.R.frames := h.2.2.2.2.2.2.2.2.2.2.1
theorem xCx.lo (h : xCx X cc own nL d) : 30 * d + 130 ≤ X.R.locals := h.2.2.2.2.2.2.2.2.2.2.2
end XCX
def xOk (X : xX) (pc : Nat) (o : xOp) : Prop := ∀ K : Nat → xK, (∀ q ls st h rc rs, K q ls st h rc rs → xG X q ls st h rc rs) → ∀ ls st h rc rs, o K ls st h rc rs → xG X pc ls st h rc rs
def xAll (X : xX) : List (Nat × xOp) → Prop
  | [] => True
  | q :: t => xOk X q.1 q.2 ∧ xAll X t
def xlk : List (Nat × xOp) → Nat → xOp
  | [], _ => fun _ _ _ _ _ _ => False
  | q :: t, pc => cond (Nat.beq q.1 pc) q.2 (xlk t pc)
def xrun (X : xX) (tb : List (Nat × xOp)) (cut : List Nat) (n : Nat) : Nat → xK :=
  Nat.rec (fun pc => xG X pc) (fun _ ih pc => cond (cut.any (Nat.beq pc)) (xG X pc) (xlk tb pc ih)) n
theorem xlk_ok {X : xX} : ∀ {tb : List (Nat × xOp)}, xAll X tb → ∀ pc, xOk X pc (xlk tb pc)
  | [], _, _ => fun _ _ _ _ _ _ _ h => h.elim
  | q :: t, h, pc => by
    unfold xlk
    cases e : Nat.beq q.1 pc with
    | true =>
      have e1 : q.1 = pc := Nat.eq_of_beq_eq_true e
      subst e1
      exact h.1
    | false => exact xlk_ok h.2 pc
theorem xrun_ok {X : xX} {tb : List (Nat × xOp)} {cut : List Nat} (hA : xAll X tb) : ∀ (n pc : Nat) ls st h rc rs, xrun X tb cut n pc ls st h rc rs → xG X pc ls st h rc rs := by
  intro n
  induction n with
  | zero => intro pc ls st h rc rs q; exact q
  | succ n ih =>
    intro pc ls st h rc rs q
    change (cond (cut.any (Nat.beq pc)) (xG X pc) (xlk tb pc (xrun X tb cut n))) ls st h rc rs at q
    cases e : cut.any (Nat.beq pc) with
    | true => rw [e] at q; exact q
    | false => rw [e] at q; exact xlk_ok hA pc _ ih _ _ _ _ _ q
theorem xgo {X : xX} {tb : List (Nat × xOp)} (cut : List Nat) (n : Nat) (hA : xAll X tb) {pc : Nat} {ls : xL} {st : List Value} {h : xH} {rc rs : Nat} (q : xlk tb pc (xrun X tb cut n) ls st h rc rs) : xG X pc ls st h rc rs :=
  xlk_ok hA pc _ (xrun_ok hA n) _ _ _ _ _ q
/-- an induction on a measure -/
theorem xind {σ : Type} (P I : σ → Prop) (μ : σ → Nat) (hs : ∀ s, I s → (∀ s', I s' → μ s' < μ s → P s') → P s) : ∀ s, I s → P s := by
  have H : ∀ n s, μ s < n → I s → P s := by
    intro n
    induction n with
    | zero => intro s h; exact absurd h (Nat.not_lt_zero _)
    | succ n ih => intro s h hi; exact hs s hi (fun s' h1 h2 => ih s' (by omega) h1)
  exact fun s hi => H (μ s + 1) s (Nat.lt_succ_self _) hi
/-- less room will do -/
theorem xG.room {X : xX} {pc : Nat} {ls : xL} {st : List Value} {h : xH} {rc rs rc' rs' : Nat} (hG : xG X pc ls st h rc' rs') (h1 : rc' ≤ rc) (h2 : rs' ≤ rs) : xG X pc ls st h rc rs :=
  fun A H locs k n a b c d e => hG A H locs k n a b c (by omega) (by omega)
/-- fewer locals will do -/
theorem xG.locs {X : xX} {pc : Nat} {ls ls' : xL} {st : List Value} {h : xH} {rc rs : Nat} (hG : xG X pc ls' st h rc rs) (hl : ∀ q ∈ ls', q ∈ ls) : xG X pc ls st h rc rs :=
  fun A H locs k n a => hG A H locs k n ⟨a.1, a.2.1, fun q hq => a.2.2 q (hl q hq)⟩
def xget : xL → Nat → Option Value
  | [], _ => none
  | q :: t, i => cond (Nat.beq q.1 i) (some q.2) (xget t i)
theorem xget_mem : ∀ {ls : xL} {i : Nat} {v : Value}, xget ls i = some v → (i, v) ∈ ls
  | [], _, _, h => by cases h
  | q :: t, i, v, h => by
    unfold xget at h
    cases e : Nat.beq q.1 i with
    | true =>
      rw [e] at h
      have e1 : q.1 = i := Nat.eq_of_beq_eq_true e
      subst e1
      cases h
      exact List.mem_cons_self
    | false => rw [e] at h; exact List.mem_cons_of_mem _ (xget_mem h)
theorem xget_at {A : Array Slot} {nL : Nat} {ls : xL} (hl : lv_has A nL ls) {i : Nat} {v : Value} (h : xget ls i = some v) : A[i]? = some (.val v) := hl.2.2 (i, v) (xget_mem h)
def xfo {α : Type} : List α → (List α → Prop) → Prop
  | [], k => k []
  | a :: t, k => xfo t (fun t' => k (a :: t'))
theorem xfo_iff {α : Type} : ∀ (l : List α) (k : List α → Prop), xfo l k ↔ k l
  | [], _ => Iff.rfl
  | a :: t, k => xfo_iff t (fun t' => k (a :: t'))
abbrev xput1 (ls : xL) (i : Nat) (v : Value) : xL := (i, v) :: ls.filter (fun q => !(q.1 == i) && !(q.1 + 1 == i && q.2.category == 2))
abbrev xput2 (ls : xL) (i : Nat) (v : Value) : xL := (i, v) :: ls.filter (fun q => !(q.1 == i) && (!(q.1 == i + 1) && !(q.1 + 1 == i && q.2.category == 2)))
