/-! THE ABSTRACT MACHINE, 7: throw new E("a written text") -/
/-- the walk's book begun anew where it stands -/
theorem x_rebase {p : Program} {l : Launch} {e : Env} {R R' : Room} {s : State} {m : MethodId} {args : Array Value} {below : List Frame} {meth : Method} {c : Code} {T : State} {locs : List Loc} {k n : Nat} (X : Stand p l e R s m args below meth c T locs k n)
    (h1 : R'.frames ≤ R.frames) (h2 : R'.locals ≤ R.locals) (h3 : k + R'.cells ≤ R.cells) (h4 : n + R'.slots ≤ R.slots) : Stand p l e R' (T.setFrames (.invoking m args :: below)) m args below meth c T [] 0 0 := by
  obtain ⟨g₀, hfr⟩ := X.frames_eq
  have hcur : T.cur < T.threads.size := State.cur_lt_of_frames hfr
  have hf' : (T.setFrames (.invoking m args :: below)).frames = .invoking m args :: below := State.frames_setFrames _ hcur
  have hlim : e.platform.stackLimits (T.setFrames (.invoking m args :: below)).me = e.platform.stackLimits T.me := State.stackLimits_setFrames ..
  have hby : (T.setFrames (.invoking m args :: below)).me.stackBytes = T.me.stackBytes := State.stackBytes_setFrames ..
  obtain ⟨t, ht, -⟩ := State.frames_cons hfr
  refine ⟨X.admits, X.cas, X.clock, hf', ?_, ?_, X.method', X.code, X.here, X.tail, State.WarmedH.refl _, hlim.symm, hby.symm, ?_⟩
  · have hu : (T.setFrames (.invoking m args :: below)).localsInUse = s.localsInUse := by
      rw [State.localsInUse_invoking hf' X.method' X.code, State.localsInUse_invoking X.frames X.method X.code]
    have r0 := X.room
    have r1 := X.cellsAbove (n := R'.cells) h3
    have r2 := X.slotsAbove (n := R'.slots) h4
    have r3 := X.book
    have hl0 := X.limits
    have hb0 := X.bytes
    simp only [State.hasRoom, Bool.and_eq_true, decide_eq_true_eq] at r0 ⊢
    rw [X.frames] at r0
    rw [hu, hf', hlim, hby, hl0, hb0]
    obtain ⟨⟨⟨⟨a1, a2, a3, a4, a5, a6⟩, a7⟩, a8⟩, a9⟩ := r0
    exact ⟨⟨⟨⟨by omega, by omega, by omega, by omega, by omega, a6⟩, r1⟩, r2⟩, r3⟩
  · have hh := X.hears
    have hm := X.method'
    have hcode : ∀ q, (T.setFrames (.invoking m args :: below)).code? q = s.code? q := fun q => by
      rw [State.code?_eq, State.code?_eq, show (T.setFrames (.invoking m args :: below)).vm = T.vm from rfl, X.warmed.alike.method?]
    unfold State.hears at hh ⊢
    split at hh
    · rw [hcode]; exact hh
    · rfl
    · rfl
    · rw [show (T.setFrames (.invoking m args :: below)).vm.method? m = some meth from hm]
      rw [X.method] at hh
      exact hh
  · refine ⟨?_, Nat.le_refl _, Nat.le_refl _, ?_, ?_, fun a c h => ⟨c, h, rfl, rfl, fun _ _ => rfl⟩⟩
    · show T = { (T.setFrames (.invoking m args :: below)).setFrames T.frames with heap := T.heap, slotsUsed := T.slotsUsed }
      rw [State.setFrames_setFrames, State.setFrames_self ht]
    · show T.slotsUsed = T.slotsUsed + ((T.heap.toList.drop T.heap.size).map (·.slots.size)).sum
      rw [List.drop_eq_nil_of_le (by simp)]
      rfl
    · show ((T.heap.toList.drop T.heap.size).map (·.slots.size)).sum ≤ 0
      rw [List.drop_eq_nil_of_le (by simp)]
      exact Nat.le_refl _
theorem x_sameCells {s s' : State} {k n : Nat} (h : s.sameButNew s' [] k n) {q : Nat} (hq : q < s.heap.size) : s'.heap[q]? = s.heap[q]? := by
  have e : s.heap[q]? = some s.heap[q] := Array.getElem?_eq_getElem hq
  obtain ⟨c', h1, h2, h3, h4⟩ := h.2.2.2.2.2 q _ e
  rw [h1, e]
  congr 1
  rw [h2]
  have : c'.slots = s.heap[q].slots := Array.ext_getElem? (fun i => h4 i (by simp))
  rw [this]
def o_throw (P : xO → xH → Prop) (ci : Nat) : xOp := fun _ _ st h rc rs => xif (Nat.ble (st.map fun v => v.category).sum 8) (1 ≤ rc ∧ 6 ≤ rs ∧ ∀ a : Nat, h a = none → P (.inr (ci, a)) (xset h a (ci, [])))
theorem ok_throw {X : xX} {cc : ByteArray} {own : String} {nL d pc : Nat} (hC : xCx X cc own nL d) (hnh : X.c.exceptionTable.isEmpty = true) {ci i0 i1 i2 j : Nat} {r0 : vw_C} {tx : String} (names : List String) (hd0 : decode cc pc = .ok (.new i0, 3)) (hd1 : decode cc (pc + 3) = .ok (.dup, 1)) (hd2 : decode cc (pc + 4) = .ok (.ldc i1, 2)) (hd3 : decode cc (pc + 6) = .ok (.invokespecial i2, 3)) (hd4 : decode cc (pc + 9) = .ok (.athrow, 1))
    (hci : ci < 100) (hc : xcl[ci]? = some r0) (hN : r0.2.2 = 0) (hcl : Cond.classLink own i0 r0.1 ∈ xws) (hini : Cond.initialized r0.1 ∈ xws) (hq : xsr[j]? = some (own, i1, tx)) (hfit : Bundle.fit r0.1 = true) (hnames : ∀ n ∈ names, Bundle.fit n = true) (hw : ∀ a ∈ Bundle.ownAtoms own i2 r0.1 names, a ∈ xws ∨ a ∈ xhw) (hlen : names.length + 4 ≤ d) (hlen2 : names.length ≤ 4) : xOk X pc (o_throw X.P ci) := by
  intro K hK ls st h rc rs ho A H locs k n h1 h2 h3 h4 h5
  obtain ⟨e0, e1, e2, e3⟩ := xif_iff ho
  intro T hT Y
  have Yb := x_rebase Y (R' := { frames := X.R.frames, locals := X.R.locals, cells := 1, slots := 6 }) (Nat.le_refl _) (Nat.le_refl _) (by show k + 1 ≤ _; omega) (by show n + 6 ≤ _; omega)
  have hws := xws_warm hC.ts
  have hWT : X.s.WarmedH T.vm := Y.warmed
  generalize hs' : T.setFrames (.invoking X.m X.args :: X.below) = s' at Yb
  have hsv : s'.vm = T.vm := by rw [← hs']; rfl
  have hsh : s'.heap = H := by rw [← hs', ← hT]; rfl
  have hWs : X.s.WarmedH s'.vm := by rw [hsv]; exact hWT
  have hts' : ∀ w ∈ xws, w.before X.args s' = true := fun w hw => hws w hw _ s' hWs
  have hE' : x_E X.D s' s'.heap := (hC.E.kept (fun q hq => by rw [hsh]; exact h3.2.1 q hq)).warm hWs
  have hrefs : ∀ a ∈ xhw, a.before X.args s' = true := x_E.refs hE'
  have hat : ∀ a ∈ Bundle.ownAtoms own i2 r0.1 names, a.before X.args s' = true := fun a ha => by
    rcases hw a ha with z | z
    · exact hts' a z
    · exact hrefs a z
  have hown' : s'.vm.findClass own = some X.m.cls := by rw [hsv, hWT.alike.findClass]; exact hC.ow
  have hK' := hC.K.moved (U := s') hWs.alike
  have hKn := hK'.1 ci _ hc
  have hinst : Cond.instantiable r0.1 6 ∈ Bundle.ownAtoms own i2 r0.1 names := by simp [Bundle.ownAtoms]
  have hwalk : W X.p X.l X.e { frames := X.R.frames, locals := X.R.locals, cells := 1, slots := 6 } s' X.m X.args X.below X.meth X.c s'.heap [] 0 0 (fun U => U.status = .running ∧ Ended U X.below (.threw H.size) ∧ s'.WarmedH U.vm ∧ s'.sameButNew ({ U with vm := s'.vm } : State) [] 1 6 ∧ ∃ ce : Cell, U.heap[H.size]? = some ce ∧ ce.cls = X.D.cid ci ∧ ce.vm = .none) (F0 X.m pc A st) := by
    refine W.newcK hC.x hC.b hown' (hts' _ hcl) (hat _ hinst) (hts' _ hini) rfl hd0 (Nat.le_refl _) (Nat.le_refl _) hKn.2.1 (by rw [hsh]) fun H1 kC hkC z1 z2 z3 => ?_
    refine lv_dup hC.x hC.b hd1 rfl ?_
    obtain ⟨a0, f1, f2⟩ := hE'.2.1 j _ hq
    refine va_ldcS hC.x hC.b hown' f2 hd2 ?_
    intro T2 hT2 Y2
    obtain ⟨U, u1, u2, u3, u4, u5, ce, u6, u7⟩ := Y2.ctorThrowS hC.x hC.tr hown' hfit hnames hat (fun x hx => by cases hx) (a := H.size) (cX := X.D.cid ci) (kX := kC) hKn.2.1 hkC (by rw [hT2]; exact z1) (by rw [hsh]; exact Nat.le_refl _) (msg := .ref a0) rfl (g := F0 X.m (pc + 6) A (.ref a0 :: .ref H.size :: .ref H.size :: st)) rfl h1.1 rfl rfl (rest := st) rfl
      (by rw [hC.b]; exact hd3) (by rw [hC.b]; exact hd4) (fun x hx => by
        have z : X.c.exceptionTable = #[] := Array.isEmpty_iff.mp hnh
        rw [z] at hx
        cases hx) (by have := hC.fr; show names.length + 3 < X.R.frames; omega) (by have := hC.lo; have := Nat.le_of_ble_eq_true e0; show 2 * 0 + (1 + (st.map fun v => v.category).sum) + (13 * (names.length + 1) + 42) ≤ X.R.locals; omega) hC.lk
    exact ⟨U, u1, u2, u3, u4, u5, ce, u6, Option.some.inj (u7.cls.symm.trans hKn.2.1), u7.vm⟩
  obtain ⟨t, a1, b1, b2, b3, b4, ce, b5, b6, b7⟩ := hwalk T (by rw [hT, hsh]) Yb
  have hold : ∀ q : Nat, q < H.size → t.heap[q]? = H[q]? := fun q hq => by
    have := x_sameCells b4 (q := q) (by rw [hsh]; exact hq)
    rw [hsh] at this
    exact this
  have hsz : X.D.sz ≤ H.size := Nat.le_trans hC.z h3.1
  refine ⟨t, a1, .threw H.size, b1, b2, ⟨.inr (ci, H.size), xset h H.size (ci, []), rfl, ⟨hci, xset_same _ _ _⟩, e3 _ h2.fresh, h2.push ?_ hold, fun q hq => (hold q (by omega)).trans (h3.2.1 q hq), ?_⟩, locs, ⟨?_, ?_⟩, h3.2.2⟩
  · unfold x_at
    rw [if_pos hci]
    exact ⟨hsz, r0, hc, by rw [hN]; rfl, ce, b5, b6, b7, fun k hk => by rw [hN] at hk; exact absurd hk (Nat.not_lt_zero _)⟩
  · have := b4.2.1
    rw [hsh] at this
    exact Nat.le_trans h3.1 this
  · exact State.WarmedH.trans hWT (by rw [← hs'] at b3; exact b3)
  · have b4' : T.sameButNew ({ t with vm := T.vm } : State) [] 1 6 := by
      rw [← hs'] at b4
      obtain ⟨c1, c2⟩ := b4
      refine ⟨?_, c2⟩
      have c3 := c1
      rw [State.setFrames_setFrames] at c3
      exact c3
    have := Y.same.trans (b4'.setVm X.s.vm)
    rw [List.append_nil] at this
    exact this.mono (by omega) (by omega)
theorem x_ldcWS {p : Program} {l : Launch} {e : Env} {R : Room} {s : State} {m : MethodId} {args : Array Value} {below : List Frame} {meth : Method} {c : Code} {H : Heap} {locs : List Loc} {cells slots : Nat} {Q : State → Prop} {cc : ByteArray} {pc : Nat} {ls : Array Slot} {rest : List Value} (hexec : p.tables.exec = Jvm.exec) (hb : c.code = cc) {own tx : String} {index q : Nat} (hown : s.vm.findClass own = some m.cls) (hZ : vk_R own index tx q s) (hdg : decode cc pc = .ok (.ldc_w index, 3))
    (kk : W p l e R s m args below meth c H locs cells slots Q (F0 m (pc + 3) ls (.ref q :: rest))) : W p l e R s m args below meth c H locs cells slots Q (F0 m pc ls rest) := by
  intro T hT X
  obtain ⟨t, a1, b1⟩ := kk T hT X
  refine ⟨t, ?_, b1⟩
  obtain ⟨k, cf, i, a', hk, hcf, hcp, -, hr, hev'⟩ := Cond.stringRef_spec hown hZ.1
  cases hZ.2.symm.trans hev'
  obtain ⟨k', hk', he⟩ := X.warmed.alike.2.2 _ _ hk
  have hr' : k'.resolved[index]? = some (some (.string q)) := by
    rcases X.warmed.entry hk hk' index with h | ⟨h, -⟩
    · rw [h]; exact hr
    · rw [hr] at h; cases h
  jvm_step X.here [hexec, hb, hdg, ldc_w.wp_string (e := e) (s := T) (f := F0 m pc ls rest) X.here.top hk' (by rw [he]; exact hcf) hcp hr']
  exact a1
theorem ok_throwW {X : xX} {cc : ByteArray} {own : String} {nL d pc : Nat} (hC : xCx X cc own nL d) (hnh : X.c.exceptionTable.isEmpty = true) {ci i0 i1 i2 j : Nat} {r0 : vw_C} {tx : String} (names : List String) (hd0 : decode cc pc = .ok (.new i0, 3)) (hd1 : decode cc (pc + 3) = .ok (.dup, 1)) (hd2 : decode cc (pc + 4) = .ok (.ldc_w i1, 3)) (hd3 : decode cc (pc + 7) = .ok (.invokespecial i2, 3)) (hd4 : decode cc (pc + 10) = .ok (.athrow, 1))
    (hci : ci < 100) (hc : xcl[ci]? = some r0) (hN : r0.2.2 = 0) (hcl : Cond.classLink own i0 r0.1 ∈ xws) (hini : Cond.initialized r0.1 ∈ xws) (hq : xsr[j]? = some (own, i1, tx)) (hfit : Bundle.fit r0.1 = true) (hnames : ∀ n ∈ names, Bundle.fit n = true) (hw : ∀ a ∈ Bundle.ownAtoms own i2 r0.1 names, a ∈ xws ∨ a ∈ xhw) (hlen : names.length + 4 ≤ d) (hlen2 : names.length ≤ 4) : xOk X pc (o_throw X.P ci) := by
  intro K hK ls st h rc rs ho A H locs k n h1 h2 h3 h4 h5
  obtain ⟨e0, e1, e2, e3⟩ := xif_iff ho
  intro T hT Y
  have Yb := x_rebase Y (R' := { frames := X.R.frames, locals := X.R.locals, cells := 1, slots := 6 }) (Nat.le_refl _) (Nat.le_refl _) (by show k + 1 ≤ _; omega) (by show n + 6 ≤ _; omega)
  have hws := xws_warm hC.ts
  have hWT : X.s.WarmedH T.vm := Y.warmed
  generalize hs' : T.setFrames (.invoking X.m X.args :: X.below) = s' at Yb
  have hsv : s'.vm = T.vm := by rw [← hs']; rfl
  have hsh : s'.heap = H := by rw [← hs', ← hT]; rfl
  have hWs : X.s.WarmedH s'.vm := by rw [hsv]; exact hWT
  have hts' : ∀ w ∈ xws, w.before X.args s' = true := fun w hw => hws w hw _ s' hWs
  have hE' : x_E X.D s' s'.heap := (hC.E.kept (fun q hq => by rw [hsh]; exact h3.2.1 q hq)).warm hWs
  have hrefs : ∀ a ∈ xhw, a.before X.args s' = true := x_E.refs hE'
  have hat : ∀ a ∈ Bundle.ownAtoms own i2 r0.1 names, a.before X.args s' = true := fun a ha => by
    rcases hw a ha with z | z
    · exact hts' a z
    · exact hrefs a z
  have hown' : s'.vm.findClass own = some X.m.cls := by rw [hsv, hWT.alike.findClass]; exact hC.ow
  have hK' := hC.K.moved (U := s') hWs.alike
  have hKn := hK'.1 ci _ hc
  have hinst : Cond.instantiable r0.1 6 ∈ Bundle.ownAtoms own i2 r0.1 names := by simp [Bundle.ownAtoms]
  have hwalk : W X.p X.l X.e { frames := X.R.frames, locals := X.R.locals, cells := 1, slots := 6 } s' X.m X.args X.below X.meth X.c s'.heap [] 0 0 (fun U => U.status = .running ∧ Ended U X.below (.threw H.size) ∧ s'.WarmedH U.vm ∧ s'.sameButNew ({ U with vm := s'.vm } : State) [] 1 6 ∧ ∃ ce : Cell, U.heap[H.size]? = some ce ∧ ce.cls = X.D.cid ci ∧ ce.vm = .none) (F0 X.m pc A st) := by
    refine W.newcK hC.x hC.b hown' (hts' _ hcl) (hat _ hinst) (hts' _ hini) rfl hd0 (Nat.le_refl _) (Nat.le_refl _) hKn.2.1 (by rw [hsh]) fun H1 kC hkC z1 z2 z3 => ?_
    refine lv_dup hC.x hC.b hd1 rfl ?_
    obtain ⟨a0, f1, f2⟩ := hE'.2.1 j _ hq
    refine x_ldcWS hC.x hC.b hown' f2 hd2 ?_
    intro T2 hT2 Y2
    obtain ⟨U, u1, u2, u3, u4, u5, ce, u6, u7⟩ := Y2.ctorThrowS hC.x hC.tr hown' hfit hnames hat (fun x hx => by cases hx) (a := H.size) (cX := X.D.cid ci) (kX := kC) hKn.2.1 hkC (by rw [hT2]; exact z1) (by rw [hsh]; exact Nat.le_refl _) (msg := .ref a0) rfl (g := F0 X.m (pc + 7) A (.ref a0 :: .ref H.size :: .ref H.size :: st)) rfl h1.1 rfl rfl (rest := st) rfl
      (by rw [hC.b]; exact hd3) (by rw [hC.b]; exact hd4) (fun x hx => by
        have z : X.c.exceptionTable = #[] := Array.isEmpty_iff.mp hnh
        rw [z] at hx
        cases hx) (by have := hC.fr; show names.length + 3 < X.R.frames; omega) (by have := hC.lo; have := Nat.le_of_ble_eq_true e0; show 2 * 0 + (1 + (st.map fun v => v.category).sum) + (13 * (names.length + 1) + 42) ≤ X.R.locals; omega) hC.lk
    exact ⟨U, u1, u2, u3, u4, u5, ce, u6, Option.some.inj (u7.cls.symm.trans hKn.2.1), u7.vm⟩
  obtain ⟨t, a1, b1, b2, b3, b4, ce, b5, b6, b7⟩ := hwalk T (by rw [hT, hsh]) Yb
  have hold : ∀ q : Nat, q < H.size → t.heap[q]? = H[q]? := fun q hq => by
    have := x_sameCells b4 (q := q) (by rw [hsh]; exact hq)
    rw [hsh] at this
    exact this
  have hsz : X.D.sz ≤ H.size := Nat.le_trans hC.z h3.1
  refine ⟨t, a1, .threw H.size, b1, b2, ⟨.inr (ci, H.size), xset h H.size (ci, []), rfl, ⟨hci, xset_same _ _ _⟩, e3 _ h2.fresh, h2.push ?_ hold, fun q hq => (hold q (by omega)).trans (h3.2.1 q hq), ?_⟩, locs, ⟨?_, ?_⟩, h3.2.2⟩
  · unfold x_at
    rw [if_pos hci]
    exact ⟨hsz, r0, hc, by rw [hN]; rfl, ce, b5, b6, b7, fun k hk => by rw [hN] at hk; exact absurd hk (Nat.not_lt_zero _)⟩
  · have := b4.2.1
    rw [hsh] at this
    exact Nat.le_trans h3.1 this
  · exact State.WarmedH.trans hWT (by rw [← hs'] at b3; exact b3)
  · have b4' : T.sameButNew ({ t with vm := T.vm } : State) [] 1 6 := by
      rw [← hs'] at b4
      obtain ⟨c1, c2⟩ := b4
      refine ⟨?_, c2⟩
      have c3 := c1
      rw [State.setFrames_setFrames] at c3
      exact c3
    have := Y.same.trans (b4'.setVm X.s.vm)
    rw [List.append_nil] at this
    exact this.mono (by omega) (by omega)
