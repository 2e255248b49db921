/-! THE LAW, 2: calls whose throws are caught -/
theorem x_goC {e : Env} {s : State} {f : JFrame} {a : Addr} {d : Bool} {acts : List Action} {Q : Handler → Pre} {E : CtlPost} {x : ExceptionTableEntry} {t : List ExceptionTableEntry} {c : ClassId} {cell : Cell} {vm' : Vm} (hx : covers x f.pc = true) (h0 : x.catchType ≠ 0) (hg : (Jvm.resolveClass f.method.cls x.catchType).Gives e.toSetting s.vm (.ok c) vm') (hsz : vm'.classes.size ≤ s.vm.classes.size) (hcell : s.heap[a]? = some cell) (hobj : ∀ k, cell.vm ≠ .statics k) (hk : ∃ k, vm'.classes[cell.cls]? = some k) (hc : ∃ k, vm'.classes[c]? = some k) :
    wp (findHandler.go f a (x :: t)) Q E e d acts s ↔ if vm'.assignable cell.cls c = true then Q (.found x.handlerPc) d acts (s.setVm vm') else wp (findHandler.go f a t) Q E e d acts (s.setVm vm') := by
  simp only [covers] at hx
  obtain ⟨ha, ht⟩ := hg.op (op := VmOp.resolveClass f.method.cls x.catchType) rfl
  cases hfit : vm'.assignable cell.cls c <;>
    simp [findHandler.go, hx, h0, ha, ht, hsz, hcell, hobj, hk, hc, hfit, VmOp.dirties, VmOp.acts]
/-- what the search finds, and the tables behind it -/
def x_FC (e : Env) (s s' : State) (f : JFrame) (a : Addr) (h : Handler) : Prop := ∀ (Q : Handler → Pre) (E : CtlPost) (d : Bool) (acts : List Action), wp (findHandler f a) Q E e d acts s ↔ Q h d acts s'
theorem x_stepC {e : Env} {s s' : State} {a : Addr} {f : JFrame} {r : List Frame} {pc : Nat} (hfind : x_FC e s s' f a (.found pc)) :
    (stepThrowing e s a (.java f :: r)).Is (s'.setFrames (.java { f with pc := pc, stack := [.ref a] } :: r)) [] := by
  simp only [stepThrowing, searchFrame, vmDo]
  generalize hr : Sem.go _ e false [] s = res
  obtain ⟨as, rfl, ha⟩ := Sem.eq_ok_of hr (a := Handler.found pc) (s' := s') (acts' := []) (by simp [hfind _ _ _ _])
  exact ⟨rfl, ha⟩
theorem x_caught {tb : Tables} {e : Env} {s target : State} {g : JFrame} {c : Code} {below : List Frame} {a : Addr} {vm' : Vm} (h : At s g.method c below) {pc : Nat} (hfind : x_FC e ((s.setTop g).pushFrame (.throwing a)) (((s.setTop g).pushFrame (.throwing a)).setVm vm') g a (.found pc))
    (hrest : Steps tb e below ((s.setVm vm').setTop { g with pc := pc, stack := [.ref a] }) target) :
    Steps tb e below ((s.setTop g).pushFrame (.throwing a)) target := by
  obtain ⟨hgo, hw⟩ := h.throwing a
  refine Steps.head hgo hw ?_
  rw [stepThread_throwing (frames_entered h.top _), (x_stepC hfind).1]
  obtain ⟨g₀, hg⟩ := Option.isSome_iff_exists.mp h.top
  obtain ⟨r, hr⟩ := State.topJava?_eq_some.mp hg
  have hr' : (s.setVm vm').frames = .java g₀ :: r := hr
  rw [State.setTop_of_frames _ hr'] at hrest
  show Steps tb e below ((((s.setVm vm').setTop g).pushFrame (.throwing a)).setFrames (.java { g with pc := pc, stack := [.ref a] } :: s.frames.tail)) target
  rw [State.pushFrame, State.setFrames_setFrames, State.setTop_of_frames _ hr', State.setFrames_setFrames, hr]
  exact hrest
theorem x_asg (vm : Vm) (c : ClassId) : vm.assignable c c = true := by
  show vm.assignableAux (255 + 1) c c = true
  rw [Vm.assignableAux]
  simp
def xafC (K : Nat → xK) (hs : List (Nat × Nat)) (n : Nat) (ls : xL) (rest : List Value) (rc rs : Nat) (o : xO) (h' : xH) : Prop := match o with
  | .inl none => K n ls rest h' rc rs
  | .inl (some v) => K n ls (v :: rest) h' rc rs
  | .inr q => match hs.find? (fun z => Nat.beq z.1 q.1) with
    | some z => K z.2 ls [.ref q.2] h' rc rs
    | none => False
def xclC (l : Launch) (D : xD) (hs : List (Nat × Nat)) (d : Nat) (y : MethodName) (n : Nat) (K : Nat → xK) (ls : xL) (h : xH) (rc rs : Nat) (av rest : List Value) : Prop :=
  xif (Nat.ble (rest.map fun v => v.category).sum 8) (∃ (mc ms : Nat) (Pc : xO → xH → Prop), xMet l D d y av h mc ms Pc ∧ mc ≤ rc ∧ ms ≤ rs ∧ ∀ o h', Pc o h' → xafC K hs n ls rest (rc - mc) (rs - ms) o h')
def o_callVC (l : Launch) (D : xD) (hs : List (Nat × Nat)) (ci d na : Nat) (y : MethodName) (n : Nat) : xOp := fun K ls st h rc rs => xsp na [] st (fun av rest => match av with
  | .ref b :: _ => ∃ fs : List Value, h b = some (ci, fs) ∧ xclC l D hs d y n K ls h rc rs av rest
  | _ => False)
section XCALLC
variable {X : xX} {cc bytes : ByteArray} {own : String} {nL d pc maxL : Nat} {ret : Option FieldType}
/-- how a thrown one is caught: the class's number, the tables behind the search, the handler -/
def x_Ct (X : xX) (pc : Nat) (hs : List (Nat × Nat)) : Prop := ∀ (U : State) (locs : List Loc) (k n ci hp : Nat) (a : Nat) (h' : xH) (g : JFrame), Stand X.p X.l X.e X.R X.s X.m X.args X.below X.meth X.c U locs k n → x_R X.D X.s h' U.heap → ci < 100 → h' a = some (ci, []) → g.method = X.m → g.pc = pc → hs.find? (fun z => Nat.beq z.1 ci) = some (ci, hp) →
  ∃ vm', X.s.WarmedH vm' ∧ x_FC X.e ((U.setTop g).pushFrame (.throwing a)) (((U.setTop g).pushFrame (.throwing a)).setVm vm') g a (.found hp)
theorem x_callC (hC : xCx X cc own nL d) {hs : List (Nat × Nat)} (hct : x_Ct X pc hs) {y : MethodName} {d' len : Nat} {ig : Instr} (hdd : d' < d) (hmx : maxL ≤ 11) (hcode : ∃ (hh : List (Nat × Nat × Nat × Nat)), Cond.code y bytes maxL ret ∈ xws ∨ Cond.codeWith y bytes maxL ret hh ∈ xws) (hini : Cond.initialized y.cls ∈ xws) (hd : decode cc pc = .ok (ig, len))
    {K : Nat → xK} (hK : ∀ q ls st h rc rs, K q ls st h rc rs → xG X q ls st h rc rs) {ls : xL} {h : xH} {rc rs : Nat} {av rest st : List Value} (ho : xclC X.l X.D hs d' y (pc + len) K ls h rc rs av rest)
    {A : Array Slot} {H : Heap} {locs : List Loc} {k n : Nat} (h1 : lv_has A X.c.maxLocals ls) (h2 : x_R X.D X.s h H) (h3 : x_S X.D X.s.heap H locs) (h4 : k + rc ≤ X.R.cells) (h5 : n + rs ≤ X.R.slots)
    (hinv : ∀ T : State, T.heap = H → Stand X.p X.l X.e X.R X.s X.m X.args X.below X.meth X.c T locs k n → x_Inv X.p X.e X.s X.below T (F0 X.m pc A st) y av rest) : xW X H locs k n (F0 X.m pc A st) := by
  obtain ⟨hst, mc, ms, Pc, hM, g1, g2, g3⟩ := xif_iff ho
  intro T hT Y
  obtain ⟨mk, vm₁, hn, hW1, hgo⟩ := hinv T hT Y
  have Y1 := Y.noted hW1
  have hE1 : x_E X.D (T.setVm vm₁) (T.setVm vm₁).heap := (hC.E.kept (fun q hq => by show T.heap[q]? = _; rw [hT]; exact h3.2.1 q hq)).warm hW1
  obtain ⟨o, h', U', L, Y2, q1, q2, q3, q4, q5, q6, q7, q8⟩ := x_enter Y1 hM hC.tr (bytes := bytes) (maxL := maxL) (ret := ret) (g := { (F0 X.m pc A st) with stack := rest }) (ig := ig) (len := len) (mk := mk) rfl h1.1 (by rw [hC.b]; exact hd)
    (by show 2 * 0 + (rest.map fun v => v.category).sum ≤ 8; have := Nat.le_of_ble_eq_true hst; omega) (Y1.named hn) (xws_warm hC.ts) hcode hini (by have := hC.fr; omega) (by have := hC.lo; omega) (by omega) (by omega)
    ((by show x_R X.D (T.setVm vm₁) h T.heap; rw [hT]; exact h2.moved hW1.alike)) (hC.K.moved hW1.alike) hE1 (by show X.D.sz ≤ T.heap.size; rw [hT]; exact Nat.le_trans hC.z h3.1)
  have hTh : (T.setVm vm₁).heap = H := hT
  rw [hTh] at q5 q6
  have hR' : x_R X.D X.s h' U'.heap := q4.moved hW1.alike.symm
  have hS' : x_S X.D X.s.heap U'.heap (locs ++ L) := ⟨Nat.le_trans h3.1 q6, fun q hq => (q5 q hq).trans (h3.2.1 q hq), fun z hz => by
    rcases List.mem_append.mp hz with z1 | z1
    · exact h3.2.2 z z1
    · exact q1 z z1⟩
  have hgoon := g3 o h' q3
  cases o with
  | inl v =>
    have hs := q7 v rfl
    have hG : xG X (pc + len) ls (v.toList ++ rest) h' (rc - mc) (rs - ms) := by
      cases v with
      | none => exact hK _ _ _ _ _ _ hgoon
      | some v => exact hK _ _ _ _ _ _ hgoon
    obtain ⟨t, a1, b1⟩ := hG A U'.heap (locs ++ L) (k + mc) (n + ms) h1 hR' hS' (by omega) (by omega) U' rfl Y2
    exact ⟨t, hgo _ (fun acts => by rw [doInvoke_state]; exact hs.trans a1), b1⟩
  | inr q =>
    obtain ⟨ci, a⟩ := q
    have hst8 := q8 ci a rfl
    have hgo2 : (match hs.find? (fun z => Nat.beq z.1 ci) with
      | some z => K z.2 ls [.ref a] h' (rc - mc) (rs - ms)
      | none => False) := hgoon
    cases hf : hs.find? (fun z => Nat.beq z.1 ci) with
    | none => rw [hf] at hgo2; exact hgo2.elim
    | some z =>
      rw [hf] at hgo2
      have hz0 := List.find?_some hf
      have hz0 : Nat.beq z.1 ci = true := hz0
      have hz1 : z.1 = ci := Nat.eq_of_beq_eq_true hz0
      obtain ⟨z1, hp⟩ := z
      have hz1 : z1 = ci := hz1
      subst hz1
      have hG : xG X hp ls [.ref a] h' (rc - mc) (rs - ms) := hK _ _ _ _ _ _ hgo2
      obtain ⟨vm', hW', hF⟩ := hct U' (locs ++ L) (k + mc) (n + ms) z1 hp a h' { (F0 X.m pc A st) with stack := rest } Y2 hR' q2.1 q2.2 rfl rfl hf
      obtain ⟨t, a1, b1⟩ := hG A U'.heap (locs ++ L) (k + mc) (n + ms) h1 hR' hS' (by omega) (by omega) (U'.setVm vm') rfl (Y2.noted hW')
      refine ⟨t, hgo _ (fun acts => by
        rw [doInvoke_state]
        refine hst8.trans ?_
        exact x_caught (g := { (F0 X.m pc A st) with stack := rest }) Y2.here hF a1), b1⟩
theorem ok_callVC (hC : xCx X cc own nL d) {hs : List (Nat × Nat)} (hct : x_Ct X pc hs) {y : MethodName} {ci d' na i : Nat} {r0 : vw_C} (hd : decode cc pc = .ok (.invokevirtual i, 3)) (hdd : d' < d) (hmx : maxL ≤ 11) (hci : ci < 100) (hc : xcl[ci]? = some r0) (hp : xpn y na)
    (hcode : Cond.code y bytes maxL ret ∈ xws) (hini : Cond.initialized y.cls ∈ xws) (hl : Cond.methodLink own i y ∈ xws) (hin : Cond.instanceMethod y ∈ xws) (hse : Cond.selects r0.1 y y ∈ xws) : xOk X pc (o_callVC X.l X.D hs ci d' (na + 1) y (pc + 3)) := by
  intro K hK ls st h rc rs ho A H locs k n h1 h2 h3 h4 h5
  obtain ⟨av, rest, e1, e2, e3⟩ := xsp_of ho
  rw [List.append_nil] at e3
  split at e3
  · rename_i b as
    obtain ⟨fs, e4, e5⟩ := e3
    obtain ⟨cellB, r1, r2, r3⟩ := x_recv hC.K h2 hci hc e4
    refine x_callC hC hct (bytes := bytes) (ret := ret) hdd hmx ⟨[], Or.inl hcode⟩ hini hd hK e5 h1 h2 h3 h4 h5 (fun T hT Y => ?_)
    exact x_invV Y hC.x hC.ow (hC.ts _ hl) (hC.ts _ hin) (hC.ts _ hse) (hC.ts _ hcode) ⟨hp.1, hp.2.1⟩ (by rw [hT]; exact r1) r2 r3 rfl (hp.len (by simpa using e2)) (by show st = _; rw [e1]; simp) (by rw [hC.b]; exact hd)
  · exact e3.elim
/-- one row covers the call -/
theorem x_Ct1 (hC : xCx X cc own nL d) {x : ExceptionTableEntry} {c1 : Nat} {r1 : vw_C} (ht : X.c.exceptionTable.toList = [x]) (hx : covers x pc = true) (h0 : x.catchType ≠ 0) (hc1 : xcl[c1]? = some r1) (hl : Cond.classLink own x.catchType r1.1 ∈ xws) : x_Ct X pc [(c1, x.handlerPc)] := by
  intro U locs k n ci hp a h' g Y hR hci e hg hpc hf
  have hpl : X.e.platform.magicAccessors = ({} : Platform).magicAccessors := by rw [Y.admits.platform]
  have e1 : ci = c1 ∧ hp = x.handlerPc := by
    unfold List.find? at hf
    cases hb : Nat.beq c1 ci with
    | true =>
      rw [hb] at hf
      have := Nat.eq_of_beq_eq_true hb
      have hf : (c1, x.handlerPc) = (ci, hp) := by simpa using hf
      exact ⟨this.symm, by rw [Prod.mk.injEq] at hf; exact hf.2.symm⟩
    | false => rw [hb] at hf; cases hf
  obtain ⟨rfl, rfl⟩ := e1
  obtain ⟨g0, r', w1, w2, cellV, w3, w4, w5, w6⟩ := x_obj hci (hR _ _ e)
  have hfc : X.s.vm.findClass r1.1 = some (X.D.cid ci) := (hC.K.1 ci _ hc1).2.1
  obtain ⟨cc', hfcc, hcl⟩ := Cond.classLink_spec hC.ow (hC.ts _ hl) X.e.platform hpl
  cases hfc.symm.trans hfcc
  obtain ⟨hg₁, hwarm₁, hready₁⟩ := State.classEntry (e := X.e) Y.warmed hcl
  refine ⟨_, hwarm₁, ?_⟩
  have hal := hwarm₁.alike
  obtain ⟨kT, hkT⟩ := Vm.classAt_of_findClass hfc
  obtain ⟨kT', hkT', -⟩ := hal.2.2 _ _ hkT
  intro Q E d acts
  rw [W.findHandler_eq (meth := X.meth) (code := X.c) (by rw [Stand.throwing_vm, hg]; exact Y.method') Y.code, ht]
  rw [x_goC (c := X.D.cid ci) (cell := cellV) (vm' := U.vm.noted X.m.cls x.catchType (.cls (X.D.cid ci))) (by rw [hpc]; exact hx) h0 (by rw [Stand.throwing_vm, hg]; exact hg₁) (by rw [Stand.throwing_vm, Vm.size_note]; exact Nat.le_refl _) (by rw [Stand.throwing_heap]; exact w3) (fun kk z => by rw [w5] at z; cases z) (by rw [w4]; exact ⟨kT', hkT'⟩) ⟨kT', hkT'⟩]
  rw [w4, if_pos (x_asg _ _)]
/-- two rows cover the call: 15, and behind it 14 -/
theorem x_Ct2 (hC : xCx X cc own nL d) {x x' : ExceptionTableEntry} {r1 r2 : vw_C} (ht : X.c.exceptionTable.toList = [x, x']) (hx : covers x pc = true) (h0 : x.catchType ≠ 0) (hx' : covers x' pc = true) (h0' : x'.catchType ≠ 0) (hc1 : xcl[15]? = some r1) (hc2 : xcl[14]? = some r2) (hl : Cond.classLink own x.catchType r1.1 ∈ xws) (hl' : Cond.classLink own x'.catchType r2.1 ∈ xws) : x_Ct X pc [(15, x.handlerPc), (14, x'.handlerPc)] := by
  intro U locs k n ci hp a h' g Y hR hci e hg hpc hf
  have hpl : X.e.platform.magicAccessors = ({} : Platform).magicAccessors := by rw [Y.admits.platform]
  obtain ⟨g0, r', w1, w2, cellV, w3, w4, w5, w6⟩ := x_obj hci (hR _ _ e)
  have hfc : X.s.vm.findClass r1.1 = some (X.D.cid 15) := (hC.K.1 15 _ hc1).2.1
  have hfd : X.s.vm.findClass r2.1 = some (X.D.cid 14) := (hC.K.1 14 _ hc2).2.1
  obtain ⟨cc', hfcc, hcl⟩ := Cond.classLink_spec hC.ow (hC.ts _ hl) X.e.platform hpl
  cases hfc.symm.trans hfcc
  obtain ⟨hg₁, hwarm₁, hready₁⟩ := State.classEntry (e := X.e) Y.warmed hcl
  have hal := hwarm₁.alike
  obtain ⟨kT, hkT⟩ := Vm.classAt_of_findClass hfc
  obtain ⟨kT', hkT', -⟩ := hal.2.2 _ _ hkT
  obtain ⟨kS, hkS⟩ := Vm.classAt_of_findClass hfd
  obtain ⟨kS', hkS', -⟩ := hal.2.2 _ _ hkS
  have cs : (ci = 15 ∧ hp = x.handlerPc) ∨ (ci = 14 ∧ hp = x'.handlerPc) := by
    rw [List.find?_cons] at hf
    cases hb : Nat.beq 15 ci with
    | true =>
      rw [hb] at hf
      have := Nat.eq_of_beq_eq_true hb
      have hf : ((15, x.handlerPc) : Nat × Nat) = (ci, hp) := by simpa using hf
      exact Or.inl ⟨this.symm, by rw [Prod.mk.injEq] at hf; exact hf.2.symm⟩
    | false =>
      rw [hb, List.find?_cons] at hf
      cases hb2 : Nat.beq 14 ci with
      | true =>
        rw [hb2] at hf
        have := Nat.eq_of_beq_eq_true hb2
        have hf : ((14, x'.handlerPc) : Nat × Nat) = (ci, hp) := by simpa using hf
        exact Or.inr ⟨this.symm, by rw [Prod.mk.injEq] at hf; exact hf.2.symm⟩
      | false => rw [hb2] at hf; cases hf
  rcases cs with ⟨rfl, rfl⟩ | ⟨rfl, rfl⟩
  · refine ⟨_, hwarm₁, ?_⟩
    intro Q E d acts
    rw [W.findHandler_eq (meth := X.meth) (code := X.c) (by rw [Stand.throwing_vm, hg]; exact Y.method') Y.code, ht]
    rw [x_goC (c := X.D.cid 15) (cell := cellV) (vm' := U.vm.noted X.m.cls x.catchType (.cls (X.D.cid 15))) (by rw [hpc]; exact hx) h0 (by rw [Stand.throwing_vm, hg]; exact hg₁) (by rw [Stand.throwing_vm, Vm.size_note]; exact Nat.le_refl _) (by rw [Stand.throwing_heap]; exact w3) (fun kk z => by rw [w5] at z; cases z) (by rw [w4]; exact ⟨kT', hkT'⟩) ⟨kT', hkT'⟩]
    rw [w4, if_pos (x_asg _ _)]
  · obtain ⟨cd', hfdd, hcl2⟩ := Cond.classLink_spec hC.ow (hC.ts _ hl') X.e.platform hpl
    cases hfd.symm.trans hfdd
    obtain ⟨hg₂, hwarm₂, hready₂⟩ := State.classEntry (e := X.e) hwarm₁ hcl2
    have hal2 := hwarm₂.alike
    obtain ⟨kU, hkU, -⟩ := hal2.2.2 _ _ hkS
    obtain ⟨mi, m1, m2, hno⟩ := hC.E.2.2.2.2
    refine ⟨_, hwarm₂, ?_⟩
    intro Q E d acts
    rw [W.findHandler_eq (meth := X.meth) (code := X.c) (by rw [Stand.throwing_vm, hg]; exact Y.method') Y.code, ht]
    rw [x_goC (c := X.D.cid 15) (cell := cellV) (vm' := U.vm.noted X.m.cls x.catchType (.cls (X.D.cid 15))) (by rw [hpc]; exact hx) h0 (by rw [Stand.throwing_vm, hg]; exact hg₁) (by rw [Stand.throwing_vm, Vm.size_note]; exact Nat.le_refl _) (by rw [Stand.throwing_heap]; exact w3) (fun kk z => by rw [w5] at z; cases z) (by rw [w4]; exact ⟨kS', hkS'⟩) ⟨kT', hkT'⟩]
    rw [w4, if_neg (by rw [hal.assignable, hno]; decide)]
    rw [x_goC (c := X.D.cid 14) (cell := cellV) (vm' := (U.vm.noted X.m.cls x.catchType (.cls (X.D.cid 15))).noted X.m.cls x'.catchType (.cls (X.D.cid 14))) (by rw [hpc]; exact hx') h0' (by rw [hg]; exact hg₂) (by rw [Vm.size_note]; exact Nat.le_refl _) (by show ((U.setTop g).pushFrame (.throwing a)).heap[a]? = _; rw [Stand.throwing_heap]; exact w3) (fun kk z => by rw [w5] at z; cases z) (by rw [w4]; exact ⟨kU, hkU⟩) ⟨kU, hkU⟩]
    rw [w4, if_pos (x_asg _ _)]
    exact Iff.rfl
end XCALLC
/-- A CONTRACT OUT OF A WALK, of a method that catches -/
theorem xMet.ofH {l : Launch} {D : xD} {d : Nat} {y : MethodName} {av : List Value} {h : xH} {mc ms : Nat} {P : xO → xH → Prop} {cc : ByteArray} {maxL : Nat} {ret : Option FieldType} {hh : List (Nat × Nat × Nat × Nat)} (hy : plainName y.cls = true) (hcode : Cond.codeWith y cc maxL ret hh ∈ xws) (hav : (lg_sl av).length ≤ maxL)
    (body : ∀ X : xX, X.l = l → X.D = D → X.P = P → X.R.cells = mc → X.R.slots = ms → xCx X cc y.cls maxL d → X.meth.sig.returnType = ret → X.c.exceptionTable.toList.map (fun h => (h.startPc, h.endPc, h.handlerPc, h.catchType)) = hh → X.meth.name = y.name → xG X 0 (lv_args 0 av) [] h mc ms) : xMet l D d y av h mc ms P := by
  refine MetFree.of_bodyS (code := cc) (maxLocals := maxL) (ret := ret) hy ?_ ?_
  · intro args s m hpre hn
    obtain ⟨m', meth, c, h0, h1, h2, h3, h4, h5, h6, h7, -⟩ := Cond.codeWith_spec (atoms_spec (ws := xws) hpre _ hcode)
    cases hn.symm.trans h0
    exact ⟨meth, c, h1, h2, h3, h4, h6, h7⟩
  · intro p e s m args below meth c s₁ B hml hP htr
    obtain ⟨rfl, hR, hK, hE, hz⟩ := hP
    have hh0 : s₁.heap = s.heap := by rw [B.state]; rfl
    have hts : ∀ w ∈ xws, w.before av.toArray s = true := atoms_spec (ws := xws) B.pre
    have hnh : c.exceptionTable.toList.map (fun h => (h.startPc, h.endPc, h.handlerPc, h.catchType)) = hh := by
      obtain ⟨m', meth', c', h0, h1, h2, h3, h4, h5, h6, h7, -⟩ := Cond.codeWith_spec (hts _ hcode)
      cases B.named.symm.trans h0
      have e1 : meth' = meth := Option.some.inj (h1.symm.trans B.method)
      rw [e1] at h2
      have e2 : c' = c := Option.some.inj (h2.symm.trans (Stand.of_body B).code)
      rw [← e2]
      exact h5
    have hG := body (p, l, e, (headSpec xws (xrm d mc ms)).room, s, m, av.toArray, below, meth, c, D, P) rfl rfl rfl rfl rfl
      ⟨B.exec, B.bytes, hml, findClass_of_methodNamed B.named, hts, B.notSynchronized, hK, hE, hz, htr, Nat.le_refl _, Nat.le_refl _⟩ B.returns hnh (name_of_methodNamed B.named B.method).1
    have hl := lv_entry av (n := maxL) hav
    have hw := hG _ s.heap [] 0 0 (by rw [hml]; exact hl) hR ⟨Nat.le_refl _, fun _ _ => rfl, fun _ z => by cases z⟩ (by show 0 + mc ≤ mc; omega) (by show 0 + ms ≤ ms; omega)
    rw [← lg_entry_eq] at hw
    obtain ⟨t, a1, o, b1, b2, b3, b4⟩ := hw s₁ hh0 (Stand.of_body B)
    exact ⟨t, o, a1, b1, b2, b3, b4⟩
theorem tb1 {t : List ExceptionTableEntry} {a b c d : Nat} (h : t.map (fun h => (h.startPc, h.endPc, h.handlerPc, h.catchType)) = [(a, b, c, d)]) : t = [⟨a, b, c, d⟩] := by
  cases t with
  | nil => cases h
  | cons x t =>
    cases t with
    | nil =>
      obtain ⟨x1, x2, x3, x4⟩ := x
      simp only [List.map_cons, List.map_nil, List.cons.injEq, Prod.mk.injEq, and_true] at h
      obtain ⟨rfl, rfl, rfl, rfl⟩ := h
      rfl
    | cons y t => simp at h
theorem tb2 {t : List ExceptionTableEntry} {a b c d a' b' c' d' : Nat} (h : t.map (fun h => (h.startPc, h.endPc, h.handlerPc, h.catchType)) = [(a, b, c, d), (a', b', c', d')]) : t = [⟨a, b, c, d⟩, ⟨a', b', c', d'⟩] := by
  cases t with
  | nil => cases h
  | cons x t =>
    rw [List.map_cons, List.cons.injEq] at h
    have := tb1 h.2
    obtain ⟨x1, x2, x3, x4⟩ := x
    obtain ⟨h1, -⟩ := h
    simp only [Prod.mk.injEq] at h1
    obtain ⟨rfl, rfl, rfl, rfl⟩ := h1
    rw [this]
