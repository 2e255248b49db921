/-! THE ABSTRACT MACHINE, 5: returns, calls, contracts -/
section XRET
variable {X : xX} {cc : ByteArray} {own : String} {nL d pc : Nat}
theorem x_conv {H : Heap} {locs : List Loc} {k n : Nat} {g : JFrame} (hk : k ≤ X.R.cells) (hn : n ≤ X.R.slots) (hw : W X.p X.l X.e X.R X.s X.m X.args X.below X.meth X.c H locs k n (MQ X.below (fun _ st oc t => xQ X.D X.P st oc t) X.args X.s k n (fun q => X.D.sz ≤ q)) g) : xW X H locs k n g := by
  intro T hT Y
  obtain ⟨t, a, o, b1, b2, b3, L, ⟨-, b4, b5⟩, b6⟩ := hw T hT Y
  exact ⟨t, a, o, b1, b2, b3, L, ⟨b4, b5.mono hk hn⟩, b6⟩
theorem x_fin {h : xH} {H : Heap} {locs : List Loc} {v : Option Value} (h2 : x_R X.D X.s h H) (h3 : x_S X.D X.s.heap H locs) (hP : X.P (.inl v) h) : ∀ t : State, t.heap = H → X.s.WarmedH t.vm → xQ X.D X.P X.s (.returned v) t := fun t ht _ =>
  ⟨.inl v, h, rfl, trivial, hP, by rw [ht]; exact h2, fun q hq => by rw [ht]; exact h3.2.1 q hq, by rw [ht]; exact h3.1⟩
def o_iret (P : xO → xH → Prop) : xOp := fun _ _ st h _ _ => match st with
  | [.int v] => P (.inl (some (.int v))) h
  | _ => False
theorem ok_iret (hC : xCx X cc own nL d) (hr : X.meth.sig.returnType = some .int) (hd : decode cc pc = .ok (.ireturn, 1)) : xOk X pc (o_iret X.P) := by
  intro K hK ls st h rc rs ho A H locs k n h1 h2 h3 h4 h5
  unfold o_iret at ho
  split at ho
  · exact x_conv (by omega) (by omega) (W.iret (Qc := fun _ st oc t => xQ X.D X.P st oc t) (free := fun q => X.D.sz ≤ q) hC.x hC.b hr (x_fin h2 h3 ho) h3.2.2 hd hC.lk)
  · exact ho.elim
def o_zret (ty : FieldType) (P : xO → xH → Prop) : xOp := fun _ _ st h _ _ => match st with
  | [.int v] => narrow ty (.int v) = .int v ∧ P (.inl (some (.int v))) h
  | _ => False
theorem ok_zret (hC : xCx X cc own nL d) {ty : FieldType} (hr : X.meth.sig.returnType = some ty) (hd : decode cc pc = .ok (.ireturn, 1)) : xOk X pc (o_zret ty X.P) := by
  intro K hK ls st h rc rs ho A H locs k n h1 h2 h3 h4 h5
  unfold o_zret at ho
  split at ho
  · exact x_conv (by omega) (by omega) (W.zret (Qc := fun _ st oc t => xQ X.D X.P st oc t) (free := fun q => X.D.sz ≤ q) hC.x hC.b hr ho.1 (x_fin h2 h3 ho.2) h3.2.2 hd hC.lk)
  · exact ho.elim
def o_lret (P : xO → xH → Prop) : xOp := fun _ _ st h _ _ => match st with
  | [.long v] => P (.inl (some (.long v))) h
  | _ => False
theorem ok_lret (hC : xCx X cc own nL d) (hr : X.meth.sig.returnType = some .long) (hd : decode cc pc = .ok (.lreturn, 1)) : xOk X pc (o_lret X.P) := by
  intro K hK ls st h rc rs ho A H locs k n h1 h2 h3 h4 h5
  unfold o_lret at ho
  split at ho
  · exact x_conv (by omega) (by omega) (W.lret (Qc := fun _ st oc t => xQ X.D X.P st oc t) (free := fun q => X.D.sz ≤ q) hC.x hC.b hr (x_fin h2 h3 ho) h3.2.2 hd hC.lk)
  · exact ho.elim
def o_vret (P : xO → xH → Prop) : xOp := fun _ _ st h _ _ => match st with
  | [] => P (.inl none) h
  | _ => False
theorem ok_vret (hC : xCx X cc own nL d) (hr : X.meth.sig.returnType = none) (hd : decode cc pc = .ok (.return_, 1)) : xOk X pc (o_vret X.P) := by
  intro K hK ls st h rc rs ho A H locs k n h1 h2 h3 h4 h5
  unfold o_vret at ho
  split at ho
  · exact x_conv (by omega) (by omega) (W.vret (Qc := fun _ st oc t => xQ X.D X.P st oc t) (free := fun q => X.D.sz ≤ q) hC.x hC.b hr (x_fin h2 h3 ho) h3.2.2 hd hC.lk)
  · exact ho.elim
def o_aret (P : xO → xH → Prop) : xOp := fun _ _ st h _ _ => match st with
  | [.ref a] => P (.inl (some (.ref a))) h
  | [.null] => P (.inl (some .null)) h
  | _ => False
theorem ok_aret (hC : xCx X cc own nL d) {rt : FieldType} (hr : X.meth.sig.returnType = some rt) (hrt : (∃ n, rt = .object n) ∨ ∃ t, rt = .array t) (hd : decode cc pc = .ok (.areturn, 1)) : xOk X pc (o_aret X.P) := by
  intro K hK ls st h rc rs ho A H locs k n h1 h2 h3 h4 h5
  unfold o_aret at ho
  split at ho
  · exact x_conv (by omega) (by omega) (W.aret (Qc := fun _ st oc t => xQ X.D X.P st oc t) (free := fun q => X.D.sz ≤ q) hC.x hC.b hr hrt (Or.inr ⟨_, rfl⟩) (x_fin h2 h3 ho) h3.2.2 hd hC.lk)
  · exact x_conv (by omega) (by omega) (W.aret (Qc := fun _ st oc t => xQ X.D X.P st oc t) (free := fun q => X.D.sz ≤ q) hC.x hC.b hr hrt (Or.inl rfl) (x_fin h2 h3 ho) h3.2.2 hd hC.lk)
  · exact ho.elim
end XRET
/-- behind the invocation of a method that has a contract: it has returned, or thrown -/
theorem x_enter {p : Program} {l : Launch} {e : Env} {R : Room} {s : State} {m : MethodId} {args : Array Value} {below : List Frame} {meth : Method} {c : Code} {U : State} {Ls : List Loc} {c0 s0 : Nat} (X : Stand p l e R s m args below meth c U Ls c0 s0)
    {D : xD} {d mc ms maxL len : Nat} {y : MethodName} {av : List Value} {h : xH} {P : xO → xH → Prop} {bytes : ByteArray} {ret : Option FieldType} (hM : xMet l D d y av h mc ms P) (htr : e.platform.stackTraces = false)
    {g : JFrame} {ig : Instr} {mk : MethodId} (hg : g.method = m) (hsize : g.locals.size = c.maxLocals) (hdg : decode c.code g.pc = .ok (ig, len)) (hW : 2 * g.monitorRoom + (g.stack.map fun v => v.category).sum ≤ 8) (hn : U.methodNamed? y = some mk)
    (hws : ∀ w ∈ xws, ∀ (a' : Array Value) (V : State), s.WarmedH V.vm → w.before a' V = true) (hcode : ∃ (hh : List (Nat × Nat × Nat × Nat)), Cond.code y bytes maxL ret ∈ xws ∨ Cond.codeWith y bytes maxL ret hh ∈ xws) (hini : Cond.initialized y.cls ∈ xws) (hfr : d + 1 ≤ R.frames) (hlo : 8 + (maxL + 11) + (30 * d + 130) ≤ R.locals) (hc : c0 + mc ≤ R.cells) (hs : s0 + ms ≤ R.slots)
    (hR : x_R D U h U.heap) (hK : x_K D U) (hE : x_E D U U.heap) (hz : D.sz ≤ U.heap.size) :
    ∃ (o : xO) (h' : xH) (U' : State) (L : List Loc), Stand p l e R s m args below meth c U' (Ls ++ L) (c0 + mc) (s0 + ms) ∧ (∀ q ∈ L, D.sz ≤ q.base) ∧ xOe o h' ∧ P o h' ∧ x_R D U h' U'.heap ∧ (∀ q : Nat, q < D.sz → U'.heap[q]? = U.heap[q]?) ∧ U.heap.size ≤ U'.heap.size ∧
      (∀ v, o = .inl v → Steps p.tables e below (doInvoke e (U.setTop g) [] mk av.toArray).1 (U'.setTop { g with pc := g.pc + len, stack := v.toList ++ g.stack })) ∧
      (∀ ci a, o = .inr (ci, a) → Steps p.tables e below (doInvoke e (U.setTop g) [] mk av.toArray).1 ((U'.setTop g).pushFrame (.throwing a))) := by
  have hmY : ∃ (methY : Method) (cY : Code), U.vm.method? mk = some methY ∧ methY.code = some cY ∧ cY.maxLocals = maxL := by
    obtain ⟨hh, z | z⟩ := hcode
    · obtain ⟨methY, cY, z1, z2, -, z3, -⟩ := Cond.code_spec hn (hws _ z #[] U X.warmed)
      exact ⟨methY, cY, z1, z2, z3⟩
    · obtain ⟨m9, methY, cY, z0, z1, z2, -, z3, -⟩ := Cond.codeWith_spec (hws _ z #[] U X.warmed)
      cases hn.symm.trans z0
      exact ⟨methY, cY, z1, z2, z3⟩
  obtain ⟨methY, cY, hmY, hcY, hlY⟩ := hmY
  obtain ⟨kY, hkY, -⟩ := className_of_methodNamed hn
  have hinitY : kY.init = .initialized := Cond.initialized_spec (findClass_of_methodNamed hn) hkY (hws _ hini #[] U X.warmed)
  have hat : At U g.method c below := by rw [hg]; exact X.here
  have happ : (headSpec xws (xrm d mc ms)).appliesLoose y e.platform (U.calling g mk av.toArray) = true :=
    Spec.appliesLoose_calling (g := g) hat hdg hn hkY hinitY
      (X.room_calling (g := g) (R' := xrm d mc ms) hsize hmY hcY (by show d + 1 ≤ _; omega) (by rw [hlY]; show _ + (30 * d + 130) ≤ _; omega) hc hs) (atoms_intro fun w hw => hws w hw _ _ X.warmed)
  obtain ⟨mid, hmid⟩ := hat.above
  have hfrm : (U.setTop g).frames = (.java g :: mid) ++ below := by rw [State.frames_setTop' g hat.top, hmid]; rfl
  obtain ⟨oc, s₂, hsteps, -, hend, ⟨o, h', q1, q2, q3, q4, q5, q6⟩, L, ⟨hW₂, hsame2⟩, hL⟩ := Steps.callFree hM p X.admits X.cas X.clock (acts := []) hfrm happ ⟨rfl, hR, hK, hE, hz⟩ htr
  have hsame3 : (U.calling g mk av.toArray).sameButNew ({ s₂ with vm := (U.calling g mk av.toArray).vm } : State) L mc ms := hsame2
  obtain ⟨e2, r2, r3, r4, r5, r6⟩ := id hsame3
  rw [State.frames_setTop' g hat.top] at hend
  have e3 : s₂ = ({ (U.calling g mk av.toArray).setFrames s₂.frames with heap := s₂.heap, slotsUsed := s₂.slotsUsed } : State).setVm s₂.vm := by
    have : s₂ = ({ s₂ with vm := (U.calling g mk av.toArray).vm } : State).setVm s₂.vm := rfl
    rw [e2] at this
    exact this
  have hW' : U.WarmedH s₂.vm := hW₂
  obtain ⟨g₀, hg0⟩ := Option.isSome_iff_exists.mp hat.top
  obtain ⟨r, hr⟩ := State.topJava?_eq_some.mp hg0
  have hsame : U.sameButNew ({ U with heap := s₂.heap, slotsUsed := s₂.slotsUsed } : State) L mc ms := by
    refine ⟨?_, r2, r3, r4, r5, r6⟩
    obtain ⟨t, ht, -⟩ := State.frames_cons hr
    show ({ U with heap := s₂.heap, slotsUsed := s₂.slotsUsed } : State) = { U.setFrames U.frames with heap := s₂.heap, slotsUsed := s₂.slotsUsed }
    rw [State.setFrames_self ht]
  have hr' : (({ U with heap := s₂.heap, slotsUsed := s₂.slotsUsed } : State).setVm s₂.vm).frames = .java g₀ :: r := hr
  subst hg
  refine ⟨o, h', (({ U with heap := s₂.heap, slotsUsed := s₂.slotsUsed } : State).setVm s₂.vm), L,
    ⟨X.admits, X.cas, X.clock, X.frames, X.room, X.hears, X.method, X.code, (X.here.setHeapUsed s₂.heap s₂.slotsUsed).setVm hW'.alike, X.tail, State.WarmedH.trans X.warmed hW', X.limits, X.bytes, X.same.trans (hsame.setVm s.vm)⟩,
    hL, q2, q3, q4, q5, q6, ?_, ?_⟩
  · intro v ev
    subst ev
    have ev : oc = .returned v := q1
    subst ev
    obtain ⟨c₂, i₂, len₂, hc₂, hd₂, hf₂⟩ := hend
    have hcc : c₂ = c := by
      have h1 : s₂.code? g.method = U.code? g.method := by
        rw [State.code?_eq, State.code?_eq, hW'.alike.method?]
      exact Option.some.inj (hc₂.symm.trans (h1.trans hat.code))
    subst hcc
    have hlen : len₂ = len := by rw [hdg] at hd₂; cases hd₂; rfl
    subst hlen
    have hs₂ : s₂ = (({ U with heap := s₂.heap, slotsUsed := s₂.slotsUsed } : State).setVm s₂.vm).setTop { g with pc := g.pc + len₂, stack := v.toList ++ g.stack } := by
      refine e3.trans ?_
      rw [hf₂, State.calling_eq hat.top, State.setFrames_setFrames, State.setTop_of_frames _ hr', hr]
      rfl
    rw [← hs₂]
    exact hsteps
  · intro ci a ev
    subst ev
    have ev : oc = .threw a := q1
    subst ev
    have hf₂ : s₂.frames = .throwing a :: .java g :: U.frames.tail := hend
    have hs₂ : s₂ = ((({ U with heap := s₂.heap, slotsUsed := s₂.slotsUsed } : State).setVm s₂.vm).setTop g).pushFrame (.throwing a) := by
      refine e3.trans ?_
      rw [hf₂, State.calling_eq hat.top, State.setFrames_setFrames, State.pushFrame, State.frames_setTop _ hr', State.setTop_of_frames _ hr', State.setFrames_setFrames, hr]
      rfl
    rw [← hs₂]
    exact hsteps
/-- how a call comes to the method: by the instruction at g.pc the machine at T invokes y with av, 'rest' stays on the stack -/
def x_Inv (p : Program) (e : Env) (s : State) (below : List Frame) (T : State) (g : JFrame) (y : MethodName) (av rest : List Value) : Prop :=
  ∃ (mk : MethodId) (vm₁ : Vm), s.methodNamed? y = some mk ∧ s.WarmedH vm₁ ∧ ∀ target, (∀ acts, Steps p.tables e below (doInvoke e ((T.setVm vm₁).setTop { g with stack := rest }) acts mk av.toArray).1 target) → Steps p.tables e below (T.setTop g) target
section XINV
variable {p : Program} {l : Launch} {e : Env} {R : Room} {s : State} {m : MethodId} {args : Array Value} {below : List Frame} {meth : Method} {c : Code} {T : State} {locs : List Loc} {cells slots : Nat}
theorem x_invV (X : Stand p l e R s m args below meth c T locs cells slots) (hexec : p.tables.exec = Jvm.exec) {own C : String} {index : Nat} {y : MethodName} {bytes : ByteArray} {maxL : Nat} {ret : Option FieldType}
    (hown : s.vm.findClass own = some m.cls) (hlink : (Cond.methodLink own index y).before args s = true) (hinst : (Cond.instanceMethod y).before args s = true) (hsel : (Cond.selects C y y).before args s = true)
    (hcode : (Cond.code y bytes maxL ret).before args s = true) (hy : y.cls ≠ "java/lang/invoke/MethodHandle" ∧ y.cls ≠ "java/lang/invoke/VarHandle")
    {b : Addr} {cellB : Cell} (hcell : T.heap[b]? = some cellB) (hobj : cellB.vm.isStatics = false) (hcls : s.vm.findClass C = some cellB.cls)
    {g : JFrame} (hg : g.method = m) {argsL rest : List Value} (hlen : ∀ sig, parseMethodDescriptor y.desc = some sig → argsL.length = sig.parameters.length)
    (hstack : g.stack = argsL.reverse ++ .ref b :: rest) (hdg : decode c.code g.pc = .ok (.invokevirtual index, 3)) : x_Inv p e s below T g y (Value.ref b :: argsL) rest := by
  obtain ⟨mk, methM, hnamed, hmethM, hstM, habM⟩ := Cond.instanceMethod_spec hinst
  obtain ⟨methM', cM, hmethM', -, -, -, -, -, -, hsigM⟩ := Cond.code_spec hnamed hcode
  cases hmethM.symm.trans hmethM'
  obtain ⟨c2, r2, m2, q1, q2, q3, q4, kP, hkP, hkPi⟩ := Cond.selects_spec hsel
  cases hcls.symm.trans q1
  cases (State.methodFound?_of_named hnamed hy).symm.trans q2
  cases hnamed.symm.trans q3
  have hselP : selectMethod e.platform s.vm cellB.cls mk = .method mk := by rw [Launch.admits_selectMethod X.admits]; exact q4
  obtain ⟨vm₁, X₁, hstep₁⟩ := X.invokevirtual hexec hown hlink hnamed hmethM hstM hkP hkPi hy (a := b) (cell := cellB) hcell
    (fun z h => by rw [h] at hobj; cases hobj) hselP hmethM habM hkP hkPi (g := g) hg (argsL := argsL) (rest := rest) (hlen _ hsigM) hstack hdg
  exact ⟨mk, vm₁, hnamed, X₁.warmed, fun target h => hstep₁ _ fun acts => h acts⟩
theorem x_invVN (X : Stand p l e R s m args below meth c T locs cells slots) (hexec : p.tables.exec = Jvm.exec) {own C : String} {index : Nat} {host : String} {y : MethodName} {bytes : ByteArray} {maxL : Nat} {ret : Option FieldType}
    (hown : s.vm.findClass own = some m.cls) (hlink : (Cond.methodLinkNest own index y host).before args s = true) (hinst : (Cond.instanceMethod y).before args s = true) (hsel : (Cond.selects C y y).before args s = true)
    (hcode : (Cond.code y bytes maxL ret).before args s = true) (hy : y.cls ≠ "java/lang/invoke/MethodHandle" ∧ y.cls ≠ "java/lang/invoke/VarHandle")
    {b : Addr} {cellB : Cell} (hcell : T.heap[b]? = some cellB) (hobj : cellB.vm.isStatics = false) (hcls : s.vm.findClass C = some cellB.cls)
    {g : JFrame} (hg : g.method = m) {argsL rest : List Value} (hlen : ∀ sig, parseMethodDescriptor y.desc = some sig → argsL.length = sig.parameters.length)
    (hstack : g.stack = argsL.reverse ++ .ref b :: rest) (hdg : decode c.code g.pc = .ok (.invokevirtual index, 3)) : x_Inv p e s below T g y (Value.ref b :: argsL) rest := by
  obtain ⟨mk, methM, hnamed, hmethM, hstM, habM⟩ := Cond.instanceMethod_spec hinst
  obtain ⟨methM', cM, hmethM', -, -, -, -, -, -, hsigM⟩ := Cond.code_spec hnamed hcode
  cases hmethM.symm.trans hmethM'
  obtain ⟨c2, r2, m2, q1, q2, q3, q4, kP, hkP, hkPi⟩ := Cond.selects_spec hsel
  cases hcls.symm.trans q1
  cases (State.methodFound?_of_named hnamed hy).symm.trans q2
  cases hnamed.symm.trans q3
  have hselP : selectMethod e.platform s.vm cellB.cls mk = .method mk := by rw [Launch.admits_selectMethod X.admits]; exact q4
  obtain ⟨vm₁, X₁, hstep₁⟩ := X.invokevirtualNest hexec hown hlink hnamed hmethM hstM hkP hkPi hy (a := b) (cell := cellB) hcell
    (fun z h => by rw [h] at hobj; cases hobj) hselP hmethM habM hkP hkPi (g := g) hg (argsL := argsL) (rest := rest) (hlen _ hsigM) hstack hdg
  exact ⟨mk, vm₁, hnamed, X₁.warmed, fun target h => hstep₁ _ fun acts => h acts⟩
theorem x_invS (X : Stand p l e R s m args below meth c T locs cells slots) (hexec : p.tables.exec = Jvm.exec) {own : String} {index : Nat} {y : MethodName} {mk : MethodId} {methM : Method}
    (hown : s.vm.findClass own = some m.cls) (hlink : (Cond.methodLink own index y).before args s = true) (hstat : (Cond.static y).before args s = true) (hinit : (Cond.initialized y.cls).before args s = true)
    (hnamed : s.methodNamed? y = some mk) (hmethM : s.vm.method? mk = some methM) (hsigM : parseMethodDescriptor y.desc = some methM.sig) (hy : y.cls ≠ "java/lang/invoke/MethodHandle" ∧ y.cls ≠ "java/lang/invoke/VarHandle")
    {g : JFrame} (hg : g.method = m) {argsL rest : List Value} (hlen : ∀ sig, parseMethodDescriptor y.desc = some sig → argsL.length = sig.parameters.length)
    (hstack : g.stack = argsL.reverse ++ rest) (hdg : decode c.code g.pc = .ok (.invokestatic index, 3)) : x_Inv p e s below T g y argsL rest := by
  have hstatic : methM.isStatic = true := Cond.static_spec hnamed hmethM hstat
  obtain ⟨kP, hkP, -⟩ := className_of_methodNamed hnamed
  have hinitP : kP.init = .initialized := Cond.initialized_spec (findClass_of_methodNamed hnamed) hkP hinit
  obtain ⟨vm₁, X₁, hstep₁⟩ := X.invokestatic hexec hown hlink hnamed hmethM hstatic hkP hinitP hy (g := g) hg (argsL := argsL) (rest := rest) (hlen _ hsigM) hstack hdg
  exact ⟨mk, vm₁, hnamed, X₁.warmed, fun target h => hstep₁ _ fun acts => h acts⟩
theorem x_invSN (X : Stand p l e R s m args below meth c T locs cells slots) (hexec : p.tables.exec = Jvm.exec) {own host : String} {index : Nat} {y : MethodName} {mk : MethodId} {methM : Method}
    (hown : s.vm.findClass own = some m.cls) (hlink : (Cond.methodLinkNest own index y host).before args s = true) (hstat : (Cond.static y).before args s = true) (hinit : (Cond.initialized y.cls).before args s = true)
    (hnamed : s.methodNamed? y = some mk) (hmethM : s.vm.method? mk = some methM) (hsigM : parseMethodDescriptor y.desc = some methM.sig) (hy : y.cls ≠ "java/lang/invoke/MethodHandle" ∧ y.cls ≠ "java/lang/invoke/VarHandle")
    {g : JFrame} (hg : g.method = m) {argsL rest : List Value} (hlen : ∀ sig, parseMethodDescriptor y.desc = some sig → argsL.length = sig.parameters.length)
    (hstack : g.stack = argsL.reverse ++ rest) (hdg : decode c.code g.pc = .ok (.invokestatic index, 3)) : x_Inv p e s below T g y argsL rest := by
  have hstatic : methM.isStatic = true := Cond.static_spec hnamed hmethM hstat
  obtain ⟨kP, hkP, -⟩ := className_of_methodNamed hnamed
  have hinitP : kP.init = .initialized := Cond.initialized_spec (findClass_of_methodNamed hnamed) hkP hinit
  obtain ⟨vm₁, X₁, hstep₁⟩ := X.invokestaticNest hexec hown hlink hnamed hmethM hstatic hkP hinitP hy (g := g) hg (argsL := argsL) (rest := rest) (hlen _ hsigM) hstack hdg
  exact ⟨mk, vm₁, hnamed, X₁.warmed, fun target h => hstep₁ _ fun acts => h acts⟩
theorem x_invI (X : Stand p l e R s m args below meth c T locs cells slots) (hexec : p.tables.exec = Jvm.exec) {own : String} {index : Nat} {y : MethodName} {bytes : ByteArray} {maxL : Nat}
    (hown : s.vm.findClass own = some m.cls) (hy1 : y.name = "<init>") (hlink : (Cond.methodLink own index y).before args s = true) (hinst : (Cond.instanceMethod y).before args s = true)
    (hcode : (Cond.code y bytes maxL none).before args s = true) (hy : y.cls ≠ "java/lang/invoke/MethodHandle" ∧ y.cls ≠ "java/lang/invoke/VarHandle")
    {g : JFrame} (hg : g.method = m) {a : Addr} {argsL rest : List Value} (hlen : ∀ sig, parseMethodDescriptor y.desc = some sig → argsL.length = sig.parameters.length)
    (hstack : g.stack = argsL.reverse ++ .ref a :: rest) (hdg : decode c.code g.pc = .ok (.invokespecial index, 3)) : x_Inv p e s below T g y (Value.ref a :: argsL) rest := by
  subst hg
  have hpl : e.platform.magicAccessors = ({} : Platform).magicAccessors := by rw [X.admits.platform]
  obtain ⟨mk, methM, cM, kP, vm₁, hnamed, hmethM, hcodeM, -, hlocalsM, -, hkP, -, hW₁, hstep₁⟩ := Steps.initColdArgs (e := e) X.here hexec X.warmed hpl hown hy1 hy hlink hinst hcode (f := g) rfl hlen hstack hdg
  exact ⟨mk, vm₁, hnamed, hW₁, fun target h => hstep₁ _ fun acts => h acts⟩
theorem x_invIN (X : Stand p l e R s m args below meth c T locs cells slots) (hexec : p.tables.exec = Jvm.exec) {own host : String} {index : Nat} {y : MethodName} {bytes : ByteArray} {maxL : Nat}
    (hown : s.vm.findClass own = some m.cls) (hy1 : y.name = "<init>") (hlink : (Cond.methodLinkNest own index y host).before args s = true) (hinst : (Cond.instanceMethod y).before args s = true)
    (hcode : (Cond.code y bytes maxL none).before args s = true) (hy : y.cls ≠ "java/lang/invoke/MethodHandle" ∧ y.cls ≠ "java/lang/invoke/VarHandle")
    {g : JFrame} (hg : g.method = m) {a : Addr} {argsL rest : List Value} (hlen : ∀ sig, parseMethodDescriptor y.desc = some sig → argsL.length = sig.parameters.length)
    (hstack : g.stack = argsL.reverse ++ .ref a :: rest) (hdg : decode c.code g.pc = .ok (.invokespecial index, 3)) : x_Inv p e s below T g y (Value.ref a :: argsL) rest := by
  subst hg
  have hpl : e.platform.magicAccessors = ({} : Platform).magicAccessors := by rw [X.admits.platform]
  obtain ⟨mk, methM, cM, kP, vm₁, hnamed, hmethM, hcodeM, -, hlocalsM, -, hkP, -, hW₁, hstep₁⟩ := Steps.initColdArgsNest (e := e) X.here hexec X.warmed hpl hown hy1 hy hlink hinst hcode (f := g) rfl hlen hstack hdg
  exact ⟨mk, vm₁, hnamed, hW₁, fun target h => hstep₁ _ fun acts => h acts⟩
end XINV
/-! THE ABSTRACT MACHINE, 6: the call operations, contracts out of walks -/
def xsp : Nat → List Value → List Value → (List Value → List Value → Prop) → Prop
  | 0, acc, st, k => k acc st
  | n + 1, acc, st, k => match st with
    | v :: r => xsp n (v :: acc) r k
    | [] => False
theorem xsp_of : ∀ {n : Nat} {acc st : List Value} {k : List Value → List Value → Prop}, xsp n acc st k → ∃ av rest : List Value, st = av.reverse ++ rest ∧ av.length = n ∧ k (av ++ acc) rest
  | 0, acc, st, k, h => ⟨[], st, rfl, rfl, h⟩
  | n + 1, acc, st, k, h => by
    unfold xsp at h
    split at h
    · rename_i v r
      obtain ⟨av, rest, e1, e2, e3⟩ := xsp_of h
      refine ⟨av ++ [v], rest, by rw [e1]; simp, by simp [e2], ?_⟩
      rw [List.append_assoc]
      exact e3
    · exact h.elim
def xaf (K : Nat → xK) (P : xO → xH → Prop) (n : Nat) (ls : xL) (rest : List Value) (rc rs : Nat) (o : xO) (h' : xH) : Prop := match o with
  | .inl none => K n ls rest h' rc rs
  | .inl (some v) => K n ls (v :: rest) h' rc rs
  | .inr q => P (.inr q) h'
def xcl' (l : Launch) (D : xD) (P : xO → xH → Prop) (d : Nat) (y : MethodName) (n : Nat) (K : Nat → xK) (ls : xL) (h : xH) (rc rs : Nat) (av rest : List Value) : Prop :=
  xif (Nat.ble (rest.map fun v => v.category).sum 8) (∃ (mc ms : Nat) (Pc : xO → xH → Prop), xMet l D d y av h mc ms Pc ∧ mc ≤ rc ∧ ms ≤ rs ∧ ∀ o h', Pc o h' → xaf K P n ls rest (rc - mc) (rs - ms) o h')
def o_callS (l : Launch) (D : xD) (P : xO → xH → Prop) (d na : Nat) (y : MethodName) (n : Nat) : xOp := fun K ls st h rc rs => xsp na [] st (xcl' l D P d y n K ls h rc rs)
def o_callV (l : Launch) (D : xD) (P : xO → xH → Prop) (ci d na : Nat) (y : MethodName) (n : Nat) : xOp := fun K ls st h rc rs => xsp na [] st (fun av rest => match av with
  | .ref b :: _ => ∃ fs : List Value, h b = some (ci, fs) ∧ xcl' l D P d y n K ls h rc rs av rest
  | _ => False)
def o_callI (l : Launch) (D : xD) (P : xO → xH → Prop) (d na : Nat) (y : MethodName) (n : Nat) : xOp := fun K ls st h rc rs => xsp na [] st (fun av rest => match av with
  | .ref _ :: _ => xcl' l D P d y n K ls h rc rs av rest
  | _ => False)
section XCALL
variable {X : xX} {cc bytes : ByteArray} {own : String} {nL d pc maxL : Nat} {ret : Option FieldType}
theorem x_call (hC : xCx X cc own nL d) (hnh : X.c.exceptionTable.isEmpty = true) {y : MethodName} {d' len : Nat} {ig : Instr} (hdd : d' < d) (hmx : maxL ≤ 11) (hcode : ∃ (hh : List (Nat × Nat × Nat × Nat)), Cond.code y bytes maxL ret ∈ xws ∨ Cond.codeWith y bytes maxL ret hh ∈ xws) (hini : Cond.initialized y.cls ∈ xws) (hd : decode cc pc = .ok (ig, len))
    {K : Nat → xK} (hK : ∀ q ls st h rc rs, K q ls st h rc rs → xG X q ls st h rc rs) {ls : xL} {h : xH} {rc rs : Nat} {av rest st : List Value} (ho : xcl' X.l X.D X.P d' y (pc + len) K ls h rc rs av rest)
    {A : Array Slot} {H : Heap} {locs : List Loc} {k n : Nat} (h1 : lv_has A X.c.maxLocals ls) (h2 : x_R X.D X.s h H) (h3 : x_S X.D X.s.heap H locs) (h4 : k + rc ≤ X.R.cells) (h5 : n + rs ≤ X.R.slots)
    (hinv : ∀ T : State, T.heap = H → Stand X.p X.l X.e X.R X.s X.m X.args X.below X.meth X.c T locs k n → x_Inv X.p X.e X.s X.below T (F0 X.m pc A st) y av rest) : xW X H locs k n (F0 X.m pc A st) := by
  obtain ⟨hst, mc, ms, Pc, hM, g1, g2, g3⟩ := xif_iff ho
  intro T hT Y
  obtain ⟨mk, vm₁, hn, hW1, hgo⟩ := hinv T hT Y
  have Y1 := Y.noted hW1
  have hE1 : x_E X.D (T.setVm vm₁) (T.setVm vm₁).heap := (hC.E.kept (fun q hq => by show T.heap[q]? = _; rw [hT]; exact h3.2.1 q hq)).warm hW1
  obtain ⟨o, h', U', L, Y2, q1, q2, q3, q4, q5, q6, q7, q8⟩ := x_enter Y1 hM hC.tr (bytes := bytes) (maxL := maxL) (ret := ret) (g := { (F0 X.m pc A st) with stack := rest }) (ig := ig) (len := len) (mk := mk) rfl h1.1 (by rw [hC.b]; exact hd)
    (by show 2 * 0 + (rest.map fun v => v.category).sum ≤ 8; have := Nat.le_of_ble_eq_true hst; omega) (Y1.named hn) (xws_warm hC.ts) hcode hini (by have := hC.fr; omega) (by have := hC.lo; omega) (by omega) (by omega)
    ((by show x_R X.D (T.setVm vm₁) h T.heap; rw [hT]; exact h2.moved hW1.alike)) (hC.K.moved hW1.alike) hE1 (by show X.D.sz ≤ T.heap.size; rw [hT]; exact Nat.le_trans hC.z h3.1)
  have hTh : (T.setVm vm₁).heap = H := hT
  rw [hTh] at q5 q6
  have hR' : x_R X.D X.s h' U'.heap := q4.moved hW1.alike.symm
  have hS' : x_S X.D X.s.heap U'.heap (locs ++ L) := ⟨Nat.le_trans h3.1 q6, fun q hq => (q5 q hq).trans (h3.2.1 q hq), fun z hz => by
    rcases List.mem_append.mp hz with z1 | z1
    · exact h3.2.2 z z1
    · exact q1 z z1⟩
  have hgoon := g3 o h' q3
  cases o with
  | inl v =>
    have hs := q7 v rfl
    have hG : xG X (pc + len) ls (v.toList ++ rest) h' (rc - mc) (rs - ms) := by
      cases v with
      | none => exact hK _ _ _ _ _ _ hgoon
      | some v => exact hK _ _ _ _ _ _ hgoon
    obtain ⟨t, a1, b1⟩ := hG A U'.heap (locs ++ L) (k + mc) (n + ms) h1 hR' hS' (by omega) (by omega) U' rfl Y2
    exact ⟨t, hgo _ (fun acts => by rw [doInvoke_state]; exact hs.trans a1), b1⟩
  | inr q =>
    obtain ⟨ci, a⟩ := q
    have hs := q8 ci a rfl
    obtain ⟨w1, w2, w3, w4, w5⟩ := Y2.leaveThrown a (g := { (F0 X.m pc A st) with stack := rest }) rfl rfl rfl (fun x hx => by
      have z : X.c.exceptionTable = #[] := Array.isEmpty_iff.mp hnh
      rw [z] at hx
      cases hx) hC.lk
    refine ⟨_, hgo _ (fun acts => by rw [doInvoke_state]; exact hs.trans w1), .threw a, w2, w3, ⟨.inr (ci, a), h', rfl, q2, hgoon, hR', fun q hq => (q5 q hq).trans (h3.2.1 q hq), Nat.le_trans h3.1 q6⟩, locs ++ L, ⟨w4, w5.mono (by omega) (by omega)⟩, hS'.2.2⟩
abbrev xpn (y : MethodName) (na : Nat) : Prop := y.cls ≠ "java/lang/invoke/MethodHandle" ∧ y.cls ≠ "java/lang/invoke/VarHandle" ∧ (parseMethodDescriptor y.desc).map (fun d => d.parameters.length) = some na
theorem xpn.len {y : MethodName} {na : Nat} (h : xpn y na) {as : List Value} (ha : as.length = na) : ∀ sig, parseMethodDescriptor y.desc = some sig → as.length = sig.parameters.length := fun sig e => by
  have h2 := h.2.2
  rw [e] at h2
  rw [ha]
  exact (Option.some.inj h2).symm
theorem x_recv {D : xD} {s : State} {h : xH} {H : Heap} {b ci : Nat} {fs : List Value} {r0 : vw_C} (hK : x_K D s) (hR : x_R D s h H) (hci : ci < 100) (hc : xcl[ci]? = some r0) (e : h b = some (ci, fs)) : ∃ cell : Cell, H[b]? = some cell ∧ cell.vm.isStatics = false ∧ s.vm.findClass r0.1 = some cell.cls := by
  obtain ⟨g0, r', w1, w2, cellV, w3, w4, w5, w6⟩ := x_obj hci (hR _ _ e)
  exact ⟨cellV, w3, by rw [w5]; rfl, by rw [w4]; exact (hK.1 ci _ hc).2.1⟩
theorem ok_callV (hC : xCx X cc own nL d) (hnh : X.c.exceptionTable.isEmpty = true) {y : MethodName} {ci d' na i : Nat} {r0 : vw_C} (hd : decode cc pc = .ok (.invokevirtual i, 3)) (hdd : d' < d) (hmx : maxL ≤ 11) (hci : ci < 100) (hc : xcl[ci]? = some r0) (hp : xpn y na)
    (hcode : Cond.code y bytes maxL ret ∈ xws) (hini : Cond.initialized y.cls ∈ xws) (hl : Cond.methodLink own i y ∈ xws) (hin : Cond.instanceMethod y ∈ xws) (hse : Cond.selects r0.1 y y ∈ xws) : xOk X pc (o_callV X.l X.D X.P ci d' (na + 1) y (pc + 3)) := by
  intro K hK ls st h rc rs ho A H locs k n h1 h2 h3 h4 h5
  obtain ⟨av, rest, e1, e2, e3⟩ := xsp_of ho
  rw [List.append_nil] at e3
  split at e3
  · rename_i b as
    obtain ⟨fs, e4, e5⟩ := e3
    obtain ⟨cellB, r1, r2, r3⟩ := x_recv hC.K h2 hci hc e4
    refine x_call hC hnh (bytes := bytes) (ret := ret) hdd hmx ⟨[], Or.inl hcode⟩ hini hd hK e5 h1 h2 h3 h4 h5 (fun T hT Y => ?_)
    exact x_invV Y hC.x hC.ow (hC.ts _ hl) (hC.ts _ hin) (hC.ts _ hse) (hC.ts _ hcode) ⟨hp.1, hp.2.1⟩ (by rw [hT]; exact r1) r2 r3 rfl (hp.len (by simpa using e2)) (by show st = _; rw [e1]; simp) (by rw [hC.b]; exact hd)
  · exact e3.elim
theorem ok_callVN (hC : xCx X cc own nL d) (hnh : X.c.exceptionTable.isEmpty = true) {y : MethodName} {host : String} {ci d' na i : Nat} {r0 : vw_C} (hd : decode cc pc = .ok (.invokevirtual i, 3)) (hdd : d' < d) (hmx : maxL ≤ 11) (hci : ci < 100) (hc : xcl[ci]? = some r0) (hp : xpn y na)
    (hcode : Cond.code y bytes maxL ret ∈ xws) (hini : Cond.initialized y.cls ∈ xws) (hl : Cond.methodLinkNest own i y host ∈ xws) (hin : Cond.instanceMethod y ∈ xws) (hse : Cond.selects r0.1 y y ∈ xws) : xOk X pc (o_callV X.l X.D X.P ci d' (na + 1) y (pc + 3)) := by
  intro K hK ls st h rc rs ho A H locs k n h1 h2 h3 h4 h5
  obtain ⟨av, rest, e1, e2, e3⟩ := xsp_of ho
  rw [List.append_nil] at e3
  split at e3
  · rename_i b as
    obtain ⟨fs, e4, e5⟩ := e3
    obtain ⟨cellB, r1, r2, r3⟩ := x_recv hC.K h2 hci hc e4
    refine x_call hC hnh (bytes := bytes) (ret := ret) hdd hmx ⟨[], Or.inl hcode⟩ hini hd hK e5 h1 h2 h3 h4 h5 (fun T hT Y => ?_)
    exact x_invVN Y hC.x hC.ow (hC.ts _ hl) (hC.ts _ hin) (hC.ts _ hse) (hC.ts _ hcode) ⟨hp.1, hp.2.1⟩ (by rw [hT]; exact r1) r2 r3 rfl (hp.len (by simpa using e2)) (by show st = _; rw [e1]; simp) (by rw [hC.b]; exact hd)
  · exact e3.elim
theorem x_codeNamed {args : Array Value} {s : State} {y : MethodName} (hts : ∀ w ∈ xws, w.before args s = true) {hh : List (Nat × Nat × Nat × Nat)} (hcode : Cond.code y bytes maxL ret ∈ xws ∨ Cond.codeWith y bytes maxL ret hh ∈ xws) : ∃ (mk : MethodId) (methM : Method), s.methodNamed? y = some mk ∧ s.vm.method? mk = some methM ∧ parseMethodDescriptor y.desc = some methM.sig := by
  rcases hcode with z | z
  · obtain ⟨mk, hnamed⟩ := Cond.code_named (hts _ z)
    obtain ⟨methM, cM, hmethM, -, -, -, -, -, -, hsigM⟩ := Cond.code_spec hnamed (hts _ z)
    exact ⟨mk, methM, hnamed, hmethM, hsigM⟩
  · obtain ⟨mk, methM, cM, hnamed, hmethM, -, -, -, -, -, -, hsigM⟩ := Cond.codeWith_spec (hts _ z)
    exact ⟨mk, methM, hnamed, hmethM, hsigM⟩
theorem ok_callS (hC : xCx X cc own nL d) (hnh : X.c.exceptionTable.isEmpty = true) {y : MethodName} {hh : List (Nat × Nat × Nat × Nat)} {d' na i : Nat} (hd : decode cc pc = .ok (.invokestatic i, 3)) (hdd : d' < d) (hmx : maxL ≤ 11) (hp : xpn y na)
    (hcode : Cond.code y bytes maxL ret ∈ xws ∨ Cond.codeWith y bytes maxL ret hh ∈ xws) (hini : Cond.initialized y.cls ∈ xws) (hl : Cond.methodLink own i y ∈ xws) (hse : Cond.static y ∈ xws) : xOk X pc (o_callS X.l X.D X.P d' na y (pc + 3)) := by
  intro K hK ls st h rc rs ho A H locs k n h1 h2 h3 h4 h5
  obtain ⟨av, rest, e1, e2, e3⟩ := xsp_of ho
  rw [List.append_nil] at e3
  obtain ⟨mk, methM, r1, r2, r3⟩ := x_codeNamed hC.ts hcode
  refine x_call hC hnh (bytes := bytes) (ret := ret) hdd hmx ⟨hh, hcode⟩ hini hd hK e3 h1 h2 h3 h4 h5 (fun T hT Y => ?_)
  exact x_invS Y hC.x hC.ow (hC.ts _ hl) (hC.ts _ hse) (hC.ts _ hini) r1 r2 r3 ⟨hp.1, hp.2.1⟩ rfl (hp.len e2) e1 (by rw [hC.b]; exact hd)
theorem ok_callSN (hC : xCx X cc own nL d) (hnh : X.c.exceptionTable.isEmpty = true) {y : MethodName} {host : String} {hh : List (Nat × Nat × Nat × Nat)} {d' na i : Nat} (hd : decode cc pc = .ok (.invokestatic i, 3)) (hdd : d' < d) (hmx : maxL ≤ 11) (hp : xpn y na)
    (hcode : Cond.code y bytes maxL ret ∈ xws ∨ Cond.codeWith y bytes maxL ret hh ∈ xws) (hini : Cond.initialized y.cls ∈ xws) (hl : Cond.methodLinkNest own i y host ∈ xws) (hse : Cond.static y ∈ xws) : xOk X pc (o_callS X.l X.D X.P d' na y (pc + 3)) := by
  intro K hK ls st h rc rs ho A H locs k n h1 h2 h3 h4 h5
  obtain ⟨av, rest, e1, e2, e3⟩ := xsp_of ho
  rw [List.append_nil] at e3
  obtain ⟨mk, methM, r1, r2, r3⟩ := x_codeNamed hC.ts hcode
  refine x_call hC hnh (bytes := bytes) (ret := ret) hdd hmx ⟨hh, hcode⟩ hini hd hK e3 h1 h2 h3 h4 h5 (fun T hT Y => ?_)
  exact x_invSN Y hC.x hC.ow (hC.ts _ hl) (hC.ts _ hse) (hC.ts _ hini) r1 r2 r3 ⟨hp.1, hp.2.1⟩ rfl (hp.len e2) e1 (by rw [hC.b]; exact hd)
theorem ok_callI (hC : xCx X cc own nL d) (hnh : X.c.exceptionTable.isEmpty = true) {y : MethodName} {d' na i : Nat} (hd : decode cc pc = .ok (.invokespecial i, 3)) (hdd : d' < d) (hmx : maxL ≤ 11) (hp : xpn y na) (hy1 : y.name = "<init>")
    (hcode : Cond.code y bytes maxL none ∈ xws) (hini : Cond.initialized y.cls ∈ xws) (hl : Cond.methodLink own i y ∈ xws) (hin : Cond.instanceMethod y ∈ xws) : xOk X pc (o_callI X.l X.D X.P d' (na + 1) y (pc + 3)) := by
  intro K hK ls st h rc rs ho A H locs k n h1 h2 h3 h4 h5
  obtain ⟨av, rest, e1, e2, e3⟩ := xsp_of ho
  rw [List.append_nil] at e3
  split at e3
  · refine x_call hC hnh (bytes := bytes) (ret := none) hdd hmx ⟨[], Or.inl hcode⟩ hini hd hK e3 h1 h2 h3 h4 h5 (fun T hT Y => ?_)
    exact x_invI Y hC.x hC.ow hy1 (hC.ts _ hl) (hC.ts _ hin) (hC.ts _ hcode) ⟨hp.1, hp.2.1⟩ rfl (hp.len (by simpa using e2)) (by show st = _; rw [e1]; simp) (by rw [hC.b]; exact hd)
  · exact e3.elim
theorem ok_callIN (hC : xCx X cc own nL d) (hnh : X.c.exceptionTable.isEmpty = true) {y : MethodName} {host : String} {d' na i : Nat} (hd : decode cc pc = .ok (.invokespecial i, 3)) (hdd : d' < d) (hmx : maxL ≤ 11) (hp : xpn y na) (hy1 : y.name = "<init>")
    (hcode : Cond.code y bytes maxL none ∈ xws) (hini : Cond.initialized y.cls ∈ xws) (hl : Cond.methodLinkNest own i y host ∈ xws) (hin : Cond.instanceMethod y ∈ xws) : xOk X pc (o_callI X.l X.D X.P d' (na + 1) y (pc + 3)) := by
  intro K hK ls st h rc rs ho A H locs k n h1 h2 h3 h4 h5
  obtain ⟨av, rest, e1, e2, e3⟩ := xsp_of ho
  rw [List.append_nil] at e3
  split at e3
  · refine x_call hC hnh (bytes := bytes) (ret := none) hdd hmx ⟨[], Or.inl hcode⟩ hini hd hK e3 h1 h2 h3 h4 h5 (fun T hT Y => ?_)
    exact x_invIN Y hC.x hC.ow hy1 (hC.ts _ hl) (hC.ts _ hin) (hC.ts _ hcode) ⟨hp.1, hp.2.1⟩ rfl (hp.len (by simpa using e2)) (by show st = _; rw [e1]; simp) (by rw [hC.b]; exact hd)
  · exact e3.elim
/-- Object's constructor -/
def o_obj (n : Nat) : xOp := fun K ls st h rc rs => match st with
  | .ref _ :: r => xif (Nat.ble (r.map fun v => v.category).sum 8) (K n ls r h rc rs)
  | _ => False
theorem ok_obj (hC : xCx X cc own nL d) {i : Nat} (h0 : 1 ≤ d) (hd : decode cc pc = .ok (.invokespecial i, 3)) (hl : Cond.methodLink own i objectInit ∈ xws) (hin : Cond.instanceMethod objectInit ∈ xws) (hcode : Cond.code objectInit ⟨#[0xb1]⟩ 1 none ∈ xws) : xOk X pc (o_obj (pc + 3)) := by
  intro K hK ls st h rc rs ho A H locs k n h1 h2 h3 h4 h5
  unfold o_obj at ho
  split at ho
  · obtain ⟨e1, ho⟩ := xif_iff ho
    exact W.objInit hC.x hC.b hC.ow (hC.ts _ hl) (hC.ts _ hin) (hC.ts _ hcode) rfl h1.1 rfl hd (by have := hC.fr; omega) (by have := hC.lo; have := Nat.le_of_ble_eq_true e1; show 2 * 0 + _ + 12 ≤ _; omega) (hK _ _ _ _ _ _ ho A H locs k n h1 h2 h3 h4 h5)
  · exact ho.elim
end XCALL
/-- A CONTRACT OUT OF A WALK -/
theorem xMet.of {l : Launch} {D : xD} {d : Nat} {y : MethodName} {av : List Value} {h : xH} {mc ms : Nat} {P : xO → xH → Prop} {cc : ByteArray} {maxL : Nat} {ret : Option FieldType} (hy : plainName y.cls = true) (hcode : Cond.code y cc maxL ret ∈ xws) (hav : (lg_sl av).length ≤ maxL)
    (body : ∀ X : xX, X.l = l → X.D = D → X.P = P → X.R.cells = mc → X.R.slots = ms → xCx X cc y.cls maxL d → X.meth.sig.returnType = ret → X.c.exceptionTable.isEmpty = true → X.meth.name = y.name → xG X 0 (lv_args 0 av) [] h mc ms) : xMet l D d y av h mc ms P := by
  refine MetFree.of_bodyS (code := cc) (maxLocals := maxL) (ret := ret) hy ?_ ?_
  · intro args s m hpre hn
    obtain ⟨meth, c, h1, h2, h3, h4, h5, h6, -, -⟩ := Cond.code_spec hn (atoms_spec (ws := xws) hpre _ hcode)
    exact ⟨meth, c, h1, h2, h3, h4, h5, h6⟩
  · intro p e s m args below meth c s₁ B hml hP htr
    obtain ⟨rfl, hR, hK, hE, hz⟩ := hP
    have hh0 : s₁.heap = s.heap := by rw [B.state]; rfl
    have hts : ∀ w ∈ xws, w.before av.toArray s = true := atoms_spec (ws := xws) B.pre
    have hnh : c.exceptionTable.isEmpty = true := by
      obtain ⟨meth', c', h1, h2, h3, h4, h5, h6, h7, -⟩ := Cond.code_spec B.named (hts _ hcode)
      have e1 : meth' = meth := Option.some.inj (h1.symm.trans B.method)
      rw [e1] at h2
      have e2 : c' = c := Option.some.inj (h2.symm.trans (Stand.of_body B).code)
      rw [← e2]
      exact h7
    have hG := body (p, l, e, (headSpec xws (xrm d mc ms)).room, s, m, av.toArray, below, meth, c, D, P) rfl rfl rfl rfl rfl
      ⟨B.exec, B.bytes, hml, findClass_of_methodNamed B.named, hts, B.notSynchronized, hK, hE, hz, htr, Nat.le_refl _, Nat.le_refl _⟩ B.returns hnh (name_of_methodNamed B.named B.method).1
    have hl := lv_entry av (n := maxL) hav
    have hw := hG _ s.heap [] 0 0 (by rw [hml]; exact hl) hR ⟨Nat.le_refl _, fun _ _ => rfl, fun _ z => by cases z⟩ (by show 0 + mc ≤ mc; omega) (by show 0 + ms ≤ ms; omega)
    rw [← lg_entry_eq] at hw
    obtain ⟨t, a1, o, b1, b2, b3, b4⟩ := hw s₁ hh0 (Stand.of_body B)
    exact ⟨t, o, a1, b1, b2, b3, b4⟩
