/-! THE ABSTRACT MACHINE, 8: further operations -/
section XMORE
variable {X : xX} {cc : ByteArray} {own : String} {nL d pc : Nat}
def o_i2c (n : Nat) : xOp := fun K ls st h rc rs => match st with
  | .int x :: r => K n ls (.int (x.toUInt32 % 65536).toInt32 :: r) h rc rs
  | _ => False
theorem ok_i2c (hC : xCx X cc own nL d) (hd : decode cc pc = .ok (.i2c, 1)) : xOk X pc (o_i2c (pc + 1)) := by
  intro K hK ls st h rc rs ho A H locs k n h1 h2 h3 h4 h5
  unfold o_i2c at ho
  split at ho
  · exact lv_i2c hC.x hC.b hd rfl (hK _ _ _ _ _ _ ho A H locs k n h1 h2 h3 h4 h5)
  · exact ho.elim
/-- a boolean is stored -/
def o_zast (t n : Nat) : xOp := fun K ls st h rc rs => match st with
  | .int x :: .int i :: .ref a :: r => ∃ (vs : List Value) (j : Nat), h a = some (100 + t, vs) ∧ i = nI j ∧ j < vs.length ∧ (x = 0 ∨ x = 1) ∧ K n ls r (xset h a (100 + t, vs.set j (.int x))) rc rs
  | _ => False
theorem ok_zast (hC : xCx X cc own nL d) {t : Nat} (hd : decode cc pc = .ok (.bastore, 1)) (ht : t < 100) (hty : xel t = .boolean) : xOk X pc (o_zast t (pc + 1)) := by
  intro K hK ls st h rc rs ho A H locs kk n h1 h2 h3 h4 h5
  unfold o_zast at ho
  split at ho
  · rename_i x i a r
    obtain ⟨vs, j, e1, e2, e3, ex, e4⟩ := ho
    obtain ⟨cell, g1, g2, g3, g4, g5⟩ := x_anyarr hC.K h2 ht (Or.inl e1)
    have en : narrow .boolean (.int x) = .int x := by rcases ex with rfl | rfl <;> rfl
    refine W.zast hC.x hC.b g1 (by rw [← hty]; exact g2) g3 (x_ain g4 e2 e3 g5) rfl rfl hd fun H' z1 z2 z3 => ?_
    have ej : (nI j).toNatClampNeg = j := nI_clamp (by omega)
    rw [e2, ej] at z1 ⊢
    rw [en] at z1
    obtain ⟨y1, y2⟩ := x_stBack (v := .int x) ht h2 h3 e1 e3 (fun c hc => by cases g1.symm.trans hc; exact z1) z2 z3
    exact hK _ _ _ _ _ _ e4 A H' _ kk n h1 y1 y2 h4 h5
  · exact ho.elim
theorem ok_getsN (hC : xCx X cc own nL d) {i j : Nat} {q : String × String × String} {host : String} (hd : decode cc pc = .ok (.getstatic j, 3)) (hq : xst[i]? = some q) (hw : Cond.fieldLinkNest own j q.1 q.2.1 q.2.2 host ∈ xws) : xOk X pc (o_gets X.D i (pc + 3)) := by
  intro K hK ls st h rc rs ho A H locs kk n h1 h2 h3 h4 h5
  exact va_getsN (A := fun q => X.D.sz ≤ q) hC.x hC.b (hC.E.1 i q hq) ⟨h3.1, fun a _ z => h3.2.1 a (Nat.not_le.mp z), h3.2.2⟩ hC.ow (hC.ts _ hw) (fun _ z => z) hd (hK _ _ _ _ _ _ ho A H locs kk n h1 h2 h3 h4 h5)
/-- a field that is declared further up -/
theorem ok_getU (hC : xCx X cc own nL d) {ci k i : Nat} {ref ow nm ds : String} {r0 : vw_C} (hd : decode cc pc = .ok (.getfield i, 3)) (hci : ci < 100) (hc : xcl[ci]? = some r0) (hk : k < r0.2.2) (hf : r0.2.1 k = (ow, nm, ds, (r0.2.1 k).2.2.2)) (hw : Cond.fieldLink own i ref nm ds ∈ xws) (hs : Cond.sameField ref ow nm ds ∈ xws) : xOk X pc (o_get ci k (pc + 3)) := by
  intro K hK ls st h rc rs ho A H locs kk n h1 h2 h3 h4 h5
  unfold o_get at ho
  split at ho
  · obtain ⟨fs, v, e1, e2, e3⟩ := ho
    obtain ⟨cf, kf, fi, f, cell, g1, g2, g3, g4, g5⟩ := x_getAux hC hci hc hk h2 e1 e2
    rw [hf] at g1
    exact W.getf hC.x hC.b hC.ow (hC.ts _ hw) (u_same (hC.ts _ hs) _ g1) g2 g3 g4 g5 rfl rfl hd (hK _ _ _ _ _ _ e3 A H locs kk n h1 h2 h3 h4 h5)
  · exact ho.elim
theorem ok_putU (hC : xCx X cc own nL d) {ci k i : Nat} {ty : FieldType} {ref ow nm ds : String} {r0 : vw_C} (hd : decode cc pc = .ok (.putfield i, 3)) (hci : ci < 100) (hc : xcl[ci]? = some r0) (hk : k < r0.2.2) (hf : r0.2.1 k = (ow, nm, ds, false)) (hp : parseFieldDescriptor ds = some ty) (hw : Cond.fieldLink own i ref nm ds ∈ xws) (hs : Cond.sameField ref ow nm ds ∈ xws) : xOk X pc (o_put ci k ty (pc + 3)) := by
  intro K hK ls st h rc rs ho A H locs kk n h1 h2 h3 h4 h5
  unfold o_put at ho
  split at ho
  · rename_i v a r
    obtain ⟨fs, e1, e2⟩ := ho
    obtain ⟨f1, f2, e2⟩ := xfit_iff e2
    rw [xfo_iff] at e2
    obtain ⟨h0, r', g1, g2, cell, q1, q2, q3, q4⟩ := x_obj hci (h2 _ _ e1)
    have hr : r' = r0 := Option.some.inj (g1.symm.trans hc)
    subst hr
    obtain ⟨hS, hfc, kC, hkC, hkind⟩ := hC.K.1 ci _ hc
    obtain ⟨cf, kf, fi, f, hi, hsl⟩ := hS k hk
    have hlay := hC.ts _ (xcl_in hc _ (u_in_lay hk))
    unfold u_lay at hlay
    rw [hf] at hlay hi
    rw [if_neg (by simp)] at hlay
    have hst := (u_facts hfc hkC (Or.inl hlay) hi).1
    have h6 := u_store hfc hkC hkind hlay hi hp f1 f2
    refine W.putK hC.x hC.b (f := f) ⟨hC.ow, hC.ts _ hw, ⟨cf, kf, fi, u_same (hC.ts _ hs) _ hi⟩, hst⟩ (by rw [q2]; exact h6) q1 q3 (by rw [hsl]; exact k2_hasslot (q4 k hk)) rfl rfl hd fun H' z1 z2 z3 => ?_
    rw [hsl] at z1 ⊢
    obtain ⟨y1, y2⟩ := x_putBack hC hci hc hk h2 h3 e1 h0 g2 q2 q3 q4 z1 z2 z3
    exact hK _ _ _ _ _ _ e2 A H' _ kk n h1 y1 y2 h4 h5
  · exact ho.elim
/-- a cast of an array to its own class -/
def o_castA (t n : Nat) : xOp := fun K ls st h rc rs => match st with
  | .ref a :: r => ∃ vs : List Value, h a = some (100 + t, vs) ∧ K n ls (.ref a :: r) h rc rs
  | _ => False
theorem ok_castA (hC : xCx X cc own nL d) {i t : Nat} {C : String} {ty : FieldType} (hd : decode cc pc = .ok (.checkcast i, 3)) (ht : t < 100) (hty : xela[t]? = some ty) (hn : "[" ++ ty.toString = C) (hw : Cond.classLink own i C ∈ xws) : xOk X pc (o_castA t (pc + 3)) := by
  intro K hK ls st h rc rs ho A H locs kk n h1 h2 h3 h4 h5
  unfold o_castA at ho
  split at ho
  · rename_i a r
    obtain ⟨vs, e1, e2⟩ := ho
    obtain ⟨q0, q1, q2, q3⟩ := x_arr ht (h2 _ _ e1)
    have hnm : X.s.vm.findClass C = some (X.D.cid (100 + t)) := by
      have k1 := (hC.K.2 t _ hty).2
      rw [← hn]
      cases ty with
      | object C' => obtain ⟨-, -, -, -, -, k4⟩ := k1; exact k4
      | _ => exact k1
    intro T hT Y
    obtain ⟨vm', Y', st⟩ := Y.checkcastYes hC.x hC.ow (hC.ts _ hw) (by rw [hT]; exact q3) rfl hnm (va_asg _ _) (g := F0 X.m pc A (.ref a :: r)) rfl rfl (by rw [hC.b]; exact hd)
    obtain ⟨t', a1, b1⟩ := hK _ _ _ _ _ _ e2 A H locs kk n h1 h2 h3 h4 h5 (T.setVm vm') hT Y'
    exact ⟨t', st t' a1, b1⟩
  · exact ho.elim
/-- the Class object of an array of Objects -/
def o_getC (D : xD) (n : Nat) : xOp := fun K ls st h rc rs => match st with
  | .ref a :: r => ∃ vs : List Value, h a = some (104, vs) ∧ xif (Nat.ble (r.map fun v => v.category).sum 8) (K n ls (D.sv 2000 :: r) h rc rs)
  | _ => False
theorem ok_getC (hC : xCx X cc own nL d) {i : Nat} (h0 : 1 ≤ d) (hd : decode cc pc = .ok (.invokevirtual i, 3)) (hl : Cond.methodLink own i ⟨"java/lang/Object", "getClass", "()Ljava/lang/Class;"⟩ ∈ xws) (hde : Cond.declares ⟨"java/lang/Object", "getClass", "()Ljava/lang/Class;"⟩ ∈ xws) (hse : Cond.selects "[Ljava/lang/Object;" ⟨"java/lang/Object", "getClass", "()Ljava/lang/Class;"⟩ ⟨"java/lang/Object", "getClass", "()Ljava/lang/Class;"⟩ ∈ xws) (hin : Cond.instanceMethod ⟨"java/lang/Object", "getClass", "()Ljava/lang/Class;"⟩ ∈ xws) (hna : Cond.native ⟨"java/lang/Object", "getClass", "()Ljava/lang/Class;"⟩ ∈ xws) : xOk X pc (o_getC X.D (pc + 3)) := by
  intro K hK ls st h rc rs ho A H locs kk n h1 h2 h3 h4 h5
  unfold o_getC at ho
  split at ho
  · rename_i a r
    obtain ⟨vs, e1, e2⟩ := ho
    obtain ⟨e3, e2⟩ := xif_iff e2
    obtain ⟨q0, q1, q2, q3⟩ := x_arr (t := 4) (by decide) (h2 _ _ e1)
    obtain ⟨mi, m1, m2, -⟩ := hC.E.2.2.2.2
    rw [m1] at e2
    have hnm : X.s.vm.findClass "[Ljava/lang/Object;" = some (X.D.cid 104) := by
      obtain ⟨-, -, -, -, -, k4⟩ := (hC.K.2 4 (.object "java/lang/Object") rfl).2
      exact k4
    refine va_getC hC.x hC.b (by rw [h1.1]) hC.ow (hC.ts _ hl) (hC.ts _ hde) (hC.ts _ hse) (hC.ts _ hin) (hC.ts _ hna) m2 ⟨_, q3, rfl, hnm⟩ (by have := hC.fr; omega) (by have := hC.lo; have := Nat.le_of_ble_eq_true e3; omega) hd (hK _ _ _ _ _ _ e2 A H locs kk n h1 h2 h3 h4 h5)
  · exact ho.elim
def o_ldcM (D : xD) (n : Nat) : xOp := fun K ls st h rc rs => K n ls (D.sv 2000 :: st) h rc rs
theorem ok_ldcM (hC : xCx X cc own nL d) {i : Nat} (hd : decode cc pc = .ok (.ldc i, 2)) (hw : Cond.classLink own i "[Ljava/lang/Object;" ∈ xws) : xOk X pc (o_ldcM X.D (pc + 2)) := by
  intro K hK ls st h rc rs ho A H locs kk n h1 h2 h3 h4 h5
  obtain ⟨mi, m1, m2, -⟩ := hC.E.2.2.2.2
  unfold o_ldcM at ho
  rw [m1] at ho
  exact va_ldcM hC.x hC.b hC.ow (hC.ts _ hw) m2 hd (hK _ _ _ _ _ _ ho A H locs kk n h1 h2 h3 h4 h5)
/-- String constants: their two fields -/
theorem x_str {D : xD} {U : State} {H : Heap} {a : Nat} {vs : List Value} (h : x_at D U H a (300, vs)) : a < D.sz ∧ xO_RO D U H a vs := by
  unfold x_at at h
  rw [if_neg (by show ¬ 300 < 100; omega), if_neg (by show ¬ 300 < 200; omega), if_neg (by show ¬ 300 < 300; omega)] at h
  exact ⟨h.1, h.2.2⟩
def o_sval (n : Nat) : xOp := fun K ls st h rc rs => match st with
  | .ref a :: r => ∃ v : Nat, h a = some (300, [.ref v]) ∧ K n ls (.ref v :: r) h rc rs
  | _ => False
theorem ok_sval (hC : xCx X cc own nL d) {i : Nat} (hd : decode cc pc = .ok (.getfield i, 3)) (hw : Cond.fieldLink own i "java/lang/String" "value" "[B" ∈ xws) : xOk X pc (o_sval (pc + 3)) := by
  intro K hK ls st h rc rs ho A H locs kk n h1 h2 h3 h4 h5
  unfold o_sval at ho
  split at ho
  · obtain ⟨v, e1, e2⟩ := ho
    obtain ⟨-, v', e3, -, ⟨cf, k, fi, f, cell, g1, g2, g3, g4, g5, -⟩, -⟩ := x_str (h2 _ _ e1)
    cases e3
    exact W.getf hC.x hC.b hC.ow (hC.ts _ hw) g1 g2 g3 g4 g5 rfl rfl hd (hK _ _ _ _ _ _ e2 A H locs kk n h1 h2 h3 h4 h5)
  · exact ho.elim
def o_scod (n : Nat) : xOp := fun K ls st h rc rs => match st with
  | .ref a :: r => ∃ vs : List Value, h a = some (300, vs) ∧ K n ls (.int 0 :: r) h rc rs
  | _ => False
theorem ok_scod (hC : xCx X cc own nL d) {i : Nat} (hd : decode cc pc = .ok (.getfield i, 3)) (hw : Cond.fieldLink own i "java/lang/String" "coder" "B" ∈ xws) : xOk X pc (o_scod (pc + 3)) := by
  intro K hK ls st h rc rs ho A H locs kk n h1 h2 h3 h4 h5
  unfold o_scod at ho
  split at ho
  · obtain ⟨vs, e1, e2⟩ := ho
    obtain ⟨-, v', e3, -, -, ⟨cf, k, fi, f, cell, g1, g2, g3, g4, g5, -⟩⟩ := x_str (h2 _ _ e1)
    exact W.getf hC.x hC.b hC.ow (hC.ts _ hw) g1 g2 g3 g4 g5 rfl rfl hd (hK _ _ _ _ _ _ e2 A H locs kk n h1 h2 h3 h4 h5)
  · exact ho.elim
theorem ok_callStr {bytes : ByteArray} {maxL : Nat} {ret : Option FieldType} (hC : xCx X cc own nL d) (hnh : X.c.exceptionTable.isEmpty = true) {y : MethodName} {d' na i : Nat} (hd : decode cc pc = .ok (.invokevirtual i, 3)) (hdd : d' < d) (hmx : maxL ≤ 11) (hp : xpn y na)
    (hcode : Cond.code y bytes maxL ret ∈ xws) (hini : Cond.initialized y.cls ∈ xws) (hl : Cond.methodLink own i y ∈ xws) (hin : Cond.instanceMethod y ∈ xws) (hse : Cond.selects "java/lang/String" y y ∈ xws) : xOk X pc (o_callV X.l X.D X.P 300 d' (na + 1) y (pc + 3)) := by
  intro K hK ls st h rc rs ho A H locs k n h1 h2 h3 h4 h5
  obtain ⟨av, rest, e1, e2, e3⟩ := xsp_of ho
  rw [List.append_nil] at e3
  split at e3
  · rename_i b as
    obtain ⟨fs, e4, e5⟩ := e3
    obtain ⟨-, v', -, ⟨cellB, r1, r2, r3, -⟩, -⟩ := x_str (h2 _ _ e4)
    refine x_call hC hnh (bytes := bytes) (ret := ret) hdd hmx ⟨[], Or.inl hcode⟩ hini hd hK e5 h1 h2 h3 h4 h5 (fun T hT Y => ?_)
    exact x_invV Y hC.x hC.ow (hC.ts _ hl) (hC.ts _ hin) (hC.ts _ hse) (hC.ts _ hcode) ⟨hp.1, hp.2.1⟩ (by rw [hT]; exact r1) r2 r3 rfl (hp.len (by simpa using e2)) (by show st = _; rw [e1]; simp) (by rw [hC.b]; exact hd)
  · exact e3.elim
end XMORE
/-! THE ABSTRACT MACHINE, 9: System.arraycopy, clone of a byte array -/
def xcpy (vs ws : List Value) (i j k : Nat) : List Value := (List.range ws.length).map (fun q => if j ≤ q ∧ q < j + k then vs.getD (i + (q - j)) .null else ws.getD q .null)
theorem x_arrV (c : ClassId) (ws : List Value) : ({ cls := c, slots := ws.toArray, vm := .none } : Cell) = arrV c ws.length (fun j => ws.getD j .null) := by
  have h : ws.toArray = Array.ofFn (n := ws.length) fun j => ws.getD j.val .null := by
    apply Array.ext
    · simp
    · intro i h1 h2
      have h3 : i < ws.length := by simpa using h1
      simp [List.getD, h3]
  unfold arrV
  rw [h]
theorem x_arrV2 (c : ClassId) (n : Nat) (f : Nat → Value) : arrV c n f = ({ cls := c, slots := ((List.range n).map f).toArray, vm := .none } : Cell) := by
  have h : (Array.ofFn (n := n) fun j => f j.val) = ((List.range n).map f).toArray := by
    apply Array.ext
    · simp
    · intro i h1 h2
      simp
  unfold arrV
  rw [h]
theorem x_nn {j : Nat} (h : j < 2 ^ 31) : (nI j).toInt = (j : Int) := nI_toInt h
section XCPY
variable {X : xX} {cc : ByteArray} {own : String} {nL d pc : Nat}
theorem x_cpyAux (hC : xCx X cc own nL d) (h0 : 1 ≤ d) {i9 t : Nat} {ty : FieldType} (hd : decode cc pc = .ok (.invokestatic i9, 3)) (ht : t < 100) (hty : xela[t]? = some ty) (hl : Cond.methodLink own i9 arraycopyName ∈ xws) (hna : Cond.native arraycopyName ∈ xws) (hst : Cond.static arraycopyName ∈ xws) (hin : Cond.initialized "java/lang/System" ∈ xws)
    {h : xH} {a a0 i j k : Nat} {vs ws r : List Value} (e0 : h a0 = some (100 + t, vs) ∨ h a0 = some (200 + t, vs)) (e1 : h a = some (100 + t, ws)) (hi : i + k ≤ vs.length) (hj : j + k ≤ ws.length) (hr : (r.map fun v => v.category).sum ≤ 8)
    {A : Array Slot} {H : Heap} {locs : List Loc} {kk n : Nat} {ls : xL} (h1 : lv_has A X.c.maxLocals ls) (h2 : x_R X.D X.s h H) (h3 : x_S X.D X.s.heap H locs)
    (hel : ∀ (T : State) (vm₁ : Vm), T.heap = H → X.s.vm.Alike vm₁ → ∀ q, q < k → fits ty (vs.getD (i + q) .null) = true ∧ ∀ (kA : Class) (comp : ClassId), X.s.vm.classes[X.D.cid (100 + t)]? = some kA → kA.kind = .array comp ty → (T.setVm vm₁).takes comp (vs.getD (i + q) .null))
    (kk' : ∀ (H' : Heap) (locs' : List Loc), x_R X.D X.s (xset h a (100 + t, xcpy vs ws i j k)) H' → x_S X.D X.s.heap H' locs' → xW X H' locs' kk n (F0 X.m (pc + 3) A r)) : xW X H locs kk n (F0 X.m pc A (.int (nI k) :: .int (nI j) :: .ref a :: .int (nI i) :: .ref a0 :: r)) := by
  have hel' : xel t = ty := by simp [xel, List.getD, hty]
  obtain ⟨cs, g1, g2, g3, g4, g5⟩ := x_anyarr hC.K h2 ht e0
  obtain ⟨q0, q1, q2, q3⟩ := x_arr ht (h2 _ _ e1)
  rw [hel'] at g2
  obtain ⟨gs, k0, hk0, cm0, hkk0⟩ := g2
  obtain ⟨-, k1, hk1, cm1, hkk1⟩ := (hC.K.2 t _ hty).1 0 (fun _ => .null)
  have ci : (nI i).toNatClampNeg = i := nI_clamp (by omega)
  have cj : (nI j).toNatClampNeg = j := nI_clamp (by omega)
  have ck : (nI k).toNatClampNeg = k := nI_clamp (by omega)
  intro T hT Y
  have hgd : ∀ q, q < k → cs.slots.getD ((nI i).toNatClampNeg + q) .null = vs.getD (i + q) .null := fun q hq => by
    rw [ci, g4, Array.getD_eq_getD_getElem?, List.getElem?_toArray, List.getD_eq_getElem?_getD]
  obtain ⟨vm', Y', step⟩ := Y.arraycopy hC.x hC.ow (hC.ts _ hl) (hC.ts _ hna) (hC.ts _ hst) (hC.ts _ hin) (src := a0) (dst := a) (cs := cs) (cd := { cls := X.D.cid (100 + t), slots := ws.toArray, vm := .none }) (srcPos := nI i) (destPos := nI j) (n := nI k) (by rw [hT]; exact g1) (by rw [hT]; exact q3)
    gs (fun _ z => by cases z) g3 (fun z => by cases z) hk0 hk1 hkk0 hkk1 (by simp) (nI_pos (by omega)) (nI_pos (by omega)) (nI_pos (by omega))
    (by rw [x_nn (by omega), x_nn (by omega), g4, List.size_toArray]; omega)
    (by rw [x_nn (by omega), x_nn (by omega)]; show ¬ _ > (((ws.toArray).size : Nat) : Int); rw [List.size_toArray]; omega)
    (fun vm₁ hal q hq => by
      rw [ck] at hq
      rw [hgd q hq]
      obtain ⟨z1, z2⟩ := hel T vm₁ hT hal q hq
      exact ⟨z1, z2 k1 cm1 hk1 hkk1⟩)
    (g := F0 X.m pc A (.int (nI k) :: .int (nI j) :: .ref a :: .int (nI i) :: .ref a0 :: r)) rfl h1.1 (rest := r) rfl (by rw [hC.b]; exact hd) (by have := hC.fr; omega) (by show 2 * 0 + _ + _ ≤ _; have := hC.lo; have hw : nativeFrameWords "java/lang/System" "arraycopy" 5 ≤ 60 := (by decide); omega)
  have ee : copied cs { cls := X.D.cid (100 + t), slots := ws.toArray, vm := .none } (nI i) (nI j) (nI k) = { cls := X.D.cid (100 + t), slots := (xcpy vs ws i j k).toArray, vm := .none } := by
    show Cell.storeRun _ _ (cs.stretch _ _) = _
    rw [ci, cj, ck, x_arrV]
    have := va_copiedX (fun z : Value => z) cs (X.D.cid (100 + t)) (n0 := vs.length) (n1 := ws.length) (sp := i) (dp := j) (n := k) (fun q => vs.getD q .null) (fun q => ws.getD q .null) (fun q hq => by rw [g4, List.getElem?_toArray]; simp [List.getD, hq]) hi
    rw [this, x_arrV2]
    rfl
  rw [ee] at Y' step
  have hlt : a < H.size := (Array.getElem?_eq_some_iff.mp q3).1
  have oq : ∀ q : Nat, q ≠ a → (H.setIfInBounds a ({ cls := X.D.cid (100 + t), slots := (xcpy vs ws i j k).toArray, vm := .none } : Cell))[q]? = H[q]? := fun q hq => by simp [Array.getElem?_setIfInBounds, Ne.symm hq]
  have hlen : (xcpy vs ws i j k).length = ws.length := by simp [xcpy]
  obtain ⟨t', a1, b1⟩ := kk' (H.setIfInBounds a { cls := X.D.cid (100 + t), slots := (xcpy vs ws i j k).toArray, vm := .none }) _ (h2.set (x_arr_mk ht q0 (by rw [hlen]; exact q1) q2 (by simp [Array.getElem?_setIfInBounds, hlt])) oq)
    ⟨by simp; exact h3.1, fun q hq => (oq q (by omega)).trans (h3.2.1 q hq), fun z hz => by
      rcases List.mem_append.mp hz with y | y
      · exact h3.2.2 z y
      · obtain ⟨x, -, hx⟩ := List.mem_map.mp y
        rw [← hx]
        exact q0⟩ _ (by rw [← hT]; rfl) Y'
  exact ⟨t', step t' a1, b1⟩
/-- bytes are copied -/
def o_cpyB (n : Nat) : xOp := fun K ls st h rc rs => match st with
  | .int c :: .int dp :: .ref a :: .int sp :: .ref a0 :: r => ∃ (vs ws : List Value) (i j k : Nat), (h a0 = some (101, vs) ∨ h a0 = some (201, vs)) ∧ h a = some (101, ws) ∧ c = nI k ∧ sp = nI i ∧ dp = nI j ∧ i + k ≤ vs.length ∧ j + k ≤ ws.length ∧ (∀ v ∈ vs, ∃ x : Int32, v = .int x ∧ fits .byte (.int x) = true) ∧ xif (Nat.ble (r.map fun v => v.category).sum 8) (K n ls r (xset h a (101, xcpy vs ws i j k)) rc rs)
  | _ => False
theorem ok_cpyB (hC : xCx X cc own nL d) (h0 : 1 ≤ d) {i9 : Nat} (hd : decode cc pc = .ok (.invokestatic i9, 3)) (hl : Cond.methodLink own i9 arraycopyName ∈ xws) (hna : Cond.native arraycopyName ∈ xws) (hst : Cond.static arraycopyName ∈ xws) (hin : Cond.initialized "java/lang/System" ∈ xws) : xOk X pc (o_cpyB (pc + 3)) := by
  intro K hK ls st h rc rs ho A H locs kk n h1 h2 h3 h4 h5
  unfold o_cpyB at ho
  split at ho
  · obtain ⟨vs, ws, i, j, k, e0, e1, rfl, rfl, rfl, hi, hj, hb, hx⟩ := ho
    obtain ⟨hx, ho⟩ := xif_iff hx
    refine x_cpyAux (t := 1) (ty := .byte) hC h0 hd (by decide) rfl hl hna hst hin e0 e1 hi hj (Nat.le_of_ble_eq_true hx) h1 h2 h3 (fun T vm₁ _ _ q hq => ?_) (fun H' locs' y1 y2 => hK _ _ _ _ _ _ ho A H' locs' kk n h1 y1 y2 h4 h5)
    have hlt : i + q < vs.length := by omega
    obtain ⟨x, z1, z2⟩ := hb (vs.getD (i + q) .null) (by simp [List.getD, hlt])
    rw [z1]
    exact ⟨z2, fun _ _ _ _ => trivial⟩
  · exact ho.elim
/-- references are copied, between two arrays of Objects -/
def o_cpyQ (n : Nat) : xOp := fun K ls st h rc rs => match st with
  | .int c :: .int dp :: .ref a :: .int sp :: .ref a0 :: r => ∃ (vs ws : List Value) (i j k : Nat), (h a0 = some (104, vs) ∨ h a0 = some (204, vs)) ∧ h a = some (104, ws) ∧ c = nI k ∧ sp = nI i ∧ dp = nI j ∧ i + k ≤ vs.length ∧ j + k ≤ ws.length ∧ (∀ v ∈ vs, v = .null ∨ ∃ (b ci : Nat) (fs : List Value), v = .ref b ∧ h b = some (ci, fs) ∧ xok4 ci = true) ∧ xif (Nat.ble (r.map fun v => v.category).sum 8) (K n ls r (xset h a (104, xcpy vs ws i j k)) rc rs)
  | _ => False
theorem ok_cpyQ (hC : xCx X cc own nL d) (h0 : 1 ≤ d) {i9 : Nat} (hd : decode cc pc = .ok (.invokestatic i9, 3)) (hl : Cond.methodLink own i9 arraycopyName ∈ xws) (hna : Cond.native arraycopyName ∈ xws) (hst : Cond.static arraycopyName ∈ xws) (hin : Cond.initialized "java/lang/System" ∈ xws) : xOk X pc (o_cpyQ (pc + 3)) := by
  intro K hK ls st h rc rs ho A H locs kk n h1 h2 h3 h4 h5
  unfold o_cpyQ at ho
  split at ho
  · obtain ⟨vs, ws, i, j, k, e0, e1, rfl, rfl, rfl, hi, hj, hb, hx⟩ := ho
    obtain ⟨hx, ho⟩ := xif_iff hx
    refine x_cpyAux (t := 4) (ty := .object "java/lang/Object") hC h0 hd (by decide) rfl hl hna hst hin e0 e1 hi hj (Nat.le_of_ble_eq_true hx) h1 h2 h3 (fun T vm₁ hT hal q hq => ?_) (fun H' locs' y1 y2 => hK _ _ _ _ _ _ ho A H' locs' kk n h1 y1 y2 h4 h5)
    have hlt : i + q < vs.length := by omega
    rcases hb (vs.getD (i + q) .null) (by simp [List.getD, hlt]) with z | ⟨b, ci, fs, z1, z2, z3⟩
    · rw [z]; exact ⟨rfl, fun _ _ _ _ => trivial⟩
    · rw [z1]
      refine ⟨rfl, fun kA comp hkA hkind => ?_⟩
      obtain ⟨hci, r0, hc, hcast⟩ := xok4_ok ci z3
      obtain ⟨g0, r', w1, w2, cellV, w3, w4, w5, w6⟩ := x_obj hci (h2 _ _ z2)
      have hr : r' = r0 := Option.some.inj (w1.symm.trans hc)
      subst hr
      have hcls := (hC.K.1 ci _ hc).2
      obtain ⟨kC, hkC, -⟩ := hcls.2
      obtain ⟨kA', comp', k1, k2, k3, -⟩ := (hC.K.2 4 (.object "java/lang/Object") rfl).2
      cases Option.some.inj (hkA.symm.trans k1)
      have hcc : comp = comp' := by rw [k2] at hkind; cases hkind; rfl
      subst hcc
      obtain ⟨kE, hkE⟩ := Vm.classAt_of_findClass k3
      have hasg : X.s.vm.assignable (X.D.cid ci) comp = true := by
        rcases hcast with z | z
        · rw [z] at hcls
          have hcomp : comp = X.D.cid ci := Option.some.inj (k3.symm.trans hcls.1)
          subst hcomp
          exact va_assign hcls
        · obtain ⟨c1, t1, y2, y3, y4⟩ := Cond.castable_spec (hC.ts _ z)
          cases Option.some.inj (hcls.1.symm.trans y2)
          cases Option.some.inj (k3.symm.trans y3)
          exact y4
      obtain ⟨kC', hkC', -⟩ := hal.2.2 _ _ hkC
      obtain ⟨kE', hkE', -⟩ := hal.2.2 _ _ hkE
      refine ⟨cellV, (show T.heap[b]? = some cellV by rw [hT]; exact w3), (fun q h => by rw [w5] at h; cases h), ⟨kC', by rw [w4]; exact hkC'⟩, ⟨kE', hkE'⟩, ?_⟩
      show vm₁.assignable _ _ = true
      rw [hal.assignable, w4]
      exact hasg
  · exact ho.elim
/-- clone of a byte array -/
def o_clone (n : Nat) : xOp := fun K ls st h rc rs => match st with
  | .ref a :: r => ∃ vs : List Value, h a = some (101, vs) ∧ (∀ v ∈ vs, ∃ x : Int32, v = .int x ∧ fits .byte (.int x) = true) ∧ 1 ≤ rc ∧ vs.length ≤ rs ∧ xif (Nat.ble (r.map fun v => v.category).sum 8) (∀ q : Nat, h q = none → K n ls (.ref q :: r) (xset h q (101, vs)) (rc - 1) (rs - vs.length))
  | _ => False
theorem ok_clone (hC : xCx X cc own nL d) (h0 : 1 ≤ d) {i9 : Nat} (hd : decode cc pc = .ok (.invokevirtual i9, 3)) (hl : Cond.methodLink own i9 ⟨"[B", "clone", "()Ljava/lang/Object;"⟩ ∈ xws) (hsa : Cond.sameMethod "[B" "java/lang/Object" "clone" "()Ljava/lang/Object;" ∈ xws) (hna : Cond.native ⟨"java/lang/Object", "clone", "()Ljava/lang/Object;"⟩ ∈ xws) (hin : Cond.instanceMethod ⟨"java/lang/Object", "clone", "()Ljava/lang/Object;"⟩ ∈ xws)
    (hse : Cond.selects "[B" ⟨"[B", "clone", "()Ljava/lang/Object;"⟩ ⟨"java/lang/Object", "clone", "()Ljava/lang/Object;"⟩ ∈ xws) (hca : Cond.castable "[B" "java/lang/Cloneable" ∈ xws) : xOk X pc (o_clone (pc + 3)) := by
  intro K hK ls st h rc rs ho A H locs kk n h1 h2 h3 h4 h5
  unfold o_clone at ho
  split at ho
  · rename_i a r
    obtain ⟨vs, e1, hb, e2, e3, hx⟩ := ho
    obtain ⟨hx, ho⟩ := xif_iff hx
    obtain ⟨q0, q1, q2, q3⟩ := x_arr (t := 1) (by decide) (h2 _ _ e1)
    have hnm : X.s.vm.findClass "[B" = some (X.D.cid 101) := (hC.K.2 1 .byte rfl).2
    obtain ⟨c0, t0', f1, f2, f3⟩ := Cond.castable_spec (hC.ts _ hca)
    cases hnm.symm.trans f1
    have hs1 : X.s.heap.size ≤ H.size := h3.1
    have hsz : X.D.sz ≤ H.size := Nat.le_trans hC.z h3.1
    intro T hT Y
    obtain ⟨-, kA, hkA, comp, hkind⟩ := State.isArrayOf_alike Y.warmed.alike ((hC.K.2 1 .byte rfl).1 0 (fun _ => .null))
    obtain ⟨-, kS, hkS, compS, hkindS⟩ := (hC.K.2 1 .byte rfl).1 0 (fun _ => .null)
    obtain ⟨vm', Y', st⟩ := Y.cloneArray hC.x hC.ow (hC.ts _ hl) (hC.ts _ hsa) (hC.ts _ hna) (hC.ts _ hin) (hC.ts _ hse) (a := a) (cell := { cls := X.D.cid 101, slots := vs.toArray, vm := .none }) (by rw [hT]; exact q3) (fun k z => by cases z) (fun z => by cases z) hnm f2 f3
      (fun i v hv => by
        have hk' : T.vm.classes[X.D.cid 101]? = some kA := hkA
        have hv' : v ∈ vs := by
          have := hv
          rw [List.getElem?_toArray] at this
          exact List.mem_of_getElem? this
        obtain ⟨x, z1, z2⟩ := hb v hv'
        simpa [State.fitsSlot, State.slotType?, hk', hkind, z1] using z2)
      (g := F0 X.m pc A (.ref a :: r)) rfl h1.1 rfl (by rw [hC.b]; exact hd) (by have := hC.fr; omega) (by show 2 * 0 + _ + 14 ≤ _; have := hC.lo; have := Nat.le_of_ble_eq_true hx; omega) (by omega) (by show n + (vs.toArray).size ≤ _; rw [List.size_toArray]; omega) (hloader := Vm.clonesLoader_of_array hkS hkindS)
    have hpush : ((T.setVm vm').pushCell { cls := X.D.cid 101, slots := vs.toArray }).heap = H.push { cls := X.D.cid 101, slots := vs.toArray, vm := .none } := by rw [← hT]; rfl
    obtain ⟨t', b1, b2⟩ := hK _ _ _ _ _ _ (ho H.size h2.fresh) A (H.push { cls := X.D.cid 101, slots := vs.toArray, vm := .none }) locs (kk + 1) (n + vs.length) h1 (h2.push (x_arr_mk (t := 1) (by decide) hsz q1 q2 (by simp)) (fun q hq => by rw [Array.getElem?_push, if_neg (Nat.ne_of_lt hq)])) ⟨by simp; omega, fun q hq => by rw [Array.getElem?_push, if_neg (by omega)]; exact h3.2.1 q hq, h3.2.2⟩ (by omega) (by omega)
      ((T.setVm vm').pushCell { cls := X.D.cid 101, slots := vs.toArray }) hpush (by have := Y'; simp only [List.size_toArray] at this; exact this)
    refine ⟨t', st t' ?_, b2⟩
    rw [hT]
    exact b1
  · exact ho.elim
end XCPY
/-! Math.min, Math.max -/
section XMATH
variable {X : xX} {cc : ByteArray} {own : String} {nL d pc : Nat}
def o_min (n : Nat) : xOp := fun K ls st h rc rs => match st with
  | .int y :: .int x :: r => xif (Nat.ble (r.map fun v => v.category).sum 8) (K n ls (.int (if y < x then y else x) :: r) h rc rs)
  | _ => False
theorem ok_min (hC : xCx X cc own nL d) (h0 : 1 ≤ d) {i : Nat} (hd : decode cc pc = .ok (.invokestatic i, 3)) (hl : Cond.methodLink own i Lib.Math.min.name ∈ xws) (hst : Cond.static Lib.Math.min.name ∈ xws) (hin : Cond.initialized "java/lang/Math" ∈ xws) (hco : Cond.code Lib.Math.min.name Lib.Math.min.code 2 (some .int) ∈ xws) : xOk X pc (o_min (pc + 3)) := by
  intro K hK ls st h rc rs ho A H locs k n h1 h2 h3 h4 h5
  unfold o_min at ho
  split at ho
  · obtain ⟨e1, ho⟩ := xif_iff ho
    exact va_mmin hC.x hC.b (by rw [h1.1]) hC.ow (hC.ts _ hl) (hC.ts _ hst) (hC.ts _ hin) (hC.ts _ hco) (by have := hC.fr; omega) (by have := hC.lo; have := Nat.le_of_ble_eq_true e1; omega) (by omega) (by omega) hd (hK _ _ _ _ _ _ ho A H locs k n h1 h2 h3 h4 h5)
  · exact ho.elim
def o_max (n : Nat) : xOp := fun K ls st h rc rs => match st with
  | .int y :: .int x :: r => xif (Nat.ble (r.map fun v => v.category).sum 8) (K n ls (.int (if x < y then y else x) :: r) h rc rs)
  | _ => False
theorem ok_max (hC : xCx X cc own nL d) (h0 : 1 ≤ d) {i : Nat} (hd : decode cc pc = .ok (.invokestatic i, 3)) (hl : Cond.methodLink own i Lib.Math.max.name ∈ xws) (hst : Cond.static Lib.Math.max.name ∈ xws) (hin : Cond.initialized "java/lang/Math" ∈ xws) (hco : Cond.code Lib.Math.max.name Lib.Math.max.code 2 (some .int) ∈ xws) : xOk X pc (o_max (pc + 3)) := by
  intro K hK ls st h rc rs ho A H locs k n h1 h2 h3 h4 h5
  unfold o_max at ho
  split at ho
  · obtain ⟨e1, ho⟩ := xif_iff ho
    exact va_mmax hC.x hC.b (by rw [h1.1]) hC.ow (hC.ts _ hl) (hC.ts _ hst) (hC.ts _ hin) (hC.ts _ hco) (by have := hC.fr; omega) (by have := hC.lo; have := Nat.le_of_ble_eq_true e1; omega) (by omega) (by omega) hd (hK _ _ _ _ _ _ ho A H locs k n h1 h2 h3 h4 h5)
  · exact ho.elim
def o_minL (n : Nat) : xOp := fun K ls st h rc rs => match st with
  | .long y :: .long x :: r => xif (Nat.ble (r.map fun v => v.category).sum 8) (K n ls (.long (if y < x then y else x) :: r) h rc rs)
  | _ => False
theorem ok_minL (hC : xCx X cc own nL d) (h0 : 1 ≤ d) {i : Nat} (hd : decode cc pc = .ok (.invokestatic i, 3)) (hl : Cond.methodLink own i Lib.MathLoose.min_long.x ∈ xws) (hst : Cond.static Lib.MathLoose.min_long.x ∈ xws) (hin : Cond.initialized "java/lang/Math" ∈ xws) (hco : Cond.code Lib.MathLoose.min_long.x Lib.MathLoose.min_long.code 4 (some .long) ∈ xws) : xOk X pc (o_minL (pc + 3)) := by
  intro K hK ls st h rc rs ho A H locs k n h1 h2 h3 h4 h5
  unfold o_minL at ho
  split at ho
  · obtain ⟨e1, ho⟩ := xif_iff ho
    exact va_mmin_long hC.x hC.b (by rw [h1.1]) hC.ow (hC.ts _ hl) (hC.ts _ hst) (hC.ts _ hin) (hC.ts _ hco) (by have := hC.fr; omega) (by have := hC.lo; have := Nat.le_of_ble_eq_true e1; omega) (by omega) (by omega) hd (hK _ _ _ _ _ _ ho A H locs k n h1 h2 h3 h4 h5)
  · exact ho.elim
end XMATH
