/-! THE ABSTRACT MACHINE, 4: fields, arrays, new, returns -/
def xfitb (ty : FieldType) (v : Value) : Bool := match ty, v with
  | .int, .int _ => true
  | .long, .long _ => true
  | .object _, .ref _ => true
  | .object _, .null => true
  | .array _, .ref _ => true
  | .array _, .null => true
  | _, _ => false
def xfit (ty : FieldType) (v : Value) (q : Prop) : Prop := match xfitb ty v with
  | true => q
  | false => (narrow ty v = v ∧ fits ty v = true) ∧ q
theorem xfit_iff {ty : FieldType} {v : Value} {q : Prop} (h : xfit ty v q) : narrow ty v = v ∧ fits ty v = true ∧ q := by
  unfold xfit at h
  split at h
  · rename_i e
    unfold xfitb at e
    split at e <;> first | exact ⟨rfl, rfl, h⟩ | cases e
  · exact ⟨h.1.1, h.1.2, h.2⟩
theorem x_obj {D : xD} {U : State} {H : Heap} {a ci : Nat} {fs : List Value} (hci : ci < 100) (h : x_at D U H a (ci, fs)) : D.sz ≤ a ∧ ∃ r : vw_C, xcl[ci]? = some r ∧ fs.length = r.2.2 ∧ t_OB a (D.cid ci) r.2.2 (D.slo ci) H (vp_V fs) := by
  unfold x_at at h; rw [if_pos hci] at h; exact h
theorem x_arr {D : xD} {U : State} {H : Heap} {a t : Nat} {vs : List Value} (ht : t < 100) (h : x_at D U H a (100 + t, vs)) : D.sz ≤ a ∧ vs.length < 2 ^ 31 ∧ (∃ ty, xela[t]? = some ty) ∧ H[a]? = some { cls := D.cid (100 + t), slots := vs.toArray, vm := .none } := by
  unfold x_at at h
  rw [if_neg (by show ¬ 100 + t < 100; omega), if_pos (by show 100 + t < 200; omega)] at h
  rw [show (100 + t, vs).1 - 100 = t by show 100 + t - 100 = t; omega] at h
  exact h
theorem x_arr_mk {D : xD} {U : State} {H : Heap} {a t : Nat} {vs : List Value} (ht : t < 100) (h0 : D.sz ≤ a) (h1 : vs.length < 2 ^ 31) (h2 : ∃ ty, xela[t]? = some ty) (h3 : H[a]? = some { cls := D.cid (100 + t), slots := vs.toArray, vm := .none }) : x_at D U H a (100 + t, vs) := by
  unfold x_at
  rw [if_neg (by show ¬ 100 + t < 100; omega), if_pos (by show 100 + t < 200; omega)]
  rw [show (100 + t, vs).1 - 100 = t by show 100 + t - 100 = t; omega]
  exact ⟨h0, h1, h2, h3⟩
theorem x_ro {D : xD} {U : State} {H : Heap} {a t : Nat} {vs : List Value} (ht : t < 100) (h : x_at D U H a (200 + t, vs)) : a < D.sz ∧ vs.length < 2 ^ 31 ∧ ∃ cell : Cell, H[a]? = some cell ∧ U.isArrayOf cell (xel t) ∧ cell.vm ≠ .unknown ∧ cell.slots = vs.toArray := by
  unfold x_at at h
  rw [if_neg (by show ¬ 200 + t < 100; omega), if_neg (by show ¬ 200 + t < 200; omega), if_pos (by show 200 + t < 300; omega)] at h
  rw [show (200 + t, vs).1 - 200 = t by show 200 + t - 200 = t; omega] at h
  exact h
/-- an array, of the run or of before it, as the machine's rows ask for it -/
theorem x_anyarr {D : xD} {U : State} {h : xH} {H : Heap} {a t : Nat} {vs : List Value} (hK : x_K D U) (hR : x_R D U h H) (ht : t < 100) (e : h a = some (100 + t, vs) ∨ h a = some (200 + t, vs)) : ∃ cell : Cell, H[a]? = some cell ∧ U.isArrayOf cell (xel t) ∧ cell.vm ≠ .unknown ∧ cell.slots = vs.toArray ∧ vs.length < 2 ^ 31 := by
  rcases e with e | e
  · obtain ⟨h0, h1, ⟨ty, h2⟩, h3⟩ := x_arr ht (hR _ _ e)
    refine ⟨_, h3, ?_, fun z => (by cases z), rfl, h1⟩
    obtain ⟨k1, -⟩ := hK.2 t ty h2
    have e1 : xel t = ty := by simp [xel, List.getD, h2]
    rw [e1]
    obtain ⟨q1, q2⟩ := k1 0 (fun _ => .null)
    exact ⟨fun k z => (by cases z), q2⟩
  · obtain ⟨h0, h1, cell, h2, h3, h4, h5⟩ := x_ro ht (hR _ _ e)
    exact ⟨cell, h2, h3, h4, h5, h1⟩
theorem x_ain {cell : Cell} {vs : List Value} {i : Int32} {j : Nat} (hs : cell.slots = vs.toArray) (hi : i = nI j) (hj : j < vs.length) (hl : vs.length < 2 ^ 31) : ¬ (i < 0 ∨ cell.slots.size ≤ i.toNatClampNeg) := by
  subst hi
  rw [hs, List.size_toArray, nI_clamp (by omega)]
  intro z
  rcases z with z | z
  · exact nI_pos (by omega) z
  · omega
section XHEAP
variable {X : xX} {cc : ByteArray} {own : String} {nL d pc : Nat}
def o_get (ci k n : Nat) : xOp := fun K ls st h rc rs => match st with
  | .ref a :: r => ∃ (fs : List Value) (v : Value), h a = some (ci, fs) ∧ fs[k]? = some v ∧ K n ls (v :: r) h rc rs
  | _ => False
theorem x_getAux (hC : xCx X cc own nL d) {ci k : Nat} {r0 : vw_C} (hci : ci < 100) (hc : xcl[ci]? = some r0) (hk : k < r0.2.2) {a : Nat} {fs : List Value} {v : Value} {h : xH} {H : Heap} (hR : x_R X.D X.s h H) (e : h a = some (ci, fs)) (hv : fs[k]? = some v) :
    ∃ (cf : Nat) (kf : Class) (fi : Nat) (f : Field) (cell : Cell), X.s.fieldFound? (r0.2.1 k).1 (r0.2.1 k).2.1 (r0.2.1 k).2.2.1 = some (cf, kf, fi, f) ∧ f.isStatic = false ∧ H[a]? = some cell ∧ cell.vm ≠ .unknown ∧ cell.slots[f.slot]? = some v := by
  obtain ⟨h0, r, h1, h2, cell, q1, q2, q3, q4⟩ := x_obj hci (hR _ _ e)
  have hr : r = r0 := Option.some.inj (h1.symm.trans hc)
  subst hr
  obtain ⟨hS, hfc, kC, hkC, hkind⟩ := hC.K.1 ci _ hc
  obtain ⟨cf, kf, fi, f, hi, hsl⟩ := hS k hk
  refine ⟨cf, kf, fi, f, cell, hi, (u_facts hfc hkC (u_lays hC.ts (xcl_in hc) hk) hi).1, q1, by rw [q3]; exact fun z => (by cases z), ?_⟩
  rw [hsl, q4 k hk]
  simp [vp_V, hv]
theorem ok_get (hC : xCx X cc own nL d) {ci k i : Nat} {ref nm ds : String} {r0 : vw_C} (hd : decode cc pc = .ok (.getfield i, 3)) (hci : ci < 100) (hc : xcl[ci]? = some r0) (hk : k < r0.2.2) (hf : r0.2.1 k = (ref, nm, ds, (r0.2.1 k).2.2.2)) (hw : Cond.fieldLink own i ref nm ds ∈ xws) : xOk X pc (o_get ci k (pc + 3)) := by
  intro K hK ls st h rc rs ho A H locs kk n h1 h2 h3 h4 h5
  unfold o_get at ho
  split at ho
  · obtain ⟨fs, v, e1, e2, e3⟩ := ho
    obtain ⟨cf, kf, fi, f, cell, g1, g2, g3, g4, g5⟩ := x_getAux hC hci hc hk h2 e1 e2
    rw [hf] at g1
    exact W.getf hC.x hC.b hC.ow (hC.ts _ hw) g1 g2 g3 g4 g5 rfl rfl hd (hK _ _ _ _ _ _ e3 A H locs kk n h1 h2 h3 h4 h5)
  · exact ho.elim
theorem ok_getN (hC : xCx X cc own nL d) {ci k i : Nat} {ref nm ds host : String} {r0 : vw_C} (hd : decode cc pc = .ok (.getfield i, 3)) (hci : ci < 100) (hc : xcl[ci]? = some r0) (hk : k < r0.2.2) (hf : r0.2.1 k = (ref, nm, ds, (r0.2.1 k).2.2.2)) (hw : Cond.fieldLinkNest own i ref nm ds host ∈ xws) : xOk X pc (o_get ci k (pc + 3)) := by
  intro K hK ls st h rc rs ho A H locs kk n h1 h2 h3 h4 h5
  unfold o_get at ho
  split at ho
  · obtain ⟨fs, v, e1, e2, e3⟩ := ho
    obtain ⟨cf, kf, fi, f, cell, g1, g2, g3, g4, g5⟩ := x_getAux hC hci hc hk h2 e1 e2
    rw [hf] at g1
    exact va_Wgetf hC.x hC.b hC.ow (hC.ts _ hw) g1 g2 g3 g4 g5 rfl rfl hd (hK _ _ _ _ _ _ e3 A H locs kk n h1 h2 h3 h4 h5)
  · exact ho.elim
def o_put (ci k : Nat) (ty : FieldType) (n : Nat) : xOp := fun K ls st h rc rs => match st with
  | v :: .ref a :: r => ∃ fs : List Value, h a = some (ci, fs) ∧ xfit ty v (xfo (fs.set k v) (fun fs' => K n ls r (xset h a (ci, fs')) rc rs))
  | _ => False
theorem x_putBack (hC : xCx X cc own nL d) {ci k : Nat} {r0 : vw_C} (hci : ci < 100) (hc : xcl[ci]? = some r0) (hk : k < r0.2.2) {a : Nat} {fs : List Value} {v : Value} {h : xH} {H H' : Heap} {cell : Cell} {locs : List Loc} (hR : x_R X.D X.s h H) (hS : x_S X.D X.s.heap H locs) (e : h a = some (ci, fs)) (hz : X.D.sz ≤ a) (hl : fs.length = r0.2.2)
    (q2 : cell.cls = X.D.cid ci) (q3 : cell.vm = .none) (q4 : ∀ j, j < r0.2.2 → cell.slots[X.D.slo ci j]? = some (vp_V fs j)) (e1 : H'[a]? = some (cell.setSlot (X.D.slo ci k) v)) (e2 : H'.size = H.size) (e3 : ∀ q, q ≠ a → H'[q]? = H[q]?) : x_R X.D X.s (xset h a (ci, fs.set k v)) H' ∧ x_S X.D X.s.heap H' (locs ++ [⟨a, X.D.slo ci k⟩]) := by
  have hap : ∀ x y, x < r0.2.2 → y < r0.2.2 → x ≠ y → X.D.slo ci x ≠ X.D.slo ci y := va_apart (own := own) (D := (X.D.cid, X.D.slo)) (cl := xcl) (tys := []) (C := r0.1) (T := r0.2.1) hC.ts (xcl_in hc) (xty ci) (xcl_ty hc) (xcl_nm hc) ⟨hC.K.1, fun _ _ z => by simp at z⟩ hc
  refine ⟨hR.set ?_ e3, by rw [e2]; exact hS.1, fun q hq => (e3 q (by omega)).trans (hS.2.1 q hq), fun l hl2 => ?_⟩
  · unfold x_at
    rw [if_pos hci]
    exact ⟨hz, r0, hc, by rw [List.length_set]; exact hl, t_OB.to (V := updV (vp_V fs) k v) ⟨_, e1, q2, q3, t_set q4 hap hk v⟩ (fun j _ => vp_updV_set (by omega) v j)⟩
  · rcases List.mem_append.mp hl2 with z | z
    · exact hS.2.2 l z
    · rw [List.mem_singleton.mp z]; exact hz
theorem ok_put (hC : xCx X cc own nL d) {ci k i : Nat} {ty : FieldType} {ref nm ds : String} {r0 : vw_C} (hd : decode cc pc = .ok (.putfield i, 3)) (hci : ci < 100) (hc : xcl[ci]? = some r0) (hk : k < r0.2.2) (hf : r0.2.1 k = (ref, nm, ds, false)) (hp : parseFieldDescriptor ds = some ty) (hw : Cond.fieldLink own i ref nm ds ∈ xws) : xOk X pc (o_put ci k ty (pc + 3)) := by
  intro K hK ls st h rc rs ho A H locs kk n h1 h2 h3 h4 h5
  unfold o_put at ho
  split at ho
  · rename_i v a r
    obtain ⟨fs, e1, e2⟩ := ho
    obtain ⟨f1, f2, e2⟩ := xfit_iff e2
    rw [xfo_iff] at e2
    obtain ⟨h0, r', g1, g2, cell, q1, q2, q3, q4⟩ := x_obj hci (h2 _ _ e1)
    have hr : r' = r0 := Option.some.inj (g1.symm.trans hc)
    subst hr
    obtain ⟨hS, hfc, kC, hkC, hkind⟩ := hC.K.1 ci _ hc
    obtain ⟨cf, kf, fi, f, hi, hsl⟩ := hS k hk
    have hlay := hC.ts _ (xcl_in hc _ (u_in_lay hk))
    unfold u_lay at hlay
    rw [hf] at hlay hi
    rw [if_neg (by simp)] at hlay
    have hst := (u_facts hfc hkC (Or.inl hlay) hi).1
    have h6 := u_store hfc hkC hkind hlay hi hp f1 f2
    refine W.putK hC.x hC.b (f := f) ⟨hC.ow, hC.ts _ hw, ⟨cf, kf, fi, hi⟩, hst⟩ (by rw [q2]; exact h6) q1 q3 (by rw [hsl]; exact k2_hasslot (q4 k hk)) rfl rfl hd fun H' z1 z2 z3 => ?_
    rw [hsl] at z1 ⊢
    obtain ⟨y1, y2⟩ := x_putBack hC hci hc hk h2 h3 e1 h0 g2 q2 q3 q4 z1 z2 z3
    exact hK _ _ _ _ _ _ e2 A H' _ kk n h1 y1 y2 h4 h5
  · exact ho.elim
theorem ok_putN (hC : xCx X cc own nL d) {ci k i : Nat} {ty : FieldType} {ref nm ds host : String} {r0 : vw_C} (hd : decode cc pc = .ok (.putfield i, 3)) (hci : ci < 100) (hc : xcl[ci]? = some r0) (hk : k < r0.2.2) (hf : r0.2.1 k = (ref, nm, ds, false)) (hp : parseFieldDescriptor ds = some ty) (hw : Cond.fieldLinkNest own i ref nm ds host ∈ xws) : xOk X pc (o_put ci k ty (pc + 3)) := by
  intro K hK ls st h rc rs ho A H locs kk n h1 h2 h3 h4 h5
  unfold o_put at ho
  split at ho
  · rename_i v a r
    obtain ⟨fs, e1, e2⟩ := ho
    obtain ⟨f1, f2, e2⟩ := xfit_iff e2
    rw [xfo_iff] at e2
    obtain ⟨h0, r', g1, g2, cell, q1, q2, q3, q4⟩ := x_obj hci (h2 _ _ e1)
    have hr : r' = r0 := Option.some.inj (g1.symm.trans hc)
    subst hr
    obtain ⟨hS, hfc, kC, hkC, hkind⟩ := hC.K.1 ci _ hc
    obtain ⟨cf, kf, fi, f, hi, hsl⟩ := hS k hk
    have hlay := hC.ts _ (xcl_in hc _ (u_in_lay hk))
    unfold u_lay at hlay
    rw [hf] at hlay hi
    rw [if_neg (by simp)] at hlay
    have hst := (u_facts hfc hkC (Or.inl hlay) hi).1
    have h6 := u_store hfc hkC hkind hlay hi hp f1 f2
    refine va_WputK hC.x hC.b (f := f) hC.ow (hC.ts _ hw) hi hst (by rw [q2]; exact h6) q1 q3 (by rw [hsl]; exact k2_hasslot (q4 k hk)) rfl rfl hd fun H' z1 z2 z3 => ?_
    rw [hsl] at z1 ⊢
    obtain ⟨y1, y2⟩ := x_putBack hC hci hc hk h2 h3 e1 h0 g2 q2 q3 q4 z1 z2 z3
    exact hK _ _ _ _ _ _ e2 A H' _ kk n h1 y1 y2 h4 h5
  · exact ho.elim
theorem ok_putF (hC : xCx X cc own nL d) (hin : X.meth.name = "<init>") {ci k i : Nat} {ty : FieldType} {nm ds : String} {r0 : vw_C} (hd : decode cc pc = .ok (.putfield i, 3)) (hci : ci < 100) (hc : xcl[ci]? = some r0) (hk : k < r0.2.2) (hf : r0.2.1 k = (own, nm, ds, true)) (hp : parseFieldDescriptor ds = some ty) (hw : Cond.fieldLink own i own nm ds ∈ xws) : xOk X pc (o_put ci k ty (pc + 3)) := by
  intro K hK ls st h rc rs ho A H locs kk n h1 h2 h3 h4 h5
  unfold o_put at ho
  split at ho
  · rename_i v a r
    obtain ⟨fs, e1, e2⟩ := ho
    obtain ⟨f1, f2, e2⟩ := xfit_iff e2
    rw [xfo_iff] at e2
    obtain ⟨h0, r', g1, g2, cell, q1, q2, q3, q4⟩ := x_obj hci (h2 _ _ e1)
    have hr : r' = r0 := Option.some.inj (g1.symm.trans hc)
    subst hr
    obtain ⟨hS, hfc, kC, hkC, hkind⟩ := hC.K.1 ci _ hc
    obtain ⟨cf, kf, fi, f, hi, hsl⟩ := hS k hk
    have hlay := hC.ts _ (xcl_in hc _ (u_in_lay hk))
    unfold u_lay at hlay
    rw [hf] at hlay hi
    rw [if_pos rfl] at hlay
    have hst := (u_facts hfc hkC (Or.inr hlay) hi).1
    have hcf : X.m.cls = cf := by
      obtain ⟨_, _, c', _, _, _, -, -, hf', -, -, -, hown2, -⟩ := Cond.laysFinal_spec hlay
      have e1 : c' = cf := by have := hi.symm.trans hf'; simp at this; exact this.1.symm
      rw [← e1]; exact Option.some.inj (hC.ow.symm.trans hown2)
    have h6 := u_fits hfc hkC hkind (Or.inr hlay) hi hp f1 f2
    refine W.putFinK hC.x hC.b hC.ow (hC.ts _ hw) hi hst hcf hin (by rw [q2]; exact h6) q1 q3 (by rw [hsl]; exact k2_hasslot (q4 k hk)) rfl rfl hd fun H' z1 z2 z3 => ?_
    rw [hsl] at z1 ⊢
    obtain ⟨y1, y2⟩ := x_putBack hC hci hc hk h2 h3 e1 h0 g2 q2 q3 q4 z1 z2 z3
    exact hK _ _ _ _ _ _ e2 A H' _ kk n h1 y1 y2 h4 h5
  · exact ho.elim
/-- new -/
def o_new (ci N : Nat) (zs : List Value) (n : Nat) : xOp := fun K ls st h rc rs => 1 ≤ rc ∧ N ≤ rs ∧ ∀ q : Nat, h q = none → K n ls (.ref q :: st) (xset h q (ci, zs)) (rc - 1) (rs - N)
theorem ok_new (hC : xCx X cc own nL d) {ci i : Nat} {zs : List Value} {r0 : vw_C} (hd : decode cc pc = .ok (.new i, 3)) (hci : ci < 100) (hc : xcl[ci]? = some r0) (hz : (List.range r0.2.2).map (fun k => defaultValue (xty ci k)) = zs) (hw1 : Cond.classLink own i r0.1 ∈ xws) (hw2 : Cond.instantiable r0.1 r0.2.2 ∈ xws) (hw3 : Cond.initialized r0.1 ∈ xws) : xOk X pc (o_new ci r0.2.2 zs (pc + 3)) := by
  intro K hK ls st h rc rs ho A H locs kk n h1 h2 h3 h4 h5
  obtain ⟨e1, e2, e3⟩ := ho
  have hKn := hC.K.1 ci _ hc
  refine W.newcK hC.x hC.b hC.ow (hC.ts _ hw1) (hC.ts _ hw2) (hC.ts _ hw3) rfl hd (by omega) (by omega) hKn.2.1 rfl fun H1 kC hkC z1 z2 z3 => ?_
  have hs1 : X.s.heap.size ≤ H.size := h3.1
  have hsz : X.D.sz ≤ H.size := Nat.le_trans hC.z h3.1
  refine hK _ _ _ _ _ _ (e3 H.size h2.fresh) A H1 locs (kk + 1) (n + r0.2.2) h1 (h2.push ?_ z3) ⟨by omega, fun q hq => (z3 q (by omega)).trans (h3.2.1 q hq), h3.2.2⟩ (by omega) (by omega)
  unfold x_at
  rw [if_pos hci]
  refine ⟨hsz, r0, hc, by rw [← hz]; simp, (u_born (xty ci) hC.ts (xcl_in hc) hKn hkC z1 (xcl_ty hc)).to (fun j hj => ?_)⟩
  rw [← hz]
  simp [vp_V, hj]
def o_newa (t : Nat) (dv : Value) (n : Nat) : xOp := fun K ls st h rc rs => match st with
  | .int c :: r => ∃ N : Nat, c = nI N ∧ N < 2 ^ 24 ∧ 1 ≤ rc ∧ N ≤ rs ∧ ∀ q : Nat, h q = none → K n ls (.ref q :: r) (xset h q (100 + t, List.replicate N dv)) (rc - 1) (rs - N)
  | _ => False
theorem ok_newa (hC : xCx X cc own nL d) {t : Nat} {at' : ArrayType} {dv : Value} {ty : FieldType} (hd : decode cc pc = .ok (.newarray at', 2)) (ht : t < 100) (hty : xela[t]? = some ty) (ha : newarray.typeOf at' = ty) (hdv : defaultValue ty = dv) (hcb : componentBytes ty ≤ 8) (hw : Cond.arrayClass ty ∈ xws) (hnr : ∀ C, ty ≠ .object C) : xOk X pc (o_newa t dv (pc + 2)) := by
  intro K hK ls st h rc rs ho A H locs kk n h1 h2 h3 h4 h5
  unfold o_newa at ho
  split at ho
  · obtain ⟨N, e0, e1, e2, e3, e4⟩ := ho
    subst e0
    subst ha
    have hcl : (nI N).toNatClampNeg = N := nI_clamp (by omega)
    refine W.newa hC.x hC.b (hC.ts _ hw) rfl hd rfl (nI_pos (by omega)) (by rw [hcl]; exact Nat.le_trans (Nat.mul_le_mul (Nat.le_of_lt e1) hcb) (by decide)) (by omega) (by rw [hcl]; omega) fun cA kA comp z1 z2 z3 => ?_
    rw [hcl]
    have hs1 : X.s.heap.size ≤ H.size := h3.1
    have hsz : X.D.sz ≤ H.size := Nat.le_trans hC.z h3.1
    have hcA : cA = X.D.cid (100 + t) := by
      have k1 := (hC.K.2 t _ hty).2
      cases at' <;> exact Option.some.inj (z1.symm.trans k1)
    subst hcA
    refine hK _ _ _ _ _ _ (e4 H.size h2.fresh) A _ locs (kk + 1) (n + N) h1 (h2.push ?_ ?_) ⟨by simp; omega, fun q hq => ?_, h3.2.2⟩ (by omega) (by omega)
    · refine x_arr_mk ht hsz (by rw [List.length_replicate]; omega) ⟨_, hty⟩ ?_
      rw [hdv]
      simp
    · intro q hq
      rw [Array.getElem?_push, if_neg (Nat.ne_of_lt hq)]
    · rw [Array.getElem?_push, if_neg (by omega)]
      exact h3.2.1 q hq
  · exact ho.elim
def o_anew (t n : Nat) : xOp := fun K ls st h rc rs => match st with
  | .int c :: r => ∃ N : Nat, c = nI N ∧ N < 2 ^ 24 ∧ 1 ≤ rc ∧ N ≤ rs ∧ ∀ q : Nat, h q = none → K n ls (.ref q :: r) (xset h q (100 + t, List.replicate N .null)) (rc - 1) (rs - N)
  | _ => False
theorem ok_anew (hC : xCx X cc own nL d) {t i : Nat} {C : String} (hd : decode cc pc = .ok (.anewarray i, 3)) (ht : t < 100) (hty : xela[t]? = some (.object C)) (hw1 : Cond.classLink own i C ∈ xws) (hw2 : Cond.arrayOver (.object C) ∈ xws) : xOk X pc (o_anew t (pc + 3)) := by
  intro K hK ls st h rc rs ho A H locs kk n h1 h2 h3 h4 h5
  unfold o_anew at ho
  split at ho
  · obtain ⟨N, e0, e1, e2, e3, e4⟩ := ho
    subst e0
    have hcl : (nI N).toNatClampNeg = N := nI_clamp (by omega)
    refine W.anew hC.x hC.b hC.ow (hC.ts _ hw1) (hC.ts _ hw2) rfl hd rfl (nI_pos (by omega)) (by rw [hcl]; omega) (by omega) (by rw [hcl]; omega) fun cA kA comp z1 z2 z3 z4 => ?_
    rw [hcl]
    have hs1 : X.s.heap.size ≤ H.size := h3.1
    have hsz : X.D.sz ≤ H.size := Nat.le_trans hC.z h3.1
    have hcA : cA = X.D.cid (100 + t) := by
      obtain ⟨kA, comp, k1, k2, k3, k4⟩ := (hC.K.2 t _ hty).2
      exact Option.some.inj (z1.symm.trans k4)
    subst hcA
    refine hK _ _ _ _ _ _ (e4 H.size h2.fresh) A _ locs (kk + 1) (n + N) h1 (h2.push ?_ ?_) ⟨by simp; omega, fun q hq => ?_, h3.2.2⟩ (by omega) (by omega)
    · refine x_arr_mk ht hsz (by rw [List.length_replicate]; omega) ⟨_, hty⟩ ?_
      simp
    · intro q hq
      rw [Array.getElem?_push, if_neg (Nat.ne_of_lt hq)]
    · rw [Array.getElem?_push, if_neg (by omega)]
      exact h3.2.1 q hq
  · exact ho.elim
/-- arrays: length, load, store -/
def o_len (n : Nat) : xOp := fun K ls st h rc rs => match st with
  | .ref a :: r => ∃ (t : Nat) (vs : List Value), (h a = some (100 + t, vs) ∨ h a = some (200 + t, vs)) ∧ t < 100 ∧ K n ls (.int (nI vs.length) :: r) h rc rs
  | _ => False
theorem ok_len (hC : xCx X cc own nL d) (hd : decode cc pc = .ok (.arraylength, 1)) : xOk X pc (o_len (pc + 1)) := by
  intro K hK ls st h rc rs ho A H locs kk n h1 h2 h3 h4 h5
  unfold o_len at ho
  split at ho
  · obtain ⟨t, vs, e1, e2, e3⟩ := ho
    obtain ⟨cell, g1, g2, g3, g4, g5⟩ := x_anyarr hC.K h2 e2 e1
    exact W.alen hC.x hC.b g1 g2 (by rw [g4, List.size_toArray]; rfl) rfl rfl hd (hK _ _ _ _ _ _ e3 A H locs kk n h1 h2 h3 h4 h5)
  · exact ho.elim
/-- a load of an array of element type number t -/
def o_ld (t n : Nat) : xOp := fun K ls st h rc rs => match st with
  | .int i :: .ref a :: r => ∃ (vs : List Value) (j : Nat) (v : Value), (h a = some (100 + t, vs) ∨ h a = some (200 + t, vs)) ∧ i = nI j ∧ vs[j]? = some v ∧ K n ls (v :: r) h rc rs
  | _ => False
theorem ok_iald (hC : xCx X cc own nL d) {t : Nat} (hd : decode cc pc = .ok (.iaload, 1)) (ht : t < 100) (hty : xel t = .int) : xOk X pc (o_ld t (pc + 1)) := by
  intro K hK ls st h rc rs ho A H locs kk n h1 h2 h3 h4 h5
  unfold o_ld at ho
  split at ho
  · obtain ⟨vs, j, v, e1, e2, e3, e4⟩ := ho
    obtain ⟨cell, g1, g2, g3, g4, g5⟩ := x_anyarr hC.K h2 ht e1
    have hj : j < vs.length := (List.getElem?_eq_some_iff.mp e3).1
    exact W.iald hC.x hC.b g1 (by rw [← hty]; exact g2) g3 (x_ain g4 e2 hj g5) (by rw [g4, e2, nI_clamp (by omega), List.getElem?_toArray]; exact e3) rfl rfl hd (hK _ _ _ _ _ _ e4 A H locs kk n h1 h2 h3 h4 h5)
  · exact ho.elim
theorem ok_bald (hC : xCx X cc own nL d) {t : Nat} (hd : decode cc pc = .ok (.baload, 1)) (ht : t < 100) (hty : xel t = .byte) : xOk X pc (o_ld t (pc + 1)) := by
  intro K hK ls st h rc rs ho A H locs kk n h1 h2 h3 h4 h5
  unfold o_ld at ho
  split at ho
  · obtain ⟨vs, j, v, e1, e2, e3, e4⟩ := ho
    obtain ⟨cell, g1, g2, g3, g4, g5⟩ := x_anyarr hC.K h2 ht e1
    have hj : j < vs.length := (List.getElem?_eq_some_iff.mp e3).1
    exact W.bald hC.x hC.b g1 (by rw [← hty]; exact g2) g3 (x_ain g4 e2 hj g5) (by rw [g4, e2, nI_clamp (by omega), List.getElem?_toArray]; exact e3) rfl rfl hd (hK _ _ _ _ _ _ e4 A H locs kk n h1 h2 h3 h4 h5)
  · exact ho.elim
theorem ok_zald (hC : xCx X cc own nL d) {t : Nat} (hd : decode cc pc = .ok (.baload, 1)) (ht : t < 100) (hty : xel t = .boolean) : xOk X pc (o_ld t (pc + 1)) := by
  intro K hK ls st h rc rs ho A H locs kk n h1 h2 h3 h4 h5
  unfold o_ld at ho
  split at ho
  · obtain ⟨vs, j, v, e1, e2, e3, e4⟩ := ho
    obtain ⟨cell, g1, g2, g3, g4, g5⟩ := x_anyarr hC.K h2 ht e1
    have hj : j < vs.length := (List.getElem?_eq_some_iff.mp e3).1
    exact W.zald hC.x hC.b g1 (by rw [← hty]; exact g2) g3 (x_ain g4 e2 hj g5) (by rw [g4, e2, nI_clamp (by omega), List.getElem?_toArray]; exact e3) rfl rfl hd (hK _ _ _ _ _ _ e4 A H locs kk n h1 h2 h3 h4 h5)
  · exact ho.elim
theorem ok_cald (hC : xCx X cc own nL d) {t : Nat} (hd : decode cc pc = .ok (.caload, 1)) (ht : t < 100) (hty : xel t = .char) : xOk X pc (o_ld t (pc + 1)) := by
  intro K hK ls st h rc rs ho A H locs kk n h1 h2 h3 h4 h5
  unfold o_ld at ho
  split at ho
  · obtain ⟨vs, j, v, e1, e2, e3, e4⟩ := ho
    obtain ⟨cell, g1, g2, g3, g4, g5⟩ := x_anyarr hC.K h2 ht e1
    have hj : j < vs.length := (List.getElem?_eq_some_iff.mp e3).1
    exact W.cald hC.x hC.b g1 (by rw [← hty]; exact g2) g3 (x_ain g4 e2 hj g5) (by rw [g4, e2, nI_clamp (by omega), List.getElem?_toArray]; exact e3) rfl rfl hd (hK _ _ _ _ _ _ e4 A H locs kk n h1 h2 h3 h4 h5)
  · exact ho.elim
theorem ok_lald (hC : xCx X cc own nL d) {t : Nat} (hd : decode cc pc = .ok (.laload, 1)) (ht : t < 100) (hty : xel t = .long) : xOk X pc (o_ld t (pc + 1)) := by
  intro K hK ls st h rc rs ho A H locs kk n h1 h2 h3 h4 h5
  unfold o_ld at ho
  split at ho
  · obtain ⟨vs, j, v, e1, e2, e3, e4⟩ := ho
    obtain ⟨cell, g1, g2, g3, g4, g5⟩ := x_anyarr hC.K h2 ht e1
    have hj : j < vs.length := (List.getElem?_eq_some_iff.mp e3).1
    exact W.lald hC.x hC.b g1 (by rw [← hty]; exact g2) g3 (x_ain g4 e2 hj g5) (by rw [g4, e2, nI_clamp (by omega), List.getElem?_toArray]; exact e3) rfl rfl hd (hK _ _ _ _ _ _ e4 A H locs kk n h1 h2 h3 h4 h5)
  · exact ho.elim
theorem ok_aald (hC : xCx X cc own nL d) {t : Nat} {C : String} (hd : decode cc pc = .ok (.aaload, 1)) (ht : t < 100) (hty : xel t = .object C) : xOk X pc (o_ld t (pc + 1)) := by
  intro K hK ls st h rc rs ho A H locs kk n h1 h2 h3 h4 h5
  unfold o_ld at ho
  split at ho
  · obtain ⟨vs, j, v, e1, e2, e3, e4⟩ := ho
    obtain ⟨cell, g1, g2, g3, g4, g5⟩ := x_anyarr hC.K h2 ht e1
    have hj : j < vs.length := (List.getElem?_eq_some_iff.mp e3).1
    exact W.aald (ty := .object C) hC.x hC.b g1 (by rw [← hty]; exact g2) rfl g3 (x_ain g4 e2 hj g5) (by rw [g4, e2, nI_clamp (by omega), List.getElem?_toArray]; exact e3) rfl rfl hd (hK _ _ _ _ _ _ e4 A H locs kk n h1 h2 h3 h4 h5)
  · exact ho.elim
theorem x_stBack {D : xD} {s : State} {h : xH} {H H' : Heap} {locs : List Loc} {a t j : Nat} {vs : List Value} {v : Value} (ht : t < 100) (hR : x_R D s h H) (hS : x_S D s.heap H locs) (e : h a = some (100 + t, vs)) (hj : j < vs.length)
    (e1 : ∀ cell : Cell, H[a]? = some cell → H'[a]? = some (cell.setSlot j v)) (e2 : H'.size = H.size) (e3 : ∀ q, q ≠ a → H'[q]? = H[q]?) : x_R D s (xset h a (100 + t, vs.set j v)) H' ∧ x_S D s.heap H' (locs ++ [⟨a, j⟩]) := by
  obtain ⟨h0, h1, h2, h3⟩ := x_arr ht (hR _ _ e)
  have e4 := e1 _ h3
  refine ⟨hR.set (x_arr_mk ht h0 (by rw [List.length_set]; exact h1) h2 ?_) e3, by rw [e2]; exact hS.1, fun q hq => (e3 q (by omega)).trans (hS.2.1 q hq), fun l hl => ?_⟩
  · rw [e4]
    simp [Cell.setSlot]
  · rcases List.mem_append.mp hl with z | z
    · exact hS.2.2 l z
    · rw [List.mem_singleton.mp z]; exact h0
def o_iast (t n : Nat) : xOp := fun K ls st h rc rs => match st with
  | .int x :: .int i :: .ref a :: r => ∃ (vs : List Value) (j : Nat), h a = some (100 + t, vs) ∧ i = nI j ∧ j < vs.length ∧ K n ls r (xset h a (100 + t, vs.set j (.int x))) rc rs
  | _ => False
theorem ok_iast (hC : xCx X cc own nL d) {t : Nat} (hd : decode cc pc = .ok (.iastore, 1)) (ht : t < 100) (hty : xel t = .int) : xOk X pc (o_iast t (pc + 1)) := by
  intro K hK ls st h rc rs ho A H locs kk n h1 h2 h3 h4 h5
  unfold o_iast at ho
  split at ho
  · rename_i x i a r
    obtain ⟨vs, j, e1, e2, e3, e4⟩ := ho
    obtain ⟨cell, g1, g2, g3, g4, g5⟩ := x_anyarr hC.K h2 ht (Or.inl e1)
    refine W.iast hC.x hC.b g1 (by rw [← hty]; exact g2) g3 (x_ain g4 e2 e3 g5) rfl rfl hd fun H' z1 z2 z3 => ?_
    have ej : (nI j).toNatClampNeg = j := nI_clamp (by omega)
    rw [e2, ej] at z1 ⊢
    obtain ⟨y1, y2⟩ := x_stBack (v := .int x) ht h2 h3 e1 e3 (fun c hc => by cases g1.symm.trans hc; exact z1) z2 z3
    exact hK _ _ _ _ _ _ e4 A H' _ kk n h1 y1 y2 h4 h5
  · exact ho.elim
def o_bast (t n : Nat) : xOp := fun K ls st h rc rs => match st with
  | .int x :: .int i :: .ref a :: r => ∃ (vs : List Value) (j : Nat), h a = some (100 + t, vs) ∧ i = nI j ∧ j < vs.length ∧ K n ls r (xset h a (100 + t, vs.set j (.int x.toInt8.toInt32))) rc rs
  | _ => False
theorem ok_bast (hC : xCx X cc own nL d) {t : Nat} (hd : decode cc pc = .ok (.bastore, 1)) (ht : t < 100) (hty : xel t = .byte) : xOk X pc (o_bast t (pc + 1)) := by
  intro K hK ls st h rc rs ho A H locs kk n h1 h2 h3 h4 h5
  unfold o_bast at ho
  split at ho
  · rename_i x i a r
    obtain ⟨vs, j, e1, e2, e3, e4⟩ := ho
    obtain ⟨cell, g1, g2, g3, g4, g5⟩ := x_anyarr hC.K h2 ht (Or.inl e1)
    refine W.bast hC.x hC.b g1 (by rw [← hty]; exact g2) g3 (x_ain g4 e2 e3 g5) rfl rfl hd fun H' z1 z2 z3 => ?_
    have ej : (nI j).toNatClampNeg = j := nI_clamp (by omega)
    rw [e2, ej] at z1 ⊢
    obtain ⟨y1, y2⟩ := x_stBack (v := .int x.toInt8.toInt32) ht h2 h3 e1 e3 (fun c hc => by cases g1.symm.trans hc; exact z1) z2 z3
    exact hK _ _ _ _ _ _ e4 A H' _ kk n h1 y1 y2 h4 h5
  · exact ho.elim
def o_last (t n : Nat) : xOp := fun K ls st h rc rs => match st with
  | .long x :: .int i :: .ref a :: r => ∃ (vs : List Value) (j : Nat), h a = some (100 + t, vs) ∧ i = nI j ∧ j < vs.length ∧ K n ls r (xset h a (100 + t, vs.set j (.long x))) rc rs
  | _ => False
theorem ok_last (hC : xCx X cc own nL d) {t : Nat} (hd : decode cc pc = .ok (.lastore, 1)) (ht : t < 100) (hty : xel t = .long) : xOk X pc (o_last t (pc + 1)) := by
  intro K hK ls st h rc rs ho A H locs kk n h1 h2 h3 h4 h5
  unfold o_last at ho
  split at ho
  · rename_i x i a r
    obtain ⟨vs, j, e1, e2, e3, e4⟩ := ho
    obtain ⟨cell, g1, g2, g3, g4, g5⟩ := x_anyarr hC.K h2 ht (Or.inl e1)
    refine W.last hC.x hC.b g1 (by rw [← hty]; exact g2) g3 (x_ain g4 e2 e3 g5) rfl rfl hd fun H' z1 z2 z3 => ?_
    have ej : (nI j).toNatClampNeg = j := nI_clamp (by omega)
    rw [e2, ej] at z1 ⊢
    obtain ⟨y1, y2⟩ := x_stBack (v := .long x) ht h2 h3 e1 e3 (fun c hc => by cases g1.symm.trans hc; exact z1) z2 z3
    exact hK _ _ _ _ _ _ e4 A H' _ kk n h1 y1 y2 h4 h5
  · exact ho.elim
/-- a reference is stored into an array of references (element type number t, its class C): null, or an object of a class that can be cast to C -/
def o_aast (t : Nat) (ok : Nat → Bool) (n : Nat) : xOp := fun K ls st h rc rs => match st with
  | .ref b :: .int i :: .ref a :: r => ∃ (vs : List Value) (j ci : Nat) (fs : List Value), h a = some (100 + t, vs) ∧ i = nI j ∧ j < vs.length ∧ h b = some (ci, fs) ∧ ok ci = true ∧ K n ls r (xset h a (100 + t, vs.set j (.ref b))) rc rs
  | .null :: .int i :: .ref a :: r => ∃ (vs : List Value) (j : Nat), h a = some (100 + t, vs) ∧ i = nI j ∧ j < vs.length ∧ K n ls r (xset h a (100 + t, vs.set j .null)) rc rs
  | _ => False
theorem ok_aast (hC : xCx X cc own nL d) {t : Nat} {C : String} {ok : Nat → Bool} (hd : decode cc pc = .ok (.aastore, 1)) (ht : t < 100) (hty : xela[t]? = some (.object C)) (hok : ∀ ci, ok ci = true → ci < 100 ∧ ∃ r0, xcl[ci]? = some r0 ∧ (r0.1 = C ∨ Cond.castable r0.1 C ∈ xws)) : xOk X pc (o_aast t ok (pc + 1)) := by
  intro K hK ls st h rc rs ho A H locs kk n h1 h2 h3 h4 h5
  unfold o_aast at ho
  have hel : xel t = .object C := by simp [xel, List.getD, hty]
  split at ho
  · rename_i b i a r
    obtain ⟨vs, j, ci, fs, e1, e2, e3, e4, e5, e6⟩ := ho
    obtain ⟨hci, r0, hc, hcast⟩ := hok ci e5
    obtain ⟨g0, r', w1, w2, cellV, w3, w4, w5, w6⟩ := x_obj hci (h2 _ _ e4)
    have hr : r' = r0 := Option.some.inj (w1.symm.trans hc)
    subst hr
    have hcls := (hC.K.1 ci _ hc).2
    obtain ⟨kC, hkC, -⟩ := hcls.2
    obtain ⟨kA, comp, k1, k2, k3, -⟩ := (hC.K.2 t _ hty).2
    obtain ⟨q0, q1, q2, q3⟩ := x_arr ht (h2 _ _ e1)
    have hasg : X.s.vm.assignable (X.D.cid ci) comp = true := by
      rcases hcast with z | z
      · rw [z] at hcls
        have hcomp : comp = X.D.cid ci := Option.some.inj (k3.symm.trans hcls.1)
        subst hcomp
        exact va_assign hcls
      · have z1 := hC.ts _ z
        obtain ⟨c1, t1, z2, z3, z4⟩ := Cond.castable_spec z1
        cases Option.some.inj (hcls.1.symm.trans z2)
        cases Option.some.inj (k3.symm.trans z3)
        exact z4
    obtain ⟨kcomp, hkcomp⟩ := Vm.classAt_of_findClass k3
    have ej : (nI j).toNatClampNeg = j := nI_clamp (by omega)
    refine W.aast hC.x hC.b q3 (fun q z => by cases z) (fun z => by cases z) k1 k2 rfl hkcomp (by subst e2; rw [ej]; exact ⟨nI_pos (by omega), by simpa using e3⟩) w3 (fun q z => by rw [w5] at z; cases z) (by rw [w4]; exact hkC) (by rw [w4]; exact hasg) rfl rfl hd fun H' z1 z2 z3 => ?_
    rw [e2, ej] at z1 ⊢
    obtain ⟨y1, y2⟩ := x_stBack (v := .ref b) ht h2 h3 e1 e3 (fun c hc => by cases q3.symm.trans hc; exact z1) z2 z3
    exact hK _ _ _ _ _ _ e6 A H' _ kk n h1 y1 y2 h4 h5
  · obtain ⟨vs, j, e1, e2, e3, e6⟩ := ho
    obtain ⟨cell, g1, g2, g3, g4, g5⟩ := x_anyarr hC.K h2 ht (Or.inl e1)
    have ej : (nI j).toNatClampNeg = j := nI_clamp (by omega)
    refine va_WaastN hC.x hC.b g1 (by rw [← hel]; exact g2) g3 (x_ain g4 e2 e3 g5) rfl rfl hd fun H' z1 z2 z3 => ?_
    rw [e2, ej] at z1 ⊢
    obtain ⟨y1, y2⟩ := x_stBack (v := .null) ht h2 h3 e1 e3 (fun c hc => by cases g1.symm.trans hc; exact z1) z2 z3
    exact hK _ _ _ _ _ _ e6 A H' _ kk n h1 y1 y2 h4 h5
  · exact ho.elim
/-- a cast that holds -/
def o_cast (ok : Nat → Bool) (n : Nat) : xOp := fun K ls st h rc rs => match st with
  | .null :: r => K n ls (.null :: r) h rc rs
  | .ref a :: r => ∃ (ci : Nat) (fs : List Value), h a = some (ci, fs) ∧ ok ci = true ∧ K n ls (.ref a :: r) h rc rs
  | _ => False
theorem ok_cast (hC : xCx X cc own nL d) {i : Nat} {C : String} {ok : Nat → Bool} (hd : decode cc pc = .ok (.checkcast i, 3)) (hw : Cond.classLink own i C ∈ xws) (hok : ∀ ci, ok ci = true → ci < 100 ∧ ∃ r0, xcl[ci]? = some r0 ∧ r0.1 = C) : xOk X pc (o_cast ok (pc + 3)) := by
  intro K hK ls st h rc rs ho A H locs kk n h1 h2 h3 h4 h5
  unfold o_cast at ho
  split at ho
  · exact lv_castN hC.x hC.b hd (hK _ _ _ _ _ _ ho A H locs kk n h1 h2 h3 h4 h5)
  · obtain ⟨ci, fs, e1, e2, e3⟩ := ho
    obtain ⟨hci, r0, hc, rfl⟩ := hok ci e2
    obtain ⟨g0, r', w1, w2, cellV, w3, w4, w5, w6⟩ := x_obj hci (h2 _ _ e1)
    have hcls := (hC.K.1 ci _ hc).2
    exact va_castS hC.x hC.b hC.ow (hC.ts _ hw) hcls ⟨cellV, w3, by rw [w5]; rfl, by rw [w4]; exact hcls.1⟩ hd (hK _ _ _ _ _ _ e3 A H locs kk n h1 h2 h3 h4 h5)
  · exact ho.elim
/-- a static field of before the run -/
def o_gets (D : xD) (i n : Nat) : xOp := fun K ls st h rc rs => K n ls (D.sv i :: st) h rc rs
theorem ok_gets (hC : xCx X cc own nL d) {i j : Nat} {q : String × String × String} (hd : decode cc pc = .ok (.getstatic j, 3)) (hq : xst[i]? = some q) (hw : Cond.fieldLink own j q.1 q.2.1 q.2.2 ∈ xws) : xOk X pc (o_gets X.D i (pc + 3)) := by
  intro K hK ls st h rc rs ho A H locs kk n h1 h2 h3 h4 h5
  exact va_gets (A := fun q => X.D.sz ≤ q) hC.x hC.b (hC.E.1 i q hq) ⟨h3.1, fun a _ z => h3.2.1 a (Nat.not_le.mp z), h3.2.2⟩ hC.ow (hC.ts _ hw) (fun _ z => z) hd (hK _ _ _ _ _ _ ho A H locs kk n h1 h2 h3 h4 h5)
/-- a constant text -/
def o_ldcS (D : xD) (i n : Nat) : xOp := fun K ls st h rc rs => K n ls (D.sv (1000 + i) :: st) h rc rs
theorem ok_ldcS (hC : xCx X cc own nL d) {i j : Nat} {tx : String} (hd : decode cc pc = .ok (.ldc j, 2)) (hq : xsr[i]? = some (own, j, tx)) : xOk X pc (o_ldcS X.D i (pc + 2)) := by
  intro K hK ls st h rc rs ho A H locs kk n h1 h2 h3 h4 h5
  obtain ⟨a, e1, e2⟩ := hC.E.2.1 i _ hq
  unfold o_ldcS at ho
  rw [e1] at ho
  exact va_ldcS hC.x hC.b hC.ow e2 hd (hK _ _ _ _ _ _ ho A H locs kk n h1 h2 h3 h4 h5)
end XHEAP
