/-! THE ABSTRACT MACHINE, 3: the operations that touch no heap -/
section XOPS
variable {X : xX} {cc : ByteArray} {own : String} {nL d pc : Nat}
def o_ic (v : Int32) (n : Nat) : xOp := fun K ls st h rc rs => K n ls (.int v :: st) h rc rs
def o_lc (v : Int64) (n : Nat) : xOp := fun K ls st h rc rs => K n ls (.long v :: st) h rc rs
def o_null (n : Nat) : xOp := fun K ls st h rc rs => K n ls (.null :: st) h rc rs
theorem ok_iconst (hC : xCx X cc own nL d) {i : Int} {v : Int32} (hd : decode cc pc = .ok (.iconst i, 1)) (hv : Int32.ofInt i = v) : xOk X pc (o_ic v (pc + 1)) := by
  intro K hK ls st h rc rs ho A H locs k n h1 h2 h3 h4 h5
  exact lv_iconst hC.x hC.b hd hv (hK _ _ _ _ _ _ ho A H locs k n h1 h2 h3 h4 h5)
theorem ok_bipush (hC : xCx X cc own nL d) {i : Int} {v : Int32} (hd : decode cc pc = .ok (.bipush i, 2)) (hv : (Int8.ofInt i).toInt32 = v) : xOk X pc (o_ic v (pc + 2)) := by
  intro K hK ls st h rc rs ho A H locs k n h1 h2 h3 h4 h5
  exact lv_bipush hC.x hC.b hd hv (hK _ _ _ _ _ _ ho A H locs k n h1 h2 h3 h4 h5)
theorem ok_sipush (hC : xCx X cc own nL d) {i : Int} {v : Int32} (hd : decode cc pc = .ok (.sipush i, 3)) (hv : (Int16.ofInt i).toInt32 = v) : xOk X pc (o_ic v (pc + 3)) := by
  intro K hK ls st h rc rs ho A H locs k n h1 h2 h3 h4 h5
  exact lv_sipush hC.x hC.b hd hv (hK _ _ _ _ _ _ ho A H locs k n h1 h2 h3 h4 h5)
theorem ok_ldc (hC : xCx X cc own nL d) {i : Nat} {v : Int32} (hd : decode cc pc = .ok (.ldc i, 2)) (hw : Cond.constant own i v ∈ xws) : xOk X pc (o_ic v (pc + 2)) := by
  intro K hK ls st h rc rs ho A H locs k n h1 h2 h3 h4 h5
  exact lv_ldc hC.x hC.b hC.ow (hC.ts _ hw) hd (hK _ _ _ _ _ _ ho A H locs k n h1 h2 h3 h4 h5)
theorem ok_ldcw (hC : xCx X cc own nL d) {i : Nat} {v : Int32} (hd : decode cc pc = .ok (.ldc_w i, 3)) (hw : Cond.constant own i v ∈ xws) : xOk X pc (o_ic v (pc + 3)) := by
  intro K hK ls st h rc rs ho A H locs k n h1 h2 h3 h4 h5
  exact lv_ldcw hC.x hC.b hC.ow (hC.ts _ hw) hd (hK _ _ _ _ _ _ ho A H locs k n h1 h2 h3 h4 h5)
theorem ok_lconst (hC : xCx X cc own nL d) {i : Fin 2} {v : Int64} (hd : decode cc pc = .ok (.lconst i, 1)) (hv : Int64.ofNat (i : Nat) = v) : xOk X pc (o_lc v (pc + 1)) := by
  intro K hK ls st h rc rs ho A H locs k n h1 h2 h3 h4 h5
  exact lv_lconst hC.x hC.b hd hv (hK _ _ _ _ _ _ ho A H locs k n h1 h2 h3 h4 h5)
theorem ok_ldc2 (hC : xCx X cc own nL d) {i : Nat} {v : Int64} (hd : decode cc pc = .ok (.ldc2_w i, 3)) (hw : Cond.constantLong own i v ∈ xws) : xOk X pc (o_lc v (pc + 3)) := by
  intro K hK ls st h rc rs ho A H locs k n h1 h2 h3 h4 h5
  exact lv_ldc2 hC.x hC.b hC.ow (hC.ts _ hw) hd (hK _ _ _ _ _ _ ho A H locs k n h1 h2 h3 h4 h5)
theorem ok_null (hC : xCx X cc own nL d) (hd : decode cc pc = .ok (.aconst_null, 1)) : xOk X pc (o_null (pc + 1)) := by
  intro K hK ls st h rc rs ho A H locs k n h1 h2 h3 h4 h5
  exact lv_null hC.x hC.b hd (hK _ _ _ _ _ _ ho A H locs k n h1 h2 h3 h4 h5)
def o_ild (i n : Nat) : xOp := fun K ls st h rc rs => match xget ls i with
  | some (.int x) => K n ls (.int x :: st) h rc rs
  | _ => False
def o_lld (i n : Nat) : xOp := fun K ls st h rc rs => match xget ls i with
  | some (.long x) => K n ls (.long x :: st) h rc rs
  | _ => False
def o_ald (i n : Nat) : xOp := fun K ls st h rc rs => match xget ls i with
  | some (.ref x) => K n ls (.ref x :: st) h rc rs
  | some .null => K n ls (.null :: st) h rc rs
  | _ => False
theorem ok_iload (hC : xCx X cc own nL d) {i : Nat} (hd : decode cc pc = .ok (.iload i, 2)) : xOk X pc (o_ild i (pc + 2)) := by
  intro K hK ls st h rc rs ho A H locs k n h1 h2 h3 h4 h5
  unfold o_ild at ho
  split at ho
  · rename_i e
    exact lv_iload hC.x hC.b hd (xget_at h1 e) (hK _ _ _ _ _ _ ho A H locs k n h1 h2 h3 h4 h5)
  · exact ho.elim
theorem ok_iload_n (hC : xCx X cc own nL d) {j : Fin 4} {i : Nat} (hd : decode cc pc = .ok (.iload_n j, 1)) (hi : (j : Nat) = i) : xOk X pc (o_ild i (pc + 1)) := by
  intro K hK ls st h rc rs ho A H locs k n h1 h2 h3 h4 h5
  unfold o_ild at ho
  split at ho
  · rename_i e
    exact lv_iload_n hC.x hC.b hd hi (xget_at h1 e) (hK _ _ _ _ _ _ ho A H locs k n h1 h2 h3 h4 h5)
  · exact ho.elim
theorem ok_lload (hC : xCx X cc own nL d) {i : Nat} (hd : decode cc pc = .ok (.lload i, 2)) : xOk X pc (o_lld i (pc + 2)) := by
  intro K hK ls st h rc rs ho A H locs k n h1 h2 h3 h4 h5
  unfold o_lld at ho
  split at ho
  · rename_i e
    exact lv_lload hC.x hC.b hd (xget_at h1 e) (hK _ _ _ _ _ _ ho A H locs k n h1 h2 h3 h4 h5)
  · exact ho.elim
theorem ok_lload_n (hC : xCx X cc own nL d) {j : Fin 4} {i : Nat} (hd : decode cc pc = .ok (.lload_n j, 1)) (hi : (j : Nat) = i) : xOk X pc (o_lld i (pc + 1)) := by
  intro K hK ls st h rc rs ho A H locs k n h1 h2 h3 h4 h5
  unfold o_lld at ho
  split at ho
  · rename_i e
    exact lv_lload_n hC.x hC.b hd hi (xget_at h1 e) (hK _ _ _ _ _ _ ho A H locs k n h1 h2 h3 h4 h5)
  · exact ho.elim
theorem ok_aload (hC : xCx X cc own nL d) {i : Nat} (hd : decode cc pc = .ok (.aload i, 2)) : xOk X pc (o_ald i (pc + 2)) := by
  intro K hK ls st h rc rs ho A H locs k n h1 h2 h3 h4 h5
  unfold o_ald at ho
  split at ho
  · rename_i e
    exact lv_aload hC.x hC.b hd (xget_at h1 e) (hK _ _ _ _ _ _ ho A H locs k n h1 h2 h3 h4 h5)
  · rename_i e
    exact lv_aloadN hC.x hC.b hd (xget_at h1 e) (hK _ _ _ _ _ _ ho A H locs k n h1 h2 h3 h4 h5)
  · exact ho.elim
theorem ok_aload_n (hC : xCx X cc own nL d) {j : Fin 4} {i : Nat} (hd : decode cc pc = .ok (.aload_n j, 1)) (hi : (j : Nat) = i) : xOk X pc (o_ald i (pc + 1)) := by
  intro K hK ls st h rc rs ho A H locs k n h1 h2 h3 h4 h5
  unfold o_ald at ho
  split at ho
  · rename_i e
    exact lv_aload_n hC.x hC.b hd hi (xget_at h1 e) (hK _ _ _ _ _ _ ho A H locs k n h1 h2 h3 h4 h5)
  · rename_i e
    exact lv_aload_nN hC.x hC.b hd hi (xget_at h1 e) (hK _ _ _ _ _ _ ho A H locs k n h1 h2 h3 h4 h5)
  · exact ho.elim
def o_ist (i n : Nat) : xOp := fun K ls st h rc rs => match st with
  | .int x :: r => xfo (xput1 ls i (.int x)) (fun l => K n l r h rc rs)
  | _ => False
def o_lst (i n : Nat) : xOp := fun K ls st h rc rs => match st with
  | .long x :: r => xfo (xput2 ls i (.long x)) (fun l => K n l r h rc rs)
  | _ => False
def o_ast (i n : Nat) : xOp := fun K ls st h rc rs => match st with
  | .ref x :: r => xfo (xput1 ls i (.ref x)) (fun l => K n l r h rc rs)
  | .null :: r => xfo (xput1 ls i .null) (fun l => K n l r h rc rs)
  | _ => False
theorem ok_istore (hC : xCx X cc own nL d) {i : Nat} (hd : decode cc pc = .ok (.istore i, 2)) (hn : i < nL) : xOk X pc (o_ist i (pc + 2)) := by
  intro K hK ls st h rc rs ho A H locs k n h1 h2 h3 h4 h5
  unfold o_ist at ho
  split at ho
  · rw [xfo_iff] at ho
    exact lv_istore hC.x hC.b hd h1 (by rw [hC.ml]; exact hn) rfl (fun A' h1' => hK _ _ _ _ _ _ ho A' H locs k n h1' h2 h3 h4 h5)
  · exact ho.elim
theorem ok_istore_n (hC : xCx X cc own nL d) {j : Fin 4} {i : Nat} (hd : decode cc pc = .ok (.istore_n j, 1)) (hi : (j : Nat) = i) (hn : i < nL) : xOk X pc (o_ist i (pc + 1)) := by
  intro K hK ls st h rc rs ho A H locs k n h1 h2 h3 h4 h5
  unfold o_ist at ho
  split at ho
  · rw [xfo_iff] at ho
    exact lv_istore_n hC.x hC.b hd hi h1 (by rw [hC.ml]; exact hn) rfl (fun A' h1' => hK _ _ _ _ _ _ ho A' H locs k n h1' h2 h3 h4 h5)
  · exact ho.elim
theorem ok_lstore (hC : xCx X cc own nL d) {i : Nat} (hd : decode cc pc = .ok (.lstore i, 2)) (hn : i + 1 < nL) : xOk X pc (o_lst i (pc + 2)) := by
  intro K hK ls st h rc rs ho A H locs k n h1 h2 h3 h4 h5
  unfold o_lst at ho
  split at ho
  · rw [xfo_iff] at ho
    exact lv_lstore hC.x hC.b hd h1 (by rw [hC.ml]; exact hn) rfl (fun A' h1' => hK _ _ _ _ _ _ ho A' H locs k n h1' h2 h3 h4 h5)
  · exact ho.elim
theorem ok_lstore_n (hC : xCx X cc own nL d) {j : Fin 4} {i : Nat} (hd : decode cc pc = .ok (.lstore_n j, 1)) (hi : (j : Nat) = i) (hn : i + 1 < nL) : xOk X pc (o_lst i (pc + 1)) := by
  intro K hK ls st h rc rs ho A H locs k n h1 h2 h3 h4 h5
  unfold o_lst at ho
  split at ho
  · rw [xfo_iff] at ho
    exact lv_lstore_n hC.x hC.b hd hi h1 (by rw [hC.ml]; exact hn) rfl (fun A' h1' => hK _ _ _ _ _ _ ho A' H locs k n h1' h2 h3 h4 h5)
  · exact ho.elim
theorem ok_astore (hC : xCx X cc own nL d) {i : Nat} (hd : decode cc pc = .ok (.astore i, 2)) (hn : i < nL) : xOk X pc (o_ast i (pc + 2)) := by
  intro K hK ls st h rc rs ho A H locs k n h1 h2 h3 h4 h5
  unfold o_ast at ho
  split at ho
  · rw [xfo_iff] at ho
    exact lv_astore hC.x hC.b hd h1 (by rw [hC.ml]; exact hn) rfl (fun A' h1' => hK _ _ _ _ _ _ ho A' H locs k n h1' h2 h3 h4 h5)
  · rw [xfo_iff] at ho
    exact lv_astoreN hC.x hC.b hd h1 (by rw [hC.ml]; exact hn) rfl (fun A' h1' => hK _ _ _ _ _ _ ho A' H locs k n h1' h2 h3 h4 h5)
  · exact ho.elim
theorem ok_astore_n (hC : xCx X cc own nL d) {j : Fin 4} {i : Nat} (hd : decode cc pc = .ok (.astore_n j, 1)) (hi : (j : Nat) = i) (hn : i < nL) : xOk X pc (o_ast i (pc + 1)) := by
  intro K hK ls st h rc rs ho A H locs k n h1 h2 h3 h4 h5
  unfold o_ast at ho
  split at ho
  · rw [xfo_iff] at ho
    exact lv_astore_n hC.x hC.b hd hi h1 (by rw [hC.ml]; exact hn) rfl (fun A' h1' => hK _ _ _ _ _ _ ho A' H locs k n h1' h2 h3 h4 h5)
  · rw [xfo_iff] at ho
    exact lv_astore_nN hC.x hC.b hd hi h1 (by rw [hC.ml]; exact hn) rfl (fun A' h1' => hK _ _ _ _ _ _ ho A' H locs k n h1' h2 h3 h4 h5)
  · exact ho.elim
def o_inc (i : Nat) (v : Int32) (n : Nat) : xOp := fun K ls st h rc rs => match xget ls i with
  | some (.int x) => xfo (xput1 ls i (.int (x + v))) (fun l => K n l st h rc rs)
  | _ => False
theorem ok_iinc (hC : xCx X cc own nL d) {i : Nat} {z : Int} {v : Int32} (hd : decode cc pc = .ok (.iinc i z, 3)) (hv : Int32.ofInt z = v) (hn : i < nL) : xOk X pc (o_inc i v (pc + 3)) := by
  intro K hK ls st h rc rs ho A H locs k n h1 h2 h3 h4 h5
  unfold o_inc at ho
  split at ho
  · rename_i e
    rw [xfo_iff] at ho
    obtain ⟨j, hj⟩ := List.getElem?_of_mem (xget_mem e)
    exact lv_iinc hC.x hC.b hd h1 hj (by rw [hv]) (by rw [hC.ml]; exact hn) rfl (fun A' h1' => hK _ _ _ _ _ _ ho A' H locs k n h1' h2 h3 h4 h5)
  · exact ho.elim
def o_iadd (n : Nat) : xOp := fun K ls st h rc rs => match st with
  | .int y :: .int x :: r => K n ls (.int (x + y) :: r) h rc rs
  | _ => False
theorem ok_iadd (hC : xCx X cc own nL d) (hd : decode cc pc = .ok (.iadd, 1)) : xOk X pc (o_iadd (pc + 1)) := by
  intro K hK ls st h rc rs ho A H locs k n h1 h2 h3 h4 h5
  unfold o_iadd at ho
  split at ho
  · exact lv_iadd hC.x hC.b hd (hK _ _ _ _ _ _ ho A H locs k n h1 h2 h3 h4 h5)
  · exact ho.elim
def o_isub (n : Nat) : xOp := fun K ls st h rc rs => match st with
  | .int y :: .int x :: r => K n ls (.int (x - y) :: r) h rc rs
  | _ => False
theorem ok_isub (hC : xCx X cc own nL d) (hd : decode cc pc = .ok (.isub, 1)) : xOk X pc (o_isub (pc + 1)) := by
  intro K hK ls st h rc rs ho A H locs k n h1 h2 h3 h4 h5
  unfold o_isub at ho
  split at ho
  · exact lv_isub hC.x hC.b hd (hK _ _ _ _ _ _ ho A H locs k n h1 h2 h3 h4 h5)
  · exact ho.elim
def o_imul (n : Nat) : xOp := fun K ls st h rc rs => match st with
  | .int y :: .int x :: r => K n ls (.int (x * y) :: r) h rc rs
  | _ => False
theorem ok_imul (hC : xCx X cc own nL d) (hd : decode cc pc = .ok (.imul, 1)) : xOk X pc (o_imul (pc + 1)) := by
  intro K hK ls st h rc rs ho A H locs k n h1 h2 h3 h4 h5
  unfold o_imul at ho
  split at ho
  · exact lv_imul hC.x hC.b hd (hK _ _ _ _ _ _ ho A H locs k n h1 h2 h3 h4 h5)
  · exact ho.elim
def o_iand (n : Nat) : xOp := fun K ls st h rc rs => match st with
  | .int y :: .int x :: r => K n ls (.int (x &&& y) :: r) h rc rs
  | _ => False
theorem ok_iand (hC : xCx X cc own nL d) (hd : decode cc pc = .ok (.iand, 1)) : xOk X pc (o_iand (pc + 1)) := by
  intro K hK ls st h rc rs ho A H locs k n h1 h2 h3 h4 h5
  unfold o_iand at ho
  split at ho
  · exact lv_iand hC.x hC.b hd (hK _ _ _ _ _ _ ho A H locs k n h1 h2 h3 h4 h5)
  · exact ho.elim
def o_ior (n : Nat) : xOp := fun K ls st h rc rs => match st with
  | .int y :: .int x :: r => K n ls (.int (x ||| y) :: r) h rc rs
  | _ => False
theorem ok_ior (hC : xCx X cc own nL d) (hd : decode cc pc = .ok (.ior, 1)) : xOk X pc (o_ior (pc + 1)) := by
  intro K hK ls st h rc rs ho A H locs k n h1 h2 h3 h4 h5
  unfold o_ior at ho
  split at ho
  · exact lv_ior hC.x hC.b hd (hK _ _ _ _ _ _ ho A H locs k n h1 h2 h3 h4 h5)
  · exact ho.elim
def o_ixor (n : Nat) : xOp := fun K ls st h rc rs => match st with
  | .int y :: .int x :: r => K n ls (.int (x ^^^ y) :: r) h rc rs
  | _ => False
theorem ok_ixor (hC : xCx X cc own nL d) (hd : decode cc pc = .ok (.ixor, 1)) : xOk X pc (o_ixor (pc + 1)) := by
  intro K hK ls st h rc rs ho A H locs k n h1 h2 h3 h4 h5
  unfold o_ixor at ho
  split at ho
  · exact lv_ixor hC.x hC.b hd (hK _ _ _ _ _ _ ho A H locs k n h1 h2 h3 h4 h5)
  · exact ho.elim
def o_ishl (n : Nat) : xOp := fun K ls st h rc rs => match st with
  | .int y :: .int x :: r => K n ls (.int (x <<< (y &&& 31)) :: r) h rc rs
  | _ => False
theorem ok_ishl (hC : xCx X cc own nL d) (hd : decode cc pc = .ok (.ishl, 1)) : xOk X pc (o_ishl (pc + 1)) := by
  intro K hK ls st h rc rs ho A H locs k n h1 h2 h3 h4 h5
  unfold o_ishl at ho
  split at ho
  · exact lv_ishl hC.x hC.b hd (hK _ _ _ _ _ _ ho A H locs k n h1 h2 h3 h4 h5)
  · exact ho.elim
def o_ishr (n : Nat) : xOp := fun K ls st h rc rs => match st with
  | .int y :: .int x :: r => K n ls (.int (x >>> (y &&& 31)) :: r) h rc rs
  | _ => False
theorem ok_ishr (hC : xCx X cc own nL d) (hd : decode cc pc = .ok (.ishr, 1)) : xOk X pc (o_ishr (pc + 1)) := by
  intro K hK ls st h rc rs ho A H locs k n h1 h2 h3 h4 h5
  unfold o_ishr at ho
  split at ho
  · exact lv_ishr hC.x hC.b hd (hK _ _ _ _ _ _ ho A H locs k n h1 h2 h3 h4 h5)
  · exact ho.elim
def o_iushr (n : Nat) : xOp := fun K ls st h rc rs => match st with
  | .int y :: .int x :: r => K n ls (.int ((x.toUInt32 >>> (y.toUInt32 &&& Int32.toUInt32 31)).toInt32) :: r) h rc rs
  | _ => False
theorem ok_iushr (hC : xCx X cc own nL d) (hd : decode cc pc = .ok (.iushr, 1)) : xOk X pc (o_iushr (pc + 1)) := by
  intro K hK ls st h rc rs ho A H locs k n h1 h2 h3 h4 h5
  unfold o_iushr at ho
  split at ho
  · exact lv_iushr hC.x hC.b hd rfl (hK _ _ _ _ _ _ ho A H locs k n h1 h2 h3 h4 h5)
  · exact ho.elim
def o_idiv (n : Nat) : xOp := fun K ls st h rc rs => match st with
  | .int y :: .int x :: r => ¬ y = 0 ∧ K n ls (.int (x / y) :: r) h rc rs
  | _ => False
theorem ok_idiv (hC : xCx X cc own nL d) (hd : decode cc pc = .ok (.idiv, 1)) : xOk X pc (o_idiv (pc + 1)) := by
  intro K hK ls st h rc rs ho A H locs k n h1 h2 h3 h4 h5
  unfold o_idiv at ho
  split at ho
  · exact lv_idiv hC.x hC.b hd ho.1 (hK _ _ _ _ _ _ ho.2 A H locs k n h1 h2 h3 h4 h5)
  · exact ho.elim
def o_irem (n : Nat) : xOp := fun K ls st h rc rs => match st with
  | .int y :: .int x :: r => ¬ y = 0 ∧ K n ls (.int (x - x / y * y) :: r) h rc rs
  | _ => False
theorem ok_irem (hC : xCx X cc own nL d) (hd : decode cc pc = .ok (.irem, 1)) : xOk X pc (o_irem (pc + 1)) := by
  intro K hK ls st h rc rs ho A H locs k n h1 h2 h3 h4 h5
  unfold o_irem at ho
  split at ho
  · exact lv_irem hC.x hC.b hd ho.1 (hK _ _ _ _ _ _ ho.2 A H locs k n h1 h2 h3 h4 h5)
  · exact ho.elim
def o_ladd (n : Nat) : xOp := fun K ls st h rc rs => match st with
  | .long y :: .long x :: r => K n ls (.long (x + y) :: r) h rc rs
  | _ => False
theorem ok_ladd (hC : xCx X cc own nL d) (hd : decode cc pc = .ok (.ladd, 1)) : xOk X pc (o_ladd (pc + 1)) := by
  intro K hK ls st h rc rs ho A H locs k n h1 h2 h3 h4 h5
  unfold o_ladd at ho
  split at ho
  · exact lv_ladd hC.x hC.b hd (hK _ _ _ _ _ _ ho A H locs k n h1 h2 h3 h4 h5)
  · exact ho.elim
def o_lsub (n : Nat) : xOp := fun K ls st h rc rs => match st with
  | .long y :: .long x :: r => K n ls (.long (x - y) :: r) h rc rs
  | _ => False
theorem ok_lsub (hC : xCx X cc own nL d) (hd : decode cc pc = .ok (.lsub, 1)) : xOk X pc (o_lsub (pc + 1)) := by
  intro K hK ls st h rc rs ho A H locs k n h1 h2 h3 h4 h5
  unfold o_lsub at ho
  split at ho
  · exact lv_lsub hC.x hC.b hd (hK _ _ _ _ _ _ ho A H locs k n h1 h2 h3 h4 h5)
  · exact ho.elim
def o_lmul (n : Nat) : xOp := fun K ls st h rc rs => match st with
  | .long y :: .long x :: r => K n ls (.long (x * y) :: r) h rc rs
  | _ => False
theorem ok_lmul (hC : xCx X cc own nL d) (hd : decode cc pc = .ok (.lmul, 1)) : xOk X pc (o_lmul (pc + 1)) := by
  intro K hK ls st h rc rs ho A H locs k n h1 h2 h3 h4 h5
  unfold o_lmul at ho
  split at ho
  · exact lv_lmul hC.x hC.b hd (hK _ _ _ _ _ _ ho A H locs k n h1 h2 h3 h4 h5)
  · exact ho.elim
def o_land (n : Nat) : xOp := fun K ls st h rc rs => match st with
  | .long y :: .long x :: r => K n ls (.long (x &&& y) :: r) h rc rs
  | _ => False
theorem ok_land (hC : xCx X cc own nL d) (hd : decode cc pc = .ok (.land, 1)) : xOk X pc (o_land (pc + 1)) := by
  intro K hK ls st h rc rs ho A H locs k n h1 h2 h3 h4 h5
  unfold o_land at ho
  split at ho
  · exact lv_land hC.x hC.b hd (hK _ _ _ _ _ _ ho A H locs k n h1 h2 h3 h4 h5)
  · exact ho.elim
def o_lor (n : Nat) : xOp := fun K ls st h rc rs => match st with
  | .long y :: .long x :: r => K n ls (.long (x ||| y) :: r) h rc rs
  | _ => False
theorem ok_lor (hC : xCx X cc own nL d) (hd : decode cc pc = .ok (.lor, 1)) : xOk X pc (o_lor (pc + 1)) := by
  intro K hK ls st h rc rs ho A H locs k n h1 h2 h3 h4 h5
  unfold o_lor at ho
  split at ho
  · exact lv_lor hC.x hC.b hd (hK _ _ _ _ _ _ ho A H locs k n h1 h2 h3 h4 h5)
  · exact ho.elim
def o_lxor (n : Nat) : xOp := fun K ls st h rc rs => match st with
  | .long y :: .long x :: r => K n ls (.long (x ^^^ y) :: r) h rc rs
  | _ => False
theorem ok_lxor (hC : xCx X cc own nL d) (hd : decode cc pc = .ok (.lxor, 1)) : xOk X pc (o_lxor (pc + 1)) := by
  intro K hK ls st h rc rs ho A H locs k n h1 h2 h3 h4 h5
  unfold o_lxor at ho
  split at ho
  · exact lv_lxor hC.x hC.b hd (hK _ _ _ _ _ _ ho A H locs k n h1 h2 h3 h4 h5)
  · exact ho.elim
def o_ldiv (n : Nat) : xOp := fun K ls st h rc rs => match st with
  | .long y :: .long x :: r => ¬ y = 0 ∧ K n ls (.long (x / y) :: r) h rc rs
  | _ => False
theorem ok_ldiv (hC : xCx X cc own nL d) (hd : decode cc pc = .ok (.ldiv, 1)) : xOk X pc (o_ldiv (pc + 1)) := by
  intro K hK ls st h rc rs ho A H locs k n h1 h2 h3 h4 h5
  unfold o_ldiv at ho
  split at ho
  · exact lv_ldiv hC.x hC.b hd ho.1 (hK _ _ _ _ _ _ ho.2 A H locs k n h1 h2 h3 h4 h5)
  · exact ho.elim
def o_lrem (n : Nat) : xOp := fun K ls st h rc rs => match st with
  | .long y :: .long x :: r => ¬ y = 0 ∧ K n ls (.long (x - x / y * y) :: r) h rc rs
  | _ => False
theorem ok_lrem (hC : xCx X cc own nL d) (hd : decode cc pc = .ok (.lrem, 1)) : xOk X pc (o_lrem (pc + 1)) := by
  intro K hK ls st h rc rs ho A H locs k n h1 h2 h3 h4 h5
  unfold o_lrem at ho
  split at ho
  · exact lv_lrem hC.x hC.b hd ho.1 (hK _ _ _ _ _ _ ho.2 A H locs k n h1 h2 h3 h4 h5)
  · exact ho.elim
def o_lshl (n : Nat) : xOp := fun K ls st h rc rs => match st with
  | .int y :: .long x :: r => K n ls (.long (x <<< (y.toInt64 &&& 63)) :: r) h rc rs
  | _ => False
theorem ok_lshl (hC : xCx X cc own nL d) (hd : decode cc pc = .ok (.lshl, 1)) : xOk X pc (o_lshl (pc + 1)) := by
  intro K hK ls st h rc rs ho A H locs k n h1 h2 h3 h4 h5
  unfold o_lshl at ho
  split at ho
  · exact lv_lshl hC.x hC.b hd rfl (hK _ _ _ _ _ _ ho A H locs k n h1 h2 h3 h4 h5)
  · exact ho.elim
def o_lcmp (n : Nat) : xOp := fun K ls st h rc rs => match st with
  | .long y :: .long x :: r => K n ls (.int (lg_cmp x y) :: r) h rc rs
  | _ => False
theorem ok_lcmp (hC : xCx X cc own nL d) (hd : decode cc pc = .ok (.lcmp, 1)) : xOk X pc (o_lcmp (pc + 1)) := by
  intro K hK ls st h rc rs ho A H locs k n h1 h2 h3 h4 h5
  unfold o_lcmp at ho
  split at ho
  · exact W.lcmp hC.x hC.b hd (hK _ _ _ _ _ _ ho A H locs k n h1 h2 h3 h4 h5)
  · exact ho.elim
def o_ineg (n : Nat) : xOp := fun K ls st h rc rs => match st with
  | .int x :: r => K n ls (.int (-x) :: r) h rc rs
  | _ => False
theorem ok_ineg (hC : xCx X cc own nL d) (hd : decode cc pc = .ok (.ineg, 1)) : xOk X pc (o_ineg (pc + 1)) := by
  intro K hK ls st h rc rs ho A H locs k n h1 h2 h3 h4 h5
  unfold o_ineg at ho
  split at ho
  · exact lv_ineg hC.x hC.b hd (hK _ _ _ _ _ _ ho A H locs k n h1 h2 h3 h4 h5)
  · exact ho.elim
def o_i2l (n : Nat) : xOp := fun K ls st h rc rs => match st with
  | .int x :: r => K n ls (.long x.toInt64 :: r) h rc rs
  | _ => False
theorem ok_i2l (hC : xCx X cc own nL d) (hd : decode cc pc = .ok (.i2l, 1)) : xOk X pc (o_i2l (pc + 1)) := by
  intro K hK ls st h rc rs ho A H locs k n h1 h2 h3 h4 h5
  unfold o_i2l at ho
  split at ho
  · exact lv_i2l hC.x hC.b hd rfl (hK _ _ _ _ _ _ ho A H locs k n h1 h2 h3 h4 h5)
  · exact ho.elim
def o_l2i (n : Nat) : xOp := fun K ls st h rc rs => match st with
  | .long x :: r => K n ls (.int x.toInt32 :: r) h rc rs
  | _ => False
theorem ok_l2i (hC : xCx X cc own nL d) (hd : decode cc pc = .ok (.l2i, 1)) : xOk X pc (o_l2i (pc + 1)) := by
  intro K hK ls st h rc rs ho A H locs k n h1 h2 h3 h4 h5
  unfold o_l2i at ho
  split at ho
  · exact lv_l2i hC.x hC.b hd rfl (hK _ _ _ _ _ _ ho A H locs k n h1 h2 h3 h4 h5)
  · exact ho.elim
def o_i2b (n : Nat) : xOp := fun K ls st h rc rs => match st with
  | .int x :: r => K n ls (.int x.toInt8.toInt32 :: r) h rc rs
  | _ => False
theorem ok_i2b (hC : xCx X cc own nL d) (hd : decode cc pc = .ok (.i2b, 1)) : xOk X pc (o_i2b (pc + 1)) := by
  intro K hK ls st h rc rs ho A H locs k n h1 h2 h3 h4 h5
  unfold o_i2b at ho
  split at ho
  · exact lv_i2b hC.x hC.b hd rfl (hK _ _ _ _ _ _ ho A H locs k n h1 h2 h3 h4 h5)
  · exact ho.elim
theorem xcat {v : Value} {n : Nat} (h : Nat.beq v.category n = true) : v.category = n := Nat.eq_of_beq_eq_true h
def xif (b : Bool) (q : Prop) : Prop := match b with
  | true => q
  | false => False
theorem xif_iff {b : Bool} {q : Prop} (h : xif b q) : b = true ∧ q := by
  cases b with
  | true => exact ⟨rfl, h⟩
  | false => exact h.elim
def o_dup (n : Nat) : xOp := fun K ls st h rc rs => match st with
  | v :: r => xif (Nat.beq v.category 1) (K n ls (v :: v :: r) h rc rs)
  | _ => False
theorem ok_dup (hC : xCx X cc own nL d) (hd : decode cc pc = .ok (.dup, 1)) : xOk X pc (o_dup (pc + 1)) := by
  intro K hK ls st h rc rs ho A H locs k n h1 h2 h3 h4 h5
  unfold o_dup at ho
  split at ho
  · obtain ⟨e1, ho⟩ := xif_iff ho
    exact lv_dup hC.x hC.b hd (xcat e1) (hK _ _ _ _ _ _ ho A H locs k n h1 h2 h3 h4 h5)
  · exact ho.elim
def o_pop (n : Nat) : xOp := fun K ls st h rc rs => match st with
  | v :: r => xif (Nat.beq v.category 1) (K n ls r h rc rs)
  | _ => False
theorem ok_pop (hC : xCx X cc own nL d) (hd : decode cc pc = .ok (.pop, 1)) : xOk X pc (o_pop (pc + 1)) := by
  intro K hK ls st h rc rs ho A H locs k n h1 h2 h3 h4 h5
  unfold o_pop at ho
  split at ho
  · obtain ⟨e1, ho⟩ := xif_iff ho
    exact lv_pop hC.x hC.b hd (xcat e1) (hK _ _ _ _ _ _ ho A H locs k n h1 h2 h3 h4 h5)
  · exact ho.elim
def o_pop2 (n : Nat) : xOp := fun K ls st h rc rs => match st with
  | v :: r => xif (Nat.beq v.category 2) (K n ls r h rc rs)
  | _ => False
theorem ok_pop2 (hC : xCx X cc own nL d) (hd : decode cc pc = .ok (.pop2, 1)) : xOk X pc (o_pop2 (pc + 1)) := by
  intro K hK ls st h rc rs ho A H locs k n h1 h2 h3 h4 h5
  unfold o_pop2 at ho
  split at ho
  · obtain ⟨e1, ho⟩ := xif_iff ho
    exact lv_pop2_2 hC.x hC.b hd (xcat e1) (hK _ _ _ _ _ _ ho A H locs k n h1 h2 h3 h4 h5)
  · exact ho.elim
def o_dup_x1 (n : Nat) : xOp := fun K ls st h rc rs => match st with
  | v :: w :: r => xif (Nat.beq v.category 1) (xif (Nat.beq w.category 1) (K n ls (v :: w :: v :: r) h rc rs))
  | _ => False
theorem ok_dup_x1 (hC : xCx X cc own nL d) (hd : decode cc pc = .ok (.dup_x1, 1)) : xOk X pc (o_dup_x1 (pc + 1)) := by
  intro K hK ls st h rc rs ho A H locs k n h1 h2 h3 h4 h5
  unfold o_dup_x1 at ho
  split at ho
  · obtain ⟨e1, ho⟩ := xif_iff ho
    obtain ⟨e2, ho⟩ := xif_iff ho
    exact lv_dup_x1 hC.x hC.b hd (xcat e1) (xcat e2) (hK _ _ _ _ _ _ ho A H locs k n h1 h2 h3 h4 h5)
  · exact ho.elim
def o_dup_x2 (n : Nat) : xOp := fun K ls st h rc rs => match st with
  | v :: w :: u :: r => xif (Nat.beq v.category 1) (xif (Nat.beq w.category 1) (xif (Nat.beq u.category 1) (K n ls (v :: w :: u :: v :: r) h rc rs)))
  | _ => False
theorem ok_dup_x2 (hC : xCx X cc own nL d) (hd : decode cc pc = .ok (.dup_x2, 1)) : xOk X pc (o_dup_x2 (pc + 1)) := by
  intro K hK ls st h rc rs ho A H locs k n h1 h2 h3 h4 h5
  unfold o_dup_x2 at ho
  split at ho
  · obtain ⟨e1, ho⟩ := xif_iff ho
    obtain ⟨e2, ho⟩ := xif_iff ho
    obtain ⟨e3, ho⟩ := xif_iff ho
    exact lv_dup_x2 hC.x hC.b hd (xcat e1) (xcat e2) (xcat e3) (hK _ _ _ _ _ _ ho A H locs k n h1 h2 h3 h4 h5)
  · exact ho.elim
def o_dup2 (n : Nat) : xOp := fun K ls st h rc rs => match st with
  | v :: w :: r => xif (Nat.beq v.category 1) (xif (Nat.beq w.category 1) (K n ls (v :: w :: v :: w :: r) h rc rs))
  | _ => False
theorem ok_dup2 (hC : xCx X cc own nL d) (hd : decode cc pc = .ok (.dup2, 1)) : xOk X pc (o_dup2 (pc + 1)) := by
  intro K hK ls st h rc rs ho A H locs k n h1 h2 h3 h4 h5
  unfold o_dup2 at ho
  split at ho
  · obtain ⟨e1, ho⟩ := xif_iff ho
    obtain ⟨e2, ho⟩ := xif_iff ho
    exact lv_dup2_11 hC.x hC.b hd (xcat e1) (xcat e2) (hK _ _ _ _ _ _ ho A H locs k n h1 h2 h3 h4 h5)
  · exact ho.elim
def o_dup2L (n : Nat) : xOp := fun K ls st h rc rs => match st with
  | v :: r => xif (Nat.beq v.category 2) (K n ls (v :: v :: r) h rc rs)
  | _ => False
theorem ok_dup2L (hC : xCx X cc own nL d) (hd : decode cc pc = .ok (.dup2, 1)) : xOk X pc (o_dup2L (pc + 1)) := by
  intro K hK ls st h rc rs ho A H locs k n h1 h2 h3 h4 h5
  unfold o_dup2L at ho
  split at ho
  · obtain ⟨e1, ho⟩ := xif_iff ho
    exact lv_dup2_2 hC.x hC.b hd (xcat e1) (hK _ _ _ _ _ _ ho A H locs k n h1 h2 h3 h4 h5)
  · exact ho.elim
def o_goto (t : Nat) : xOp := fun K ls st h rc rs => K t ls st h rc rs
theorem ok_goto (hC : xCx X cc own nL d) {off : Int} {t : Nat} (hd : decode cc pc = .ok (.goto off, 3)) (ht : (pc : Int) + off = (t : Int)) : xOk X pc (o_goto t) := by
  intro K hK ls st h rc rs ho A H locs k n h1 h2 h3 h4 h5
  exact lv_goto hC.x hC.b hd ht (hK _ _ _ _ _ _ ho A H locs k n h1 h2 h3 h4 h5)
def o_ifeq (t n : Nat) : xOp := fun K ls st h rc rs => match st with
  | .int x :: r => (x = 0 → K t ls r h rc rs) ∧ (¬ x = 0 → K n ls r h rc rs)
  | _ => False
theorem ok_ifeq (hC : xCx X cc own nL d) {off : Int} {t : Nat} (hd : decode cc pc = .ok (.ifCond .eq off, 3)) (ht : (pc : Int) + off = (t : Int)) : xOk X pc (o_ifeq t (pc + 3)) := by
  intro K hK ls st h rc rs ho A H locs k n h1 h2 h3 h4 h5
  unfold o_ifeq at ho
  split at ho
  · exact lv_if_eq hC.x hC.b hd ht (fun z => hK _ _ _ _ _ _ (ho.1 z) A H locs k n h1 h2 h3 h4 h5) (fun z => hK _ _ _ _ _ _ (ho.2 z) A H locs k n h1 h2 h3 h4 h5)
  · exact ho.elim
def o_ifne (t n : Nat) : xOp := fun K ls st h rc rs => match st with
  | .int x :: r => (¬ x = 0 → K t ls r h rc rs) ∧ (x = 0 → K n ls r h rc rs)
  | _ => False
theorem ok_ifne (hC : xCx X cc own nL d) {off : Int} {t : Nat} (hd : decode cc pc = .ok (.ifCond .ne off, 3)) (ht : (pc : Int) + off = (t : Int)) : xOk X pc (o_ifne t (pc + 3)) := by
  intro K hK ls st h rc rs ho A H locs k n h1 h2 h3 h4 h5
  unfold o_ifne at ho
  split at ho
  · exact lv_if_ne hC.x hC.b hd ht (fun z => hK _ _ _ _ _ _ (ho.1 z) A H locs k n h1 h2 h3 h4 h5) (fun z => hK _ _ _ _ _ _ (ho.2 z) A H locs k n h1 h2 h3 h4 h5)
  · exact ho.elim
def o_iflt (t n : Nat) : xOp := fun K ls st h rc rs => match st with
  | .int x :: r => (x < 0 → K t ls r h rc rs) ∧ (¬ x < 0 → K n ls r h rc rs)
  | _ => False
theorem ok_iflt (hC : xCx X cc own nL d) {off : Int} {t : Nat} (hd : decode cc pc = .ok (.ifCond .lt off, 3)) (ht : (pc : Int) + off = (t : Int)) : xOk X pc (o_iflt t (pc + 3)) := by
  intro K hK ls st h rc rs ho A H locs k n h1 h2 h3 h4 h5
  unfold o_iflt at ho
  split at ho
  · exact lv_if_lt hC.x hC.b hd ht (fun z => hK _ _ _ _ _ _ (ho.1 z) A H locs k n h1 h2 h3 h4 h5) (fun z => hK _ _ _ _ _ _ (ho.2 z) A H locs k n h1 h2 h3 h4 h5)
  · exact ho.elim
def o_ifge (t n : Nat) : xOp := fun K ls st h rc rs => match st with
  | .int x :: r => (0 ≤ x → K t ls r h rc rs) ∧ (¬ 0 ≤ x → K n ls r h rc rs)
  | _ => False
theorem ok_ifge (hC : xCx X cc own nL d) {off : Int} {t : Nat} (hd : decode cc pc = .ok (.ifCond .ge off, 3)) (ht : (pc : Int) + off = (t : Int)) : xOk X pc (o_ifge t (pc + 3)) := by
  intro K hK ls st h rc rs ho A H locs k n h1 h2 h3 h4 h5
  unfold o_ifge at ho
  split at ho
  · exact lv_if_ge hC.x hC.b hd ht (fun z => hK _ _ _ _ _ _ (ho.1 z) A H locs k n h1 h2 h3 h4 h5) (fun z => hK _ _ _ _ _ _ (ho.2 z) A H locs k n h1 h2 h3 h4 h5)
  · exact ho.elim
def o_ifgt (t n : Nat) : xOp := fun K ls st h rc rs => match st with
  | .int x :: r => (0 < x → K t ls r h rc rs) ∧ (¬ 0 < x → K n ls r h rc rs)
  | _ => False
theorem ok_ifgt (hC : xCx X cc own nL d) {off : Int} {t : Nat} (hd : decode cc pc = .ok (.ifCond .gt off, 3)) (ht : (pc : Int) + off = (t : Int)) : xOk X pc (o_ifgt t (pc + 3)) := by
  intro K hK ls st h rc rs ho A H locs k n h1 h2 h3 h4 h5
  unfold o_ifgt at ho
  split at ho
  · exact lv_if_gt hC.x hC.b hd ht (fun z => hK _ _ _ _ _ _ (ho.1 z) A H locs k n h1 h2 h3 h4 h5) (fun z => hK _ _ _ _ _ _ (ho.2 z) A H locs k n h1 h2 h3 h4 h5)
  · exact ho.elim
def o_ifle (t n : Nat) : xOp := fun K ls st h rc rs => match st with
  | .int x :: r => (x ≤ 0 → K t ls r h rc rs) ∧ (¬ x ≤ 0 → K n ls r h rc rs)
  | _ => False
theorem ok_ifle (hC : xCx X cc own nL d) {off : Int} {t : Nat} (hd : decode cc pc = .ok (.ifCond .le off, 3)) (ht : (pc : Int) + off = (t : Int)) : xOk X pc (o_ifle t (pc + 3)) := by
  intro K hK ls st h rc rs ho A H locs k n h1 h2 h3 h4 h5
  unfold o_ifle at ho
  split at ho
  · exact lv_if_le hC.x hC.b hd ht (fun z => hK _ _ _ _ _ _ (ho.1 z) A H locs k n h1 h2 h3 h4 h5) (fun z => hK _ _ _ _ _ _ (ho.2 z) A H locs k n h1 h2 h3 h4 h5)
  · exact ho.elim
def o_iceq (t n : Nat) : xOp := fun K ls st h rc rs => match st with
  | .int y :: .int x :: r => (x = y → K t ls r h rc rs) ∧ (¬ x = y → K n ls r h rc rs)
  | _ => False
theorem ok_iceq (hC : xCx X cc own nL d) {off : Int} {t : Nat} (hd : decode cc pc = .ok (.if_icmp .eq off, 3)) (ht : (pc : Int) + off = (t : Int)) : xOk X pc (o_iceq t (pc + 3)) := by
  intro K hK ls st h rc rs ho A H locs k n h1 h2 h3 h4 h5
  unfold o_iceq at ho
  split at ho
  · exact lv_icmp_eq hC.x hC.b hd ht (fun z => hK _ _ _ _ _ _ (ho.1 z) A H locs k n h1 h2 h3 h4 h5) (fun z => hK _ _ _ _ _ _ (ho.2 z) A H locs k n h1 h2 h3 h4 h5)
  · exact ho.elim
def o_icne (t n : Nat) : xOp := fun K ls st h rc rs => match st with
  | .int y :: .int x :: r => (¬ x = y → K t ls r h rc rs) ∧ (x = y → K n ls r h rc rs)
  | _ => False
theorem ok_icne (hC : xCx X cc own nL d) {off : Int} {t : Nat} (hd : decode cc pc = .ok (.if_icmp .ne off, 3)) (ht : (pc : Int) + off = (t : Int)) : xOk X pc (o_icne t (pc + 3)) := by
  intro K hK ls st h rc rs ho A H locs k n h1 h2 h3 h4 h5
  unfold o_icne at ho
  split at ho
  · exact lv_icmp_ne hC.x hC.b hd ht (fun z => hK _ _ _ _ _ _ (ho.1 z) A H locs k n h1 h2 h3 h4 h5) (fun z => hK _ _ _ _ _ _ (ho.2 z) A H locs k n h1 h2 h3 h4 h5)
  · exact ho.elim
def o_iclt (t n : Nat) : xOp := fun K ls st h rc rs => match st with
  | .int y :: .int x :: r => (x < y → K t ls r h rc rs) ∧ (¬ x < y → K n ls r h rc rs)
  | _ => False
theorem ok_iclt (hC : xCx X cc own nL d) {off : Int} {t : Nat} (hd : decode cc pc = .ok (.if_icmp .lt off, 3)) (ht : (pc : Int) + off = (t : Int)) : xOk X pc (o_iclt t (pc + 3)) := by
  intro K hK ls st h rc rs ho A H locs k n h1 h2 h3 h4 h5
  unfold o_iclt at ho
  split at ho
  · exact lv_icmp_lt hC.x hC.b hd ht (fun z => hK _ _ _ _ _ _ (ho.1 z) A H locs k n h1 h2 h3 h4 h5) (fun z => hK _ _ _ _ _ _ (ho.2 z) A H locs k n h1 h2 h3 h4 h5)
  · exact ho.elim
def o_icge (t n : Nat) : xOp := fun K ls st h rc rs => match st with
  | .int y :: .int x :: r => (y ≤ x → K t ls r h rc rs) ∧ (¬ y ≤ x → K n ls r h rc rs)
  | _ => False
theorem ok_icge (hC : xCx X cc own nL d) {off : Int} {t : Nat} (hd : decode cc pc = .ok (.if_icmp .ge off, 3)) (ht : (pc : Int) + off = (t : Int)) : xOk X pc (o_icge t (pc + 3)) := by
  intro K hK ls st h rc rs ho A H locs k n h1 h2 h3 h4 h5
  unfold o_icge at ho
  split at ho
  · exact lv_icmp_ge hC.x hC.b hd ht (fun z => hK _ _ _ _ _ _ (ho.1 z) A H locs k n h1 h2 h3 h4 h5) (fun z => hK _ _ _ _ _ _ (ho.2 z) A H locs k n h1 h2 h3 h4 h5)
  · exact ho.elim
def o_icgt (t n : Nat) : xOp := fun K ls st h rc rs => match st with
  | .int y :: .int x :: r => (y < x → K t ls r h rc rs) ∧ (¬ y < x → K n ls r h rc rs)
  | _ => False
theorem ok_icgt (hC : xCx X cc own nL d) {off : Int} {t : Nat} (hd : decode cc pc = .ok (.if_icmp .gt off, 3)) (ht : (pc : Int) + off = (t : Int)) : xOk X pc (o_icgt t (pc + 3)) := by
  intro K hK ls st h rc rs ho A H locs k n h1 h2 h3 h4 h5
  unfold o_icgt at ho
  split at ho
  · exact lv_icmp_gt hC.x hC.b hd ht (fun z => hK _ _ _ _ _ _ (ho.1 z) A H locs k n h1 h2 h3 h4 h5) (fun z => hK _ _ _ _ _ _ (ho.2 z) A H locs k n h1 h2 h3 h4 h5)
  · exact ho.elim
def o_icle (t n : Nat) : xOp := fun K ls st h rc rs => match st with
  | .int y :: .int x :: r => (x ≤ y → K t ls r h rc rs) ∧ (¬ x ≤ y → K n ls r h rc rs)
  | _ => False
theorem ok_icle (hC : xCx X cc own nL d) {off : Int} {t : Nat} (hd : decode cc pc = .ok (.if_icmp .le off, 3)) (ht : (pc : Int) + off = (t : Int)) : xOk X pc (o_icle t (pc + 3)) := by
  intro K hK ls st h rc rs ho A H locs k n h1 h2 h3 h4 h5
  unfold o_icle at ho
  split at ho
  · exact lv_icmp_le hC.x hC.b hd ht (fun z => hK _ _ _ _ _ _ (ho.1 z) A H locs k n h1 h2 h3 h4 h5) (fun z => hK _ _ _ _ _ _ (ho.2 z) A H locs k n h1 h2 h3 h4 h5)
  · exact ho.elim
def o_nul (t n : Nat) : xOp := fun K ls st h rc rs => match st with
  | .null :: r => K t ls r h rc rs
  | .ref _ :: r => K n ls r h rc rs
  | _ => False
theorem ok_ifnull (hC : xCx X cc own nL d) {off : Int} {t : Nat} (hd : decode cc pc = .ok (.ifnull off, 3)) (ht : (pc : Int) + off = (t : Int)) : xOk X pc (o_nul t (pc + 3)) := by
  intro K hK ls st h rc rs ho A H locs k n h1 h2 h3 h4 h5
  unfold o_nul at ho
  split at ho
  · exact lv_ifnullN hC.x hC.b hd ht (hK _ _ _ _ _ _ ho A H locs k n h1 h2 h3 h4 h5)
  · exact lv_ifnull hC.x hC.b hd (hK _ _ _ _ _ _ ho A H locs k n h1 h2 h3 h4 h5)
  · exact ho.elim
theorem ok_ifnonnull (hC : xCx X cc own nL d) {off : Int} {t : Nat} (hd : decode cc pc = .ok (.ifnonnull off, 3)) (ht : (pc : Int) + off = (t : Int)) : xOk X pc (o_nul (pc + 3) t) := by
  intro K hK ls st h rc rs ho A H locs k n h1 h2 h3 h4 h5
  unfold o_nul at ho
  split at ho
  · exact lv_ifnonnullN hC.x hC.b hd (hK _ _ _ _ _ _ ho A H locs k n h1 h2 h3 h4 h5)
  · exact lv_ifnonnull hC.x hC.b hd ht (hK _ _ _ _ _ _ ho A H locs k n h1 h2 h3 h4 h5)
  · exact ho.elim
def o_acm (t n : Nat) : xOp := fun K ls st h rc rs => match st with
  | .ref y :: .ref x :: r => (x = y → K t ls r h rc rs) ∧ (¬ x = y → K n ls r h rc rs)
  | .null :: .null :: r => K t ls r h rc rs
  | .ref _ :: .null :: r => K n ls r h rc rs
  | .null :: .ref _ :: r => K n ls r h rc rs
  | _ => False
theorem ok_acmpeq (hC : xCx X cc own nL d) {off : Int} {t : Nat} (hd : decode cc pc = .ok (.if_acmp .eq off, 3)) (ht : (pc : Int) + off = (t : Int)) : xOk X pc (o_acm t (pc + 3)) := by
  intro K hK ls st h rc rs ho A H locs k n h1 h2 h3 h4 h5
  unfold o_acm at ho
  split at ho
  · rename_i y x r
    exact lv_acmp_eq (rx := some x) (ry := some y) hC.x hC.b hd ht (fun z => (hK _ _ _ _ _ _ (ho.1 (Option.some.inj z)) A H locs k n h1 h2 h3 h4 h5)) (fun z => (hK _ _ _ _ _ _ (ho.2 (fun w => z (congrArg some w))) A H locs k n h1 h2 h3 h4 h5))
  · exact lv_acmp_eq (rx := none) (ry := none) hC.x hC.b hd ht (fun _ => (hK _ _ _ _ _ _ ho A H locs k n h1 h2 h3 h4 h5)) (fun z => absurd rfl z)
  · rename_i y r
    exact lv_acmp_eq (rx := none) (ry := some y) hC.x hC.b hd ht (fun z => by cases z) (fun _ => (hK _ _ _ _ _ _ ho A H locs k n h1 h2 h3 h4 h5))
  · rename_i x r
    exact lv_acmp_eq (rx := some x) (ry := none) hC.x hC.b hd ht (fun z => by cases z) (fun _ => (hK _ _ _ _ _ _ ho A H locs k n h1 h2 h3 h4 h5))
  · exact ho.elim
theorem ok_acmpne (hC : xCx X cc own nL d) {off : Int} {t : Nat} (hd : decode cc pc = .ok (.if_acmp .ne off, 3)) (ht : (pc : Int) + off = (t : Int)) : xOk X pc (o_acm (pc + 3) t) := by
  intro K hK ls st h rc rs ho A H locs k n h1 h2 h3 h4 h5
  unfold o_acm at ho
  split at ho
  · rename_i y x r
    exact lv_acmp_ne (rx := some x) (ry := some y) hC.x hC.b hd ht (fun z => (hK _ _ _ _ _ _ (ho.2 (fun w => z (congrArg some w))) A H locs k n h1 h2 h3 h4 h5)) (fun z => (hK _ _ _ _ _ _ (ho.1 (Option.some.inj z)) A H locs k n h1 h2 h3 h4 h5))
  · exact lv_acmp_ne (rx := none) (ry := none) hC.x hC.b hd ht (fun z => absurd rfl z) (fun _ => (hK _ _ _ _ _ _ ho A H locs k n h1 h2 h3 h4 h5))
  · rename_i y r
    exact lv_acmp_ne (rx := none) (ry := some y) hC.x hC.b hd ht (fun _ => (hK _ _ _ _ _ _ ho A H locs k n h1 h2 h3 h4 h5)) (fun z => by cases z)
  · rename_i x r
    exact lv_acmp_ne (rx := some x) (ry := none) hC.x hC.b hd ht (fun _ => (hK _ _ _ _ _ _ ho A H locs k n h1 h2 h3 h4 h5)) (fun z => by cases z)
  · exact ho.elim
def xsw : List (Int32 × Nat) → Nat → Int32 → (Nat → Prop) → Prop
  | [], t, _, k => k t
  | q :: l, t, x, k => (x = q.1 → k q.2) ∧ (¬ x = q.1 → xsw l t x k)
theorem xsw_or : ∀ {l : List (Int32 × Nat)} {t : Nat} {x : Int32} {k : Nat → Prop}, xsw l t x k → (∃ (i : Nat) (q : Int32 × Nat), l[i]? = some q ∧ x = q.1 ∧ k q.2) ∨ ((∀ q ∈ l, ¬ x = q.1) ∧ k t)
  | [], _, _, _, h => Or.inr ⟨fun q hq => (by cases hq), h⟩
  | q :: l, t, x, k, h => by
    by_cases z : x = q.1
    · exact Or.inl ⟨0, q, rfl, z, h.1 z⟩
    · rcases xsw_or (h.2 z) with ⟨i, q', h1, h2, h3⟩ | ⟨h1, h2⟩
      · exact Or.inl ⟨i + 1, q', h1, h2, h3⟩
      · exact Or.inr ⟨fun a ha => by
          rcases List.mem_cons.mp ha with rfl | ha
          · exact z
          · exact h1 a ha, h2⟩
def o_sw (l : List (Int32 × Nat)) (t : Nat) : xOp := fun K ls st h rc rs => match st with
  | .int x :: r => xsw l t x (fun q => K q ls r h rc rs)
  | _ => False
theorem ok_table (hC : xCx X cc own nL d) {dflt lo hi : Int} {offs : Array Int} {len t : Nat} (l : List (Int32 × Nat)) (hd : decode cc pc = .ok (.tableswitch dflt lo hi offs, len)) (ht : (pc : Int) + dflt = (t : Int))
    (hl : (List.range l.length).all (fun i => decide ((l.getD i (0, 0)).1.toInt = lo + i) && decide ((offs[i]?).map (fun o => (pc : Int) + o) = some (((l.getD i (0, 0)).2 : Nat) : Int))) = true) (hn : lo + l.length = hi + 1) : xOk X pc (o_sw l t) := by
  intro K hK ls st h rc rs ho A H locs k n h1 h2 h3 h4 h5
  unfold o_sw at ho
  split at ho
  · rename_i x r
    rcases xsw_or ho with ⟨i, q, e1, e2, e3⟩ | ⟨e1, e2⟩
    · have hi' : i < l.length := (List.getElem?_eq_some_iff.mp e1).1
      have e4 := List.all_eq_true.mp hl i (List.mem_range.mpr hi')
      simp only [Bool.and_eq_true, decide_eq_true_eq] at e4
      have e5 : l.getD i (0, 0) = q := by simp [List.getD, e1]
      rw [e5] at e4
      obtain ⟨e6, e7⟩ := e4
      cases e8 : offs[i]? with
      | none => rw [e8] at e7; cases e7
      | some o =>
        rw [e8] at e7
        have e9 : (pc : Int) + o = (q.2 : Int) := Option.some.inj e7
        refine lv_tableIn hC.x hC.b hd (by rw [e2, e6]; omega) (by rw [e2, e6]; omega) (off := o) ?_ e9 (hK _ _ _ _ _ _ e3 A H locs k n h1 h2 h3 h4 h5)
        rw [e2, e6, show (lo + (i : Int) - lo).toNat = i by omega]
        exact e8
    · refine lv_tableOut hC.x hC.b hd ?_ ht (hK _ _ _ _ _ _ e2 A H locs k n h1 h2 h3 h4 h5)
      by_cases z : x.toInt < lo ∨ hi < x.toInt
      · exact z
      · exfalso
        have z1 : (x.toInt - lo).toNat < l.length := by omega
        have e4 := List.all_eq_true.mp hl _ (List.mem_range.mpr z1)
        simp only [Bool.and_eq_true, decide_eq_true_eq] at e4
        refine e1 _ (List.getElem_mem z1) (Int32.toInt_inj.mp ?_)
        have e5 : l.getD (x.toInt - lo).toNat (0, 0) = l[(x.toInt - lo).toNat] := by simp [List.getD, z1]
        rw [← e5, e4.1]
        omega
  · exact ho.elim
theorem ok_lookup (hC : xCx X cc own nL d) {dflt : Int} {ps : Array (Int × Int)} {len t : Nat} (l : List (Int32 × Nat)) (hd : decode cc pc = .ok (.lookupswitch dflt ps, len)) (ht : (pc : Int) + dflt = (t : Int))
    (hp : (ps.toList.zip (ps.toList.drop 1)).all (fun (a, next) => a.1 < next.1) = true) (hl : ps.toList = l.map (fun q => (q.1.toInt, (q.2 : Int) - (pc : Int)))) : xOk X pc (o_sw l t) := by
  intro K hK ls st h rc rs ho A H locs k n h1 h2 h3 h4 h5
  unfold o_sw at ho
  split at ho
  · rename_i x r
    have hgo : ∀ l : List (Int32 × Nat), xsw l t x (fun q => K q ls r h rc rs) → ∃ (off : Int) (tgt : Nat), Op.lookupswitch.offset (l.map (fun q => (q.1.toInt, (q.2 : Int) - (pc : Int)))) dflt x.toInt = off ∧ (pc : Int) + off = (tgt : Int) ∧ K tgt ls r h rc rs := by
      intro l
      induction l with
      | nil => intro z; exact ⟨dflt, t, rfl, ht, z⟩
      | cons q l ih =>
        intro z
        by_cases e : x = q.1
        · refine ⟨(q.2 : Int) - (pc : Int), q.2, ?_, by omega, z.1 e⟩
          rw [List.map_cons, Op.lookupswitch.offset_cons, if_pos (by rw [e])]
        · obtain ⟨off, tgt, e1, e2, e3⟩ := ih (z.2 e)
          exact ⟨off, tgt, by rw [List.map_cons, lv_osw e rfl]; exact e1, e2, e3⟩
    obtain ⟨off, tgt, e1, e2, e3⟩ := hgo l ho
    exact lv_lookup hC.x hC.b hd hp (by rw [hl]; exact e1) e2 (hK _ _ _ _ _ _ e3 A H locs k n h1 h2 h3 h4 h5)
  · exact ho.elim
end XOPS
