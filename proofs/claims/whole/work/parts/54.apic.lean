/-! THE CLASS, 3: end, place, found, word, count -/
section
variable {Zh : xH}
def aEnd (A : AS) (n : Int32) : Option Int32 × AS := if n < 0 ∨ nI A.tp.length < n then (none, A) else (some n, A.wTp (A.tp.take n.toNatClampNeg))
/-- the object's number fields alone change -/
theorem scQ.set {D : xD} {h : xH} {sc rd so sy : Nat} {K : CK} {A A' : AS} {G : SG} (Q : scQ Zh D h sc K A rd so sy G) (h1 : A'.2 = A.2) (hp : A'.pl = A.pl) (ht : A'.tp ++ A.tp.drop A'.tp.length = A.tp) (ho : A'.ou ++ A.ou.drop A'.ou.length = A.ou) (hf : A'.fo ++ A.fo.drop A'.fo.length = A.fo) (ok : AOk A') : scQ Zh D (xset h sc (0, scV K A' rd so sy)) sc K A' rd so sy G := by
  obtain ⟨T, O, fv, rv, hv, v0, v1, r1, ⟨r2, r3, r3'⟩, ⟨r4, r5, r5'⟩, ⟨r6, r7⟩, r8, r9, r11, r13, r14, r15, r16, r17⟩ := Q
  obtain ⟨⟨n1, n2, n3, n4, n5, n6⟩, -⟩ := sc_ne r1 r2 r4 r6 r8 r9.1 r11.1
  have k : gk (bK K) h (xset h sc (0, scV K A' rd so sy)) := (gk.refl _ _).put r1 (ng0 (Or.inl rfl))
  have e1 : A'.ts = A.ts := by show A'.2.1.1 = A.2.1.1; rw [h1]
  have e2 : A'.S = A.S := by show A'.2.1.2 = A.2.1.2; rw [h1]
  have e3 : A'.ty = A.ty := by show A'.2.2.1 = A.2.2.1; rw [h1]
  have e4 : A'.rs = A.rs := by show A'.2.2.2.1 = A.2.2.2.1; rw [h1]
  have e5 : A'.ss = A.ss := by show A'.2.2.2.2.1 = A.2.2.2.2.1; rw [h1]
  have e6 : A'.ns = A.ns := by show A'.2.2.2.2.2 = A.2.2.2.2.2; rw [h1]
  have f : ∀ {q d}, h q = some d → q ≠ sc → xset h sc (0, scV K A' rd so sy) q = some d := fun {q d} e w => xst2 w e
  have et : A'.tp ++ (A.tp.drop A'.tp.length ++ T) = A.tp ++ T := by rw [← List.append_assoc, ht]
  have eo : A'.ou ++ (A.ou.drop A'.ou.length ++ O) = A.ou ++ O := by rw [← List.append_assoc, ho]
  have ef : A'.fo.map (fun k => Value.int (nI k)) ++ ((A.fo.drop A'.fo.length).map (fun k => Value.int (nI k)) ++ fv) = A.fo.map (fun k => Value.int (nI k)) ++ fv := by rw [← List.append_assoc, ← List.map_append, hf]
  refine scQ.of (T := A.tp.drop A'.tp.length ++ T) (O := A.ou.drop A'.ou.length ++ O) (fv := (A.fo.drop A'.fo.length).map (fun k => .int (nI k)) ++ fv) k r14 (by rw [e1, e2]; exact r15) (by rw [e3, e4, e5, e6]; exact r16) (xset_same _ _ _) ⟨by rw [et]; exact f r2 n1, by rw [et]; exact r3, (r17.1.2.drop _).app r3'⟩ ⟨by rw [eo]; exact f r4 n2, by rw [eo]; exact r5, (r17.2.1.2.drop _).app r5'⟩ ⟨by rw [ef]; exact f r6 n3, ?_⟩ (by rw [hp]; exact f r8 n4) ⟨f r9.1 n5, r9.2⟩ ⟨f r11.1 n6, r11.2⟩ r13 ok
  have := congrArg List.length hf
  rw [List.length_append] at this
  rw [List.length_append, List.length_map]
  omega
set_option maxRecDepth 20000 in
theorem c_end {l : Launch} {D : xD} {h : xH} {sc : Nat} {K : CK} {A : AS} {n : Int32} (R : scR Zh D h sc K A) : xMet l D 6 y_Sc_end [.ref sc, .int n] h 1 6 (fun o h' => oI 15 (aEnd A n).1 o ∧ scR Zh D h' sc K (aEnd A n).2) := by
  have R' := R
  obtain ⟨rd, so, sy, G, Q⟩ := R
  obtain ⟨T, O, fv, rv, hv, v0, v1, r1, ⟨r2, r3, r3'⟩, -, -, -, -, -, -, -, -, -, r17⟩ := id Q
  have hl : A.tp.length ≤ 8192 := r17.1.1
  refine m_Sc_end (Nat.le_of_ble_eq_true rfl) fun X hl hD hP hA => ?_
  subst hl hD
  rcases pk_ix n (n := A.tp.length + 1) (by omega) with z | z | ⟨j, hj, rfl⟩
  · have ea : aEnd A n = (none, A) := if_pos (Or.inl z)
    rw [ea] at hP
    refine xgo [] 60 hA ?_
    refine xt z ?_
    refine xth (K := fun _ _ _ _ _ _ => True) (ls := []) (st := []) rfl (Nat.le_refl _) (Nat.le_refl _) fun w hw => xP hP ⟨⟨w, rfl⟩, R'.new hw⟩
  · have z0 : ¬ n < 0 := fun y => absurd (Int32.lt_of_le_of_lt z y) (nI_neg (by omega))
    have z1 : nI A.tp.length < n := Int32.lt_of_lt_of_le (nI_lt (Nat.lt_succ_self _) (by omega)) z
    have z2 : ¬ n ≤ nI A.tp.length := fun y => Int32.lt_irrefl (Int32.lt_of_lt_of_le z1 y)
    have ea : aEnd A n = (none, A) := if_pos (Or.inr z1)
    rw [ea] at hP
    refine xgo [] 60 hA ?_
    refine xf z0 ?_
    refine xg r1 (by rfl) ?_
    refine xf z2 ?_
    refine xth (K := fun _ _ _ _ _ _ => True) (ls := []) (st := []) rfl (Nat.le_refl _) (Nat.le_refl _) fun w hw => xP hP ⟨⟨w, rfl⟩, R'.new hw⟩
  · have ea : aEnd A (nI j) = (some (nI j), A.wTp (A.tp.take j)) := by
      unfold aEnd
      rw [if_neg, nI_clamp (by omega)]
      rintro (y | y)
      · exact nI_neg (by omega) y
      · have := (nI_ltI (by omega) (by omega)).mp y; omega
    rw [ea] at hP
    refine xgo [] 60 hA ?_
    refine xf (nI_neg (by omega)) ?_
    refine xg r1 (by rfl) ?_
    refine xt (nI_le (by omega) (by omega)) ?_
    have el : (A.tp.take j).length = j := by rw [List.length_take]; omega
    refine xp (fs' := scW K (nI j) (nI A.ou.length) (nI A.fo.length) (nI A.aw) rd so sy) r1 rfl rfl ?_
    refine xP hP ⟨rfl, rd, so, sy, G, ?_⟩
    have := Q.set (A' := A.wTp (A.tp.take j)) rfl rfl (by show A.tp.take j ++ A.tp.drop (A.tp.take j).length = A.tp; rw [el, List.take_append_drop]) (by show A.ou ++ A.ou.drop A.ou.length = A.ou; rw [List.drop_length, List.append_nil]) (by show A.fo ++ A.fo.drop A.fo.length = A.fo; rw [List.drop_length, List.append_nil]) ⟨⟨by show (A.tp.take j).length ≤ 8192; omega, r17.1.2.take j⟩, r17.2⟩
    have e2 : scV K (A.wTp (A.tp.take j)) rd so sy = scW K (nI j) (nI A.ou.length) (nI A.fo.length) (nI A.aw) rd so sy := by
      show scW K (nI (A.tp.take j).length) _ _ _ _ _ _ = _
      rw [el]
    rw [e2] at this
    exact this
set_option maxRecDepth 20000 in
theorem c_place {l : Launch} {D : xD} {h : xH} {sc : Nat} {K : CK} {A : AS} (R : scR Zh D h sc K A) : xMet l D 0 y_Sc_place [.ref sc] h 0 0 (fun o h' => h' = h ∧ o = .inl (some (.int (plI A.pl)))) := by
  obtain ⟨rd, so, sy, G, T, O, fv, rv, hv, v0, v1, r1, -, -, -, r8, -⟩ := R
  refine m_Sc_place (Nat.le_of_ble_eq_true rfl) fun X hl hD hP hA => ?_
  subst hl hD
  refine xgo [] 60 hA ?_
  refine xg r1 (by rfl) ?_
  refine xg r8 (by rfl) ?_
  exact xP hP ⟨rfl, rfl⟩
def aFound (A : AS) (i : Int32) : Option Int32 := if i < 0 ∨ nI A.fo.length ≤ i then none else some (nI (A.fo.getD i.toNatClampNeg 0))
set_option maxRecDepth 20000 in
theorem c_found {l : Launch} {D : xD} {h : xH} {sc : Nat} {K : CK} {A : AS} {i : Int32} (R : scR Zh D h sc K A) : xMet l D 6 y_Sc_found [.ref sc, .int i] h 1 6 (fun o h' => oI 14 (aFound A i) o ∧ scR Zh D h' sc K A) := by
  have R' := R
  obtain ⟨rd, so, sy, G, Q⟩ := R
  obtain ⟨T, O, fv, rv, hv, v0, v1, r1, -, -, ⟨r6, r7⟩, -, -, -, -, -, -, -, r17⟩ := id Q
  have hl : A.fo.length ≤ 500 := r17.2.2.1.1
  refine m_Sc_found (Nat.le_of_ble_eq_true rfl) fun X hl hD hP hA => ?_
  subst hl hD
  rcases pk_ix i (n := A.fo.length) (by omega) with z | z | ⟨j, hj, rfl⟩
  · have ea : aFound A i = none := if_pos (Or.inl z)
    rw [ea] at hP
    refine xgo [] 60 hA ?_
    refine xt z ?_
    refine xth (K := fun _ _ _ _ _ _ => True) (ls := []) (st := []) rfl (Nat.le_refl _) (Nat.le_refl _) fun w hw => xP hP ⟨⟨w, rfl⟩, R'.new hw⟩
  · have z0 : ¬ i < 0 := fun y => absurd (Int32.lt_of_le_of_lt z y) (nI_neg (by omega))
    have z2 : ¬ i < nI A.fo.length := fun y => Int32.lt_irrefl (Int32.lt_of_lt_of_le y z)
    have ea : aFound A i = none := if_pos (Or.inr z)
    rw [ea] at hP
    refine xgo [] 60 hA ?_
    refine xf z0 ?_
    refine xg r1 (by rfl) ?_
    refine xf z2 ?_
    refine xth (K := fun _ _ _ _ _ _ => True) (ls := []) (st := []) rfl (Nat.le_refl _) (Nat.le_refl _) fun w hw => xP hP ⟨⟨w, rfl⟩, R'.new hw⟩
  · have ea : aFound A (nI j) = some (nI A.fo[j]) := by
      unfold aFound
      rw [if_neg, nI_clamp (by omega)]
      · simp [hj]
      · rintro (y | y)
        · exact nI_neg (by omega) y
        · have := (nI_leI (by omega) (by omega)).mp y; omega
    rw [ea] at hP
    refine xgo [] 60 hA ?_
    refine xf (nI_neg (by omega)) ?_
    refine xg r1 (by rfl) ?_
    refine xt (nI_lt hj (by omega)) ?_
    refine xg r1 (by rfl) ?_
    refine xld (v := .int (nI A.fo[j])) (Or.inl r6) (by rfl) ?_ ?_
    · rw [List.getElem?_append_left (by rw [List.length_map]; exact hj), List.getElem?_map, List.getElem?_eq_getElem hj]; rfl
    · exact xP hP ⟨rfl, R'⟩
/-- eight bytes as a number -/
def wd (o : List Nat) (j : Nat) : Nat → Int64
  | 0 => 0
  | n + 1 => (wd o j n) <<< 8 ||| (if j + n < o.length then nI (ch o (j + n)) else 0).toInt64
def aWord (A : AS) (i : Int32) : Option Int64 := if i < 0 ∨ nI A.ou.length ≤ i then none else some (wd A.ou i.toNatClampNeg 8)
def oL64 (ci : Nat) (q : Option Int64) (o : xO) : Prop := match q with
  | none => ∃ e, o = .inr (ci, e)
  | some v => o = .inl (some (.long v))
set_option maxRecDepth 20000 in
theorem c_word {l : Launch} {D : xD} {h : xH} {sc : Nat} {K : CK} {A : AS} {i : Int32} (R : scR Zh D h sc K A) : xMet l D 6 y_Sc_word [.ref sc, .int i] h 1 6 (fun o h' => oL64 14 (aWord A i) o ∧ scR Zh D h' sc K A) := by
  have R' := R
  obtain ⟨rd, so, sy, G, Q⟩ := R
  obtain ⟨T, O, fv, rv, hv, v0, v1, r1, -, ⟨r4, r5, r5'⟩, -, -, -, -, -, -, -, -, r17⟩ := id Q
  have hl : A.ou.length ≤ 16384 := r17.2.1.1
  refine m_Sc_word (Nat.le_of_ble_eq_true rfl) fun X hl hD hP hA => ?_
  subst hl hD
  rcases pk_ix i (n := A.ou.length) (by omega) with z | z | ⟨j, hj, rfl⟩
  · have ea : aWord A i = none := if_pos (Or.inl z)
    rw [ea] at hP
    refine xgo [] 60 hA ?_
    refine xt z ?_
    refine xth (K := fun _ _ _ _ _ _ => True) (ls := []) (st := []) rfl (Nat.le_refl _) (Nat.le_refl _) fun w hw => xP hP ⟨⟨w, rfl⟩, R'.new hw⟩
  · have z0 : ¬ i < 0 := fun y => absurd (Int32.lt_of_le_of_lt z y) (nI_neg (by omega))
    have z2 : ¬ i < nI A.ou.length := fun y => Int32.lt_irrefl (Int32.lt_of_lt_of_le y z)
    have ea : aWord A i = none := if_pos (Or.inr z)
    rw [ea] at hP
    refine xgo [] 60 hA ?_
    refine xf z0 ?_
    refine xg r1 (by rfl) ?_
    refine xf z2 ?_
    refine xth (K := fun _ _ _ _ _ _ => True) (ls := []) (st := []) rfl (Nat.le_refl _) (Nat.le_refl _) fun w hw => xP hP ⟨⟨w, rfl⟩, R'.new hw⟩
  · have ea : aWord A (nI j) = some (wd A.ou j 8) := by
      unfold aWord
      rw [if_neg, nI_clamp (by omega)]
      rintro (y | y)
      · exact nI_neg (by omega) y
      · have := (nI_leI (by omega) (by omega)).mp y; omega
    rw [ea] at hP
    have key : ∀ n k : Nat, k + n = 8 → xG X 27 [(4, .int (nI (j + k))), (2, .long (wd A.ou j k)), (0, .ref sc), (1, .int (nI j))] [] h 1 6 := by
      intro n
      induction n with
      | zero =>
        intro k hk
        have hk : k = 8 := by omega
        subst hk
        refine xgo [] 60 hA ?_
        refine xt (by rw [show nI j + 8 = nI (j + 8) from nI_add j 8]; exact Int32.le_refl _) ?_
        exact xP hP ⟨rfl, R'⟩
      | succ n ih =>
        intro k hk
        have nxt : ∀ v : Int32, v = (if j + k < A.ou.length then nI (ch A.ou (j + k)) else 0) → xG X 64 [(4, .int (nI (j + k))), (2, .long (wd A.ou j k)), (0, .ref sc), (1, .int (nI j))] [.int v, .long (wd A.ou j k <<< ((8 : Int32).toInt64 &&& 63))] h 1 6 := by
          intro v hv
          refine xgo [27] 60 hA ?_
          have := ih (k + 1) (by omega)
          rw [show wd A.ou j (k + 1) = wd A.ou j k <<< ((8 : Int32).toInt64 &&& 63) ||| v.toInt64 by rw [hv]; rfl, show j + (k + 1) = j + k + 1 from rfl, ← nI_1] at this
          exact this.locs (by simp)
        refine xgo [64] 60 hA ?_
        refine xf (fun y => by
          rw [show nI j + 8 = nI (j + 8) from nI_add j 8] at y
          have := (nI_leI (by omega) (by omega)).mp y; omega) ?_
        refine xg r1 (by rfl) ?_
        by_cases hlt : j + k < A.ou.length
        · refine xf (fun y => by have := (nI_leI (by omega) (by omega)).mp y; omega) ?_
          refine xg r1 (by rfl) ?_
          have hb := r17.2.1.2.lt hlt
          have hch : ch (A.ou ++ O) (j + k) = ch A.ou (j + k) := by rw [ch_in (by rw [List.length_append]; omega), ch_in hlt, List.getElem_append_left hlt]
          refine xld (Or.inl r4) (by rfl) (txv_at (by rw [r5]; omega)) ?_
          rw [hch]
          exact nxt _ (by rw [if_pos hlt]; exact (sb_byte _ hb).1)
        · refine xt (nI_le (by omega) (by omega)) ?_
          exact nxt 0 (by rw [if_neg hlt])
    refine xgo [27] 60 hA ?_
    refine xf (nI_neg (by omega)) ?_
    refine xg r1 (by rfl) ?_
    refine xt (nI_lt hj (by omega)) ?_
    exact key 8 0 rfl
end
