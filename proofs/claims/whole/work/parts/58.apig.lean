/-! THE CLASS, 7: properties -/
section
variable {Zh : xH}
def shF (shs : List Nat) (n : Nat) : Nat := shs.foldr (fun s n => min (n * s / 100) 9999999) n
/-- the value that is told: its kind, what is out -/
def vlO (ty : List Nat) (q : Option (TD × Nat)) (shs : List Nat) : Nat × List Nat := match q with
  | none => (0, [])
  | some p => if p.1.2.1 = 2 then (2, dec7 (shF shs p.1.2.2.2.1)) else if shs = [] then (p.1.2.1, sub ty p.1.2.2.1) else (0, [])
theorem shF_lt : ∀ (shs : List Nat) {n : Nat}, n < 10000000 → shF shs n < 10000000
  | [], _, h => h
  | s :: shs, n, _ => by
    show min (shF shs n * s / 100) 9999999 < 10000000
    omega
theorem shF_drop (shs : List Nat) (n : Nat) {k : Nat} (h : k < shs.length) : shF (shs.drop k) n = min (shF (shs.drop (k + 1)) n * shs[k] / 100) 9999999 := by
  rw [List.drop_eq_getElem_cons h]; rfl
theorem sub_le (t : List Nat) (a : Nat × Nat) : (sub t a).length ≤ t.length := by
  unfold sub
  rw [List.length_take, List.length_drop]; omega
theorem scQ.ou0 {D : xD} {h : xH} {sc rd so sy : Nat} {K : CK} {A : AS} {G : SG} (Q : scQ Zh D h sc K A rd so sy G) : scQ Zh D (xset h sc (0, scV K (A.wOu []) rd so sy)) sc K (A.wOu []) rd so sy G := by
  obtain ⟨-, -, -, -, -, -, -, -, -, -, -, -, -, -, -, -, -, -, r17⟩ := id Q
  exact Q.set (A' := A.wOu []) rfl rfl (by show A.tp ++ A.tp.drop A.tp.length = A.tp; simp) (by show [] ++ A.ou.drop 0 = A.ou; simp) (by show A.fo ++ A.fo.drop A.fo.length = A.fo; simp) ⟨r17.1, ⟨by show 0 ≤ 16384; omega, fun b hb => by cases hb⟩, r17.2.2⟩
set_option maxRecDepth 20000 in
theorem c_putValue {l : Launch} {D : xD} {h : xH} {sc rd so sy : Nat} {K : CK} {A : AS} {G : SG} {v : Value} {q : Option (TD × Nat)} {shs : List Nat} {hv : List Value} (Q : scQ Zh D h sc K A rd so sy G) (T : tdO (bK K) h A.ty v q) (hsh : h K.2.2.2.2 = some (100, hv)) (hs : ∀ k, ∀ hk : k < shs.length, hv[k]? = some (.int (nI shs[k]))) (hs2 : ∀ s ∈ shs, s ≤ 1000) (hs3 : shs.length ≤ 20) (hk : ∀ p, q = some p → 1 ≤ p.1.2.1 ∧ p.1.2.1 ≤ 3) : xMet l D 3 y_Sc_putValue [.ref sc, v, .int (nI shs.length)] h 0 0 (fun o h' => o = .inl (some (.int (nI (vlO A.ty q shs).1))) ∧ scQ Zh D h' sc K (A.wOu (vlO A.ty q shs).2) rd so sy G) := by
  obtain ⟨T0, O, fv, rv, hv', v0, v1, r1, ⟨r2, r3⟩, ⟨r4, r5, r5'⟩, r6, r8, r9, r11, r13, r14, r15, r16, r17⟩ := id Q
  have Q0 := Q.ou0
  have n6 : K.2.2.2.2 ≠ sc := xne' hsh r1 (by decide)
  cases q with
  | none =>
    have T : v = .null := T
    subst T
    refine m_Sc_putValue (Nat.le_of_ble_eq_true rfl) fun X hl hD hP hA => ?_
    subst hl hD
    refine xgo [] 60 hA ?_
    refine xp (fs' := scV K (A.wOu []) rd so sy) r1 rfl rfl ?_
    exact xP hP ⟨rfl, Q0⟩
  | some p =>
    obtain ⟨y, rfl, tv, t1, t2, t3, t4⟩ := T
    obtain ⟨k1, k2⟩ := hk p rfl
    have hyc : y ≠ sc := xne' t1 r1 (by decide)
    have t1' := xst2 (c := (0, scV K (A.wOu []) rd so sy)) hyc t1
    refine m_Sc_putValue (Nat.le_of_ble_eq_true rfl) fun X hl hD hP hA => ?_
    subst hl hD
    -- from 23 on: the kind is a number's, or no share was told
    have l23 : (p.1.2.1 = 2 ∨ shs = []) → xG X 23 [(0, .ref sc), (1, .ref y), (2, .int (nI shs.length))] [] (xset h sc (0, scV K (A.wOu []) rd so sy)) 0 0 := by
      intro hor
      by_cases h2 : p.1.2.1 = 2
      · have ev : vlO A.ty (some p) shs = (2, dec7 (shF shs p.1.2.2.2.1)) := if_pos h2
        rw [ev] at hP
        have fold : ∀ (k : Nat) (ls : xL), k ≤ shs.length → (∀ q ∈ [(5, Value.int (nI k - 1)), (3, .long (lN (shF (shs.drop k) p.1.2.2.2.1))), (0, .ref sc)], q ∈ ls) → xG X 56 ls [] (xset h sc (0, scV K (A.wOu []) rd so sy)) 0 0 := by
          intro k
          induction k with
          | zero =>
            intro ls hk hls
            refine xG.locs ?_ hls
            refine xgo [] 60 hA ?_
            refine xt (by decide) ?_
            refine xcV (xset_same _ _ _) (c_putNumber (n := shF shs p.1.2.2.2.1) Q0 (shF_lt shs t3)) (by rfl) (by rw [lN_i]; rfl) (by rfl) (Nat.zero_le _) (Nat.zero_le _) ?_
            rintro o h' ⟨rfl, Q2⟩
            exact xP hP ⟨rfl, Q2⟩
          | succ k ih =>
            intro ls hk hls
            refine xG.locs ?_ hls
            have ek : nI (k + 1) - 1 = nI k := by rw [← nI_1]; exact Int32.add_sub_cancel _ _
            rw [ek]
            have hlt := shF_lt (shs.drop (k + 1)) t3
            have hsk := hs2 _ (List.getElem_mem (l := shs) (n := k) (by omega))
            have hm : shF (shs.drop (k + 1)) p.1.2.2.2.1 * shs[k] < 2 ^ 63 := Nat.lt_of_le_of_lt (Nat.mul_le_mul (Nat.le_of_lt hlt) hsk) (by decide)
            have hdl : shF (shs.drop (k + 1)) p.1.2.2.2.1 * shs[k] / 100 < 2 ^ 63 := Nat.lt_of_le_of_lt (Nat.div_le_self _ _) hm
            refine xgo [56] 60 hA ?_
            refine xf (nI_neg (by omega)) ?_
            refine xg (xset_same _ _ _) (by rfl) ?_
            refine xld (Or.inl (xst2 n6 hsh)) (by rfl) (hs k (by omega)) ?_
            refine And.intro (by decide) ?_
            have := ih [(5, .int (nI k + (-1))), (3, .long (if (9999999 : Int64) < lN (shF (shs.drop (k + 1)) p.1.2.2.2.1) * (nI shs[k]).toInt64 / 100 then 9999999 else lN (shF (shs.drop (k + 1)) p.1.2.2.2.1) * (nI shs[k]).toInt64 / 100)), (0, .ref sc)] (by omega) (by
              have e5 : (if (9999999 : Int64) < lN (shF (shs.drop (k + 1)) p.1.2.2.2.1) * (nI shs[k]).toInt64 / 100 then 9999999 else lN (shF (shs.drop (k + 1)) p.1.2.2.2.1) * (nI shs[k]).toInt64 / 100) = lN (shF (shs.drop k) p.1.2.2.2.1) := by
                rw [nI_l (by omega), lN_mul, show lN (shF (shs.drop (k + 1)) p.1.2.2.2.1 * shs[k]) / 100 = lN (shF (shs.drop (k + 1)) p.1.2.2.2.1 * shs[k] / 100) from pk_lDiv (b := 100) hm (by decide) (by decide), shF_drop (k := k) shs _ (by omega)]
                show (if lN 9999999 < lN (shF (shs.drop (k + 1)) p.1.2.2.2.1 * shs[k] / 100) then lN 9999999 else lN (shF (shs.drop (k + 1)) p.1.2.2.2.1 * shs[k] / 100)) = _
                by_cases z : 9999999 < shF (shs.drop (k + 1)) p.1.2.2.2.1 * shs[k] / 100
                · rw [if_pos ((pk_lLT (a := 9999999) (by decide) hdl).mpr z), Nat.min_eq_right (by omega)]
                · rw [if_neg (fun w => z ((pk_lLT (a := 9999999) (by decide) hdl).mp w)), Nat.min_eq_left (by omega)]
              rw [e5, Int32.sub_eq_add_neg]; simp)
            exact this.locs (by simp)
        refine xgo [56] 60 hA ?_
        refine xg t1' (by rfl) ?_
        refine xt (by show nI p.1.2.1 = 2; rw [h2]; rfl) ?_
        refine xg t1' (by rfl) ?_
        have := fold shs.length [(5, .int (nI shs.length - 1)), (3, .long (nI p.1.2.2.2.1).toInt64), (0, .ref sc), (1, .ref y), (2, .int (nI shs.length))] (Nat.le_refl _) (by
          rw [nI_l (by omega), List.drop_length]; simp [shF])
        exact this
      · have hs0 : shs = [] := hor.resolve_left h2
        subst hs0
        have ev : vlO A.ty (some p) [] = (p.1.2.1, sub A.ty p.1.2.2.1) := by
          show (if p.1.2.1 = 2 then _ else if ([] : List Nat) = [] then _ else _) = _
          rw [if_neg h2, if_pos rfl]
        rw [ev] at hP
        rw [if_neg h2] at t2
        obtain ⟨s, rfl, S⟩ := t2
        have S' : isS (bK K) (xset h sc (0, scV K (A.wOu []) rd so sy)) s (sub A.ty p.1.2.2.1) := S.gd ((gk.refl _ _).put r1 (ng0 (Or.inl rfl)))
        refine xgo [] 60 hA ?_
        refine xg t1' (by rfl) ?_
        refine xf (fun z => h2 ((nI_eq (b := 2) (by omega) (by omega)).mp z)) ?_
        refine xg t1' (by rfl) ?_
        have hl := sub_le A.ty p.1.2.2.1
        have hty := r17.2.2.2.1.2
        refine xcV (xset_same _ _ _) (c_putSlice Q0 S' (by omega)) (by rfl) (by rfl) (by rfl) (Nat.zero_le _) (Nat.zero_le _) ?_
        rintro o h' ⟨rfl, Q2, k2⟩
        refine xg (k2 _ _ t1' (gd.k rfl)) (by rfl) ?_
        exact xP hP ⟨rfl, Q2⟩
    refine xgo [23] 60 hA ?_
    refine xp (fs' := scV K (A.wOu []) rd so sy) r1 rfl rfl ?_
    refine xb (fun c => ?_) (fun c => ?_)
    · exact l23 (Or.inr (List.eq_nil_of_length_eq_zero (Nat.le_zero.mp ((nI_leI (b := 0) (by omega) (by omega)).mp c))))
    have c1 : shs ≠ [] := fun z => c (by rw [z]; decide)
    refine xg t1' (by rfl) ?_
    refine xb (fun c2 => ?_) (fun c2 => ?_)
    · exact l23 (Or.inl ((nI_eq (b := 2) (by omega) (by omega)).mp c2))
    · have h2 : p.1.2.1 ≠ 2 := fun z => c2 (by rw [z]; rfl)
      have ev : vlO A.ty (some p) shs = (0, []) := by unfold vlO; simp only []; rw [if_neg h2, if_neg c1]
      rw [ev] at hP
      exact xP hP ⟨rfl, Q0⟩
end
