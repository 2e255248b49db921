/-! THE CLASS, 12: select -/
section
variable {Zh : xH}
abbrev AS.wFo (A : AS) (f : List Nat) (w : Nat) : AS := ((A.tp, A.ou, f, w, A.pl), A.2)
theorem scQ.fo {D : xD} {h : xH} {sc r so sy i : Nat} {K : CK} {A : AS} {G : SG} (Q : scQ Zh D h sc K A r so sy G) (hl : A.fo.length < 500) (hi : i < 500) : ∃ fv, h K.2.2.1 = some (100, A.fo.map (fun k => Value.int (nI k)) ++ fv) ∧ (A.fo.map (fun k => Value.int (nI k)) ++ fv).length = 500 ∧ scQ Zh D (xset (xset h K.2.2.1 (100, (A.fo.map (fun k => Value.int (nI k)) ++ fv).set A.fo.length (.int (nI i)))) sc (0, scV K (A.wFo (A.fo ++ [i]) A.aw) r so sy)) sc K (A.wFo (A.fo ++ [i]) A.aw) r so sy G ∧ gk (bK K) h (xset (xset h K.2.2.1 (100, (A.fo.map (fun k => Value.int (nI k)) ++ fv).set A.fo.length (.int (nI i)))) sc (0, scV K (A.wFo (A.fo ++ [i]) A.aw) r so sy)) := by
  obtain ⟨T, O, fv, rv, hv', w0, w1, r1, ⟨r2, r3⟩, ⟨r4, r5⟩, ⟨r6, r7⟩, r8, ⟨r9, r10⟩, ⟨r11, r12⟩, r13, r14, r15, r16, r17⟩ := Q
  obtain ⟨⟨n1, n2, n3, n4, n5, n6⟩, ⟨n7, n8, n9, n10⟩, ⟨n11, n12, n13, n14⟩, ⟨n15, n16⟩, ⟨n17, n18⟩, n19⟩ := sc_ne r1 r2 r4 r6 r8 r9 r11
  obtain ⟨f0, fv', rfl⟩ : ∃ f0 fv', fv = f0 :: fv' := by
    cases fv with
    | nil => simp at r7; omega
    | cons a b => exact ⟨a, b, rfl⟩
  have es : (A.fo.map (fun k => Value.int (nI k)) ++ f0 :: fv').set A.fo.length (.int (nI i)) = (A.fo ++ [i]).map (fun k => Value.int (nI k)) ++ fv' := by
    rw [List.set_append_right _ _ (by rw [List.length_map]; exact Nat.le_refl _), List.length_map, Nat.sub_self]
    simp
  refine ⟨f0 :: fv', r6, by rw [List.length_append, List.length_map]; exact r7, ?_⟩
  rw [es]
  have k : gk (bK K) h (xset (xset h K.2.2.1 (100, (A.fo ++ [i]).map (fun k => Value.int (nI k)) ++ fv')) sc (0, scV K (A.wFo (A.fo ++ [i]) A.aw) r so sy)) := ((gk.refl _ _).put r6 (ng0 (Or.inr (Or.inr (Or.inl ⟨rfl, fun z => z.2.2.1 rfl⟩))))).put r1 (ng0 (Or.inl rfl))
  have f : ∀ {q d}, h q = some d → q ≠ K.2.2.1 → q ≠ sc → xset (xset h K.2.2.1 (100, (A.fo ++ [i]).map (fun k => Value.int (nI k)) ++ fv')) sc (0, scV K (A.wFo (A.fo ++ [i]) A.aw) r so sy) q = some d := fun {q d} e w1 w2 => xst2 w2 (xst2 w1 e)
  refine ⟨scQ.of (A := A.wFo (A.fo ++ [i]) A.aw) (fv := fv') k r14 r15 r16 (xset_same _ _ _) ⟨f r2 (Ne.symm n7) n1, r3⟩ ⟨f r4 (Ne.symm n11) n2, r5⟩ ⟨xst2 n3 (xset_same _ _ _), ?_⟩ (f r8 n15 n4) ⟨f r9 n16 n5, r10⟩ ⟨f r11 (Ne.symm r13.2) n6, r12⟩ r13 ⟨r17.1, r17.2.1, ⟨?_, ?_⟩, r17.2.2.2⟩, k⟩
  · show (A.fo ++ [i]).length + fv'.length = 500
    simp only [List.length_append, List.length_cons, List.length_nil] at r7 ⊢
    omega
  · show (A.fo ++ [i]).length ≤ 500
    rw [List.length_append]; show _ + 1 ≤ 500; omega
  · intro q hq
    rcases List.mem_append.mp hq with z | z
    · exact r17.2.2.1.2 q z
    · rw [List.mem_singleton.mp z]; exact hi
def aSelect (A : AS) : Option Int32 × AS := match pAsk A.tp with
  | .error w => (none, A.wTk.wPl (some w))
  | .ok q => (some (nI ((List.range A.S.n).filter (mt A.ts A.tp A.S q.1)).length), A.wTk.wFo ((List.range A.S.n).filter (mt A.ts A.tp A.S q.1)) (wgt q.1))
theorem filt_snoc (p : Nat → Bool) (k : Nat) : (List.range (k + 1)).filter p = (List.range k).filter p ++ (if p k = true then [k] else []) := by
  rw [List.range_succ, List.filter_append]
  congr 1
  cases h : p k <;> simp [h]
set_option maxRecDepth 20000 in
theorem c_select {l : Launch} {D : xD} {h : xH} {sc : Nat} {K : CK} {A : AS} (R : scR Zh D h sc K A) : xMet l D 11 y_Sc_select [.ref sc] h (44 * A.tp.length + 100) (551 * A.tp.length + 1200) (fun o h' => oI 16 (aSelect A).1 o ∧ scR Zh D h' sc K (aSelect A).2) := by
  obtain ⟨rd, so, sy, G, Q⟩ := R
  obtain ⟨T, O, fv, rv, hv', v0, v1, r1, ⟨r2, r3, r3'⟩, ⟨r4, r5⟩, ⟨r6, r7⟩, r8, ⟨r9, r10⟩, ⟨r11, r12⟩, r13, r14, r15, r16, r17⟩ := id Q
  have hBt : bytesOk A.tp := r17.1.2
  have htl : A.tp.length ≤ 8192 := r17.1.1
  have hn : A.S.n ≤ 500 := r17.2.2.2.2.1.1.1
  refine m_Sc_select (Nat.le_of_ble_eq_true rfl) fun X hl hD hP hA => ?_
  subst hl hD
  refine xgo [34] 60 hA ?_
  refine xcV r1 (c_takeTape Q) (by rfl) (by rfl) (by rfl) (by omega) (by omega) ?_
  rintro o h0 ⟨r, b, rfl, H0, hBb, Q0⟩
  obtain ⟨t, ht⟩ : ∃ t, t = A.tp := ⟨_, rfl⟩
  have hpS : aSelect A = match pAsk t with
    | .error w => (none, A.wTk.wPl (some w))
    | .ok q => (some (nI ((List.range A.S.n).filter (mt A.ts t A.S q.1)).length), A.wTk.wFo ((List.range A.S.n).filter (mt A.ts t A.S q.1)) (wgt q.1)) := by rw [ht]; rfl
  have hlt : A.tp.length = t.length := by rw [ht]
  rw [← ht] at H0 hBt
  have E0 : env X.D h0 := by
    obtain ⟨-, -, -, -, -, -, -, -, -, -, -, -, -, -, -, E, -⟩ := id Q0
    exact E.1
  have C0 : cx X.D h0 h0 r b t 0 [] := ⟨H0, E0, ⟨⟨_, H0.1⟩, H0.2.1⟩, fr.refl _ _, fun q hq => by cases hq⟩
  have bad : ∀ (w : Nat) (o : xO) (h' : xH), pAsk t = .error w → xEr r b w [] h0 o h' → X.P o h' := by
    intro w o h' e ⟨⟨x, hx⟩, ⟨i', hr⟩, f⟩
    rw [hpS, e] at hP
    exact xP hP ⟨⟨x, hx⟩, r, so, sy, G, Q0.rd (p := some w) f hr⟩
  have hcs := pSel_adv t 0
  have hk1 : ∀ K E, cst K E t.length 0 (pSel t 0) ≤ K * t.length + E := fun K E => by
    cases ex : pSel t 0 with
    | error w => rw [cst_er rfl, Nat.sub_zero]; exact Nat.le_refl _
    | ok q =>
      have := hcs q.1 q.2 ex
      rw [cst_ok (a := q.1) (j := q.2) rfl]
      have := Nat.mul_le_mul_left K (show q.2 - 0 ≤ t.length by omega)
      omega
  have c1 := hk1 32 64
  have c2 := hk1 200 400
  refine xn (by omega) (by omega) fun x hx => ?_
  obtain ⟨C1, -⟩ := C0.new (c := (8, [.null, .int 0])) hx rfl
  refine xcI (c_Se_init C1 List.mem_cons_self (xset_same _ _ _)) (by rfl) (by rfl) (by rfl) (by omega) (by omega) ?_
  rintro o h2 ⟨cl, ec, C2, -, L2, x2, rfl⟩
  refine xcV x2 (c_readSteps (B := bK K) C2 x2 L2 hBb) (by rfl) (by rfl) (by rfl) (by omega) (by omega) ?_
  intro o h3 q
  rcases C0.cs q with ⟨w, e1, z⟩ | ⟨sl, j, e1, C3, z3, f3, rfl, I3⟩
  · obtain ⟨ex, rfl⟩ := z.1
    exact bad w _ h3 (by rw [pAsk, pB_er e1]) z
  have I3' : isSl X.D (bK K) h3 t x sl := I3.ext (zz_le _ _ _)
  have hct : ch t (scan bl t j) ≤ 256 := H0.2.2.2.2.le _
  refine xcV C3.1.1 (c_sg C3) (by rfl) (by rfl) (by rfl) (Nat.zero_le _) (Nat.zero_le _) ?_
  rintro o h4 ⟨C4, z4, f4, -, rfl⟩
  refine xb (fun c => ?_) (fun c => ?_)
  rotate_left
  · have c3 : ¬ ch t (scan bl t j) = 256 := fun z => c ((cI_end hct).mpr z)
    refine xg C4.1.1 (by rfl) ?_
    refine xfail C4.1 (scan bl t j) (by rfl) rfl (by omega) (by omega) fun e h5 q => bad (scan bl t j) _ h5 (by rw [pAsk, pB_ok e1, if_neg c3]) (q.tr C4.2.2.2.1 (fun _ z => absurd z List.not_mem_nil))
  have c3 := (cI_end hct).mp c
  have eA : pAsk t = .ok (sl, j) := by rw [pAsk, pB_ok e1, if_pos c3]
  rw [hpS, eA] at hP
  have f4' : fr [r] h0 h4 := C4.2.2.2.1
  have Q4 := Q0.rd (p := none) f4' C4.1.1
  have I4 : isSl X.D (bK K) h4 t x sl := I3'.gd ((Q0.rd (p := none) C3.2.2.2.1 C3.1.1).rk f4)
  have hselk := pSel_lk hBt e1
  -- the loop
  have key : ∀ (n k : Nat) (h5 : xH) (rc rs : Nat) (ls : xL), k + n = A.S.n → scQ Zh X.D h5 sc K (A.wTk.wFo ((List.range k).filter (mt A.ts t A.S sl)) (wgt sl)) r so sy G → isSl X.D (bK K) h5 t x sl → (∀ p ∈ [(3, Value.int (nI k)), (2, .ref x), (0, .ref sc)], p ∈ ls) → xG X 49 ls [] h5 rc rs := by
    intro n
    induction n with
    | zero =>
      intro k h5 rc rs ls hk Q5 I5 hls
      refine xG.locs ?_ hls
      obtain ⟨-, -, -, -, -, -, -, q1, -, -, -, -, -, -, -, -, q15, -, -⟩ := id Q5
      obtain ⟨s1, s2, s3, -⟩ := q15
      obtain ⟨ev, hev⟩ := s3.cell
      have hk : k = A.S.n := by omega
      subst hk
      refine xgo [] 60 hA ?_
      refine xg q1 (by rfl) ?_
      refine xg s1 (by rfl) ?_
      refine xcV hev (c_AL_size s3) (by rfl) (by rfl) (by rfl) (Nat.zero_le _) (Nat.zero_le _) ?_
      rintro o h6 ⟨rfl, rfl⟩
      rw [elA_len]
      refine xt (Int32.le_refl _) ?_
      refine xg q1 (by rfl) ?_
      exact xP hP ⟨rfl, r, so, sy, G, Q5⟩
    | succ n ih =>
      intro k h5 rc rs ls hk Q5 I5 hls
      refine xG.locs ?_ hls
      obtain ⟨T5, O5, fv5, rv5, hv5, _, _, q1, -, -, ⟨q6, q7⟩, -, -, -, -, -, q15, -, -⟩ := id Q5
      obtain ⟨s1, s2, s3, -, -, -, -, s8⟩ := q15
      obtain ⟨ev, hev⟩ := s3.cell
      have hkn : k < A.S.n := by omega
      have hfl : ((List.range k).filter (mt A.ts t A.S sl)).length ≤ k := by
        have := List.length_filter_le (mt A.ts t A.S sl) (List.range k)
        rw [List.length_range] at this; exact this
      obtain ⟨vs, p1, p2, Z5, -⟩ := Q5.z
      obtain ⟨g1, -⟩ := s8 k hkn
      obtain ⟨_, _, _, x5, -⟩ := id I5
      have es := filt_snoc (mt A.ts t A.S sl) k
      refine xgo [49, 120] 80 hA ?_
      refine xg q1 (by rfl) ?_
      refine xg s1 (by rfl) ?_
      refine xcV hev (c_AL_size s3) (by rfl) (by rfl) (by rfl) (Nat.zero_le _) (Nat.zero_le _) ?_
      rintro o h6 ⟨rfl, rfl⟩
      rw [elA_len]
      refine xf (fun y => by have := (nI_leI (a := A.S.n) (b := k) (by omega) (by omega)).mp y; omega) ?_
      refine xg q1 (by rfl) ?_
      refine xg q1 (by rfl) ?_
      refine xln (t := 0) (Or.inl q6) (by decide) ?_
      have q7' : (((List.range k).filter (mt A.ts t A.S sl)).map (fun k => Value.int (nI k)) ++ fv5).length = 500 := by rw [List.length_append, List.length_map]; exact q7
      rw [q7']
      refine xf (fun y => by
        have := (nI_leI (a := 500) (b := ((List.range k).filter (mt A.ts t A.S sl)).length) (by omega) (by omega)).mp y
        omega) ?_
      refine xg q1 (by rfl) ?_
      refine xg s1 (by rfl) ?_
      refine xcV hev (c_AL_get s3 (k := k) (by rw [elA_len]; exact hkn)) (by rfl) (by rfl) (by rfl) (Nat.zero_le _) (Nat.zero_le _) ?_
      rintro o h7 ⟨rfl, rfl⟩
      rw [elA_at]
      refine xct g1 rfl ?_
      refine xg q1 (by rfl) ?_
      refine xcV x5 (c_Se_matches Z5 (I5.gd (hwo_gk p1 (ng0 (Or.inr (Or.inr (Or.inr (Or.inl rfl))))))) hkn p1 p2 hselk) (by rfl) (by rfl) (by rfl) (Nat.zero_le _) (Nat.zero_le _) ?_
      rintro o h8 ⟨⟨vs8, rfl, hv8⟩, rfl⟩
      have Q8 := Q5.reach hv8
      have I8 := I5.gd ((gk.refl (bK K) h7).put (c := (105, vs8)) p1 (ng0 (Or.inr (Or.inr (Or.inr (Or.inl rfl))))))
      obtain ⟨_, _, _, _, _, _, _, q18, -⟩ := id Q8
      refine xb (fun c => ?_) (fun c => ?_)
      · have c4 := (bI_0 _).mp c
        have := ih (k + 1) _ rc rs [(3, .int (nI k + 1)), (2, .ref x), (0, .ref sc)] (by omega) (by
          rw [es, if_neg (by rw [c4]; decide), List.append_nil]; exact Q8) I8 (by rw [nI_1]; simp)
        refine xgo [49] 60 hA ?_
        exact this.locs (by simp)
      · have c4 := (bI_n0 _).mp c
        obtain ⟨fv8, u1, u2, Q9, k9⟩ := Q8.fo (i := k) (by show ((List.range k).filter (mt A.ts t A.S sl)).length < 500; omega) (by omega)
        refine xg q18 (by rfl) ?_
        refine xg q18 (by rfl) ?_
        refine xsi (j := ((List.range k).filter (mt A.ts t A.S sl)).length) u1 (by rfl) (by rw [u2]; show ((List.range k).filter (mt A.ts t A.S sl)).length < 500; omega) ?_
        have nfs : K.2.2.1 ≠ sc := xne' u1 q18 (by decide)
        have q19 := xst2 (c := (100, (((List.range k).filter (mt A.ts t A.S sl)).map (fun k => Value.int (nI k)) ++ fv8).set ((List.range k).filter (mt A.ts t A.S sl)).length (.int (nI k)))) (Ne.symm nfs) q18
        refine xg q19 (by rfl) ?_
        refine xp (fs' := scW K (nI 0) (nI A.ou.length) (nI ((List.range k).filter (mt A.ts t A.S sl)).length + 1) (nI (wgt sl)) r so sy) q19 rfl rfl ?_
        have el : nI ((List.range k).filter (mt A.ts t A.S sl)).length + 1 = nI ((List.range k).filter (mt A.ts t A.S sl) ++ [k]).length := by rw [nI_1, List.length_append]; rfl
        rw [el]
        have := ih (k + 1) _ rc rs [(3, .int (nI k + 1)), (2, .ref x), (0, .ref sc)] (by omega) (by
          rw [es, if_pos c4]; exact Q9) (I8.gd k9) (by rw [nI_1]; simp)
        refine xgo [49] 60 hA ?_
        exact this.locs (by simp)
  obtain ⟨T4, O4, fv4, rv4, hv4, _, _, q1, -, -, -, -, -, -, -, -, -, -, q17⟩ := id Q4
  obtain ⟨_, _, _, x4, -⟩ := id I4
  have hwg := I4.wgt
  refine xgo [49] 60 hA ?_
  refine xg x4 (by rfl) ?_
  refine xp (fs' := scW K (nI 0) (nI A.ou.length) (nI A.fo.length) (nI (wgt sl)) r so sy) q1 rfl rfl ?_
  refine xp (fs' := scW K (nI 0) (nI A.ou.length) (nI 0) (nI (wgt sl)) r so sy) (xset_same _ _ _) rfl rfl ?_
  rw [xset_set]
  have Q5 := Q4.set (A' := A.wTk.wFo [] (wgt sl)) rfl rfl (by show [] ++ List.drop 0 [] = []; rfl) (by show A.ou ++ A.ou.drop A.ou.length = A.ou; simp) (by show [] ++ A.fo.drop 0 = A.fo; simp) ⟨q17.1, q17.2.1, ⟨by show 0 ≤ 500; omega, fun k hk => by cases hk⟩, ⟨hwg, q17.2.2.2.1.2⟩, q17.2.2.2.2⟩
  have I5 := I4.gd ((gk.refl (bK K) h4).put (c := (0, scW K (nI 0) (nI A.ou.length) (nI 0) (nI (wgt sl)) r so sy)) q1 (ng0 (Or.inl rfl)))
  exact key A.S.n 0 _ _ _ [(3, .int (nI 0)), (2, .ref x), (1, .ref r), (0, .ref sc)] (by omega) Q5 I5 (by simp)
end
