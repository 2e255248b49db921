/-! CONTRACTS, 27: whether a selector fits -/
theorem exR_true_of {R : RW} {dep : Nat} {P : Nat → Bool} (h : exR R dep (fun _ => true) = false) : exR R dep P = false := by
  rw [← Bool.not_eq_true] at h ⊢
  intro z
  obtain ⟨x, hx, -⟩ := exR_iff.mp z
  exact h (exR_iff.mpr ⟨x, hx, rfl⟩)
/-- something in the first n places -/
def exB (R : RW) (n : Nat) : Bool := (List.range n).any (fun d => (R d).isSome)
theorem exB_succ (R : RW) (n : Nat) : exB R (n + 1) = (exB R n || (R n).isSome) := by
  unfold exB
  rw [List.range_succ, List.any_append]
  simp
theorem exB_exR (R : RW) (dep : Nat) : exB R (dep + 1) = exR R dep (fun _ => true) := by
  unfold exB exR
  congr 1
theorem exB_congr {R R' : RW} {n : Nat} (h : ∀ d, d < n → R d = R' d) : exB R n = exB R' n := by
  induction n with
  | zero => rfl
  | succ n ih => rw [exB_succ, exB_succ, ih fun d hd => h d (by omega), h n (by omega)]
theorem rev_take (l : List ST) {m : Nat} (h : m < l.length) : (l.take (m + 1)).reverse = l[m] :: (l.take m).reverse := by
  rw [List.take_succ_eq_append_getElem h, List.reverse_append]; rfl
theorem mt_last (ts ty : List Nat) (S : SS) (l : List ST) (e m : Nat) (h : m + 1 = l.length) : mt ts ty S l e = (stH ts ty S (l[m]'(by omega)) e && ch2 ts ty S (l[m]'(by omega)).2.1 (l.take m).reverse e) := by
  have e1 : l.reverse = (l[m]'(by omega)) :: (l.take m).reverse := by
    rw [← rev_take l (by omega), h, List.take_length]
  unfold mt
  rw [e1]
set_option maxRecDepth 20000 in
theorem c_Se_matches {B B' : Nat → Prop} {l : Launch} {D : xD} {z h : xH} {ts ty : List Nat} {S : SS} {G : SG} {rc x e : Nat} {lst : List ST} {vs : List Value} (Z : zE D B z h ts S G rc) (I : isSl D B' z ty x lst) (he : e < S.n) (hrc : h rc = some (105, vs)) (hvs : vs.length = 20) (hlk : ∀ s ∈ lst, s.2.1 ≤ 256) : xMet l D 6 y_Se_matches [.ref x, .ref (G.ad e), .ref rc] h 0 0 (fun o h' => (∃ vs', h' = xset h rc (105, vs') ∧ vs'.length = 20) ∧ o = .inl (some (.int (bI (mt ts ty S lst e))))) := by
  have W := Z.2.2.2
  have hdep := (W.2 e he).1.2.2
  obtain ⟨m, hm⟩ : ∃ m, m + 1 = lst.length := ⟨lst.length - 1, by
    obtain ⟨_, _, _, _, _, _, q1, q2⟩ := I
    have := List.length_pos_iff.mpr q2
    omega⟩
  have hmt := mt_last ts ty S lst e m hm
  obtain ⟨sl, ea, xs, i1, i2, i3, hl8, -⟩ := I
  have hle := i3.len
  -- what the heaps hold
  have hp : ∀ vs1 : List Value, zE D B z (xset h rc (105, vs1)) ts S G rc ∧ xset h rc (105, vs1) x = some (8, [.ref sl, .int (nI (wgt lst))]) ∧ isL D (xset h rc (105, vs1)) sl ea xs ∧ (∀ k, ∀ h1 : k < xs.length, ∀ h2 : k < lst.length, isSt D B' (xset h rc (105, vs1)) ty xs[k] lst[k]) ∧ xset h rc (105, vs1) rc = some (105, vs1) := fun vs1 => by
    have Z1 := Z.put (c := (105, vs1))
    exact ⟨Z1, Z1.1 _ _ i1 (by simp), i2.ext Z1.1, fun k h1 h2 => (i3.at k h1 h2).ext Z1.1, xset_same _ _ _⟩
  refine m_Se_matches (Nat.le_of_ble_eq_true rfl) fun X hl hD hP hA => ?_
  subst hl hD
  have fin : ∀ (v : Int32) (q : Bool) (vs1 : List Value), vs1.length = 20 → mt ts ty S lst e = q → v = bI q → narrow .boolean (.int v) = .int v ∧ X.P (.inl (some (.int v))) (xset h rc (105, vs1)) := by
    intro v q vs1 hv1 e1 e2
    subst e2
    exact ⟨bI_nar q, xP hP ⟨⟨vs1, rfl, hv1⟩, by rw [e1]⟩⟩
  -- steps ahead of the last: k of them are left
  have key : ∀ (k : Nat) (q : Bool) (R : RW) (vs1 : List Value) (ls : xL) (hk : k < lst.length), rwOk S e R → aR vs1 G.ad (S.F 5 e + 1) R → q = exR R (S.F 5 e) (fun _ => true) → mt ts ty S lst e = exR R (S.F 5 e) (ch2 ts ty S lst[k].2.1 (lst.take k).reverse) → (∀ p ∈ [(6, Value.int (nI k + (-1))), (5, .int (bI q)), (4, .int (nI (S.F 5 e))), (0, .ref x), (2, .ref rc)], p ∈ ls) → xG X 89 ls [] (xset h rc (105, vs1)) 0 0 := by
    intro k
    induction k with
    | zero =>
      intro q R vs1 ls hk hR A hq eR hls
      refine xG.locs ?_ hls
      rw [nI_dec0]
      refine xgo [] 60 hA ?_
      refine xt (by decide) ?_
      exact fin _ q vs1 A.1 (by rw [eR, hq]; rfl) rfl
    | succ k ih =>
      intro q R vs1 ls hk hR A hq eR hls
      refine xG.locs ?_ hls
      rw [nI_dec (by omega), show k + 1 - 1 = k from rfl]
      refine xgo [128] 90 hA ?_
      refine xf (nI_neg (by omega)) ?_
      cases q with
      | false =>
        refine xt (by rfl) ?_
        exact fin _ false vs1 A.1 (by rw [eR]; exact exR_true_of hq.symm) rfl
      | true =>
        refine xf (by decide) ?_
        obtain ⟨Z1, x1, L1, St1, rc1⟩ := hp vs1
        obtain ⟨sv, hsl⟩ := L1.cell
        refine xg x1 (by rfl) ?_
        have c1 : k + 1 < xs.length := by omega
        refine xcV hsl (c_AL_get L1 (k := k + 1) c1) (by rfl) (by show _ = _; rw [← nI_1]; rfl) (by rfl) (Nat.zero_le _) (Nat.zero_le _) ?_
        rintro o h1 ⟨rfl, rfl⟩
        obtain ⟨nv, cl, e', ys, y1, -⟩ := St1 (k + 1) c1 hk
        refine xct y1 rfl ?_
        refine xg y1 (by rfl) ?_
        refine xcS (c_moveBack (lk := lst[k + 1].2.1) Z1 he hR rc1 A (hlk _ (List.getElem_mem hk))) (by rfl) (by rfl) (by rfl) (Nat.zero_le _) (Nat.zero_le _) ?_
        rintro o h2 ⟨rfl, vs2, rfl, A2⟩
        rw [xset_set]
        -- the row is sifted
        have hR2 := mvR_ok (lk := lst[k + 1].2.1) W he hR
        have hfl := flt_ok (P := stH ts ty S (lst[k]'(by omega))) hR2
        have sift : ∀ (n d : Nat) (vs3 : List Value) (ls : xL), d + n = S.F 5 e + 1 → aR vs3 G.ad (S.F 5 e + 1) (fun d' => if d' < d then flt (stH ts ty S (lst[k]'(by omega))) (mvR S.F lst[k + 1].2.1 R (S.F 5 e)) d' else mvR S.F lst[k + 1].2.1 R (S.F 5 e) d') → (∀ p ∈ [(7, Value.int (nI d)), (6, Value.int (nI k)), (5, .int (bI (exB (flt (stH ts ty S (lst[k]'(by omega))) (mvR S.F lst[k + 1].2.1 R (S.F 5 e))) d))), (4, .int (nI (S.F 5 e))), (0, .ref x), (2, .ref rc)], p ∈ ls) → xG X 128 ls [] (xset h rc (105, vs3)) 0 0 := by
          intro n
          induction n with
          | zero =>
            intro d vs3 ls hd A3 hls
            refine xG.locs ?_ hls
            have hde : d = S.F 5 e + 1 := by omega
            subst hde
            refine xgo [89] 60 hA ?_
            refine xt ((nI_ltI (a := S.F 5 e) (b := S.F 5 e + 1) (by omega) (by omega)).mpr (by omega)) ?_
            exact ih (exB (flt (stH ts ty S (lst[k]'(by omega))) (mvR S.F lst[k + 1].2.1 R (S.F 5 e))) (S.F 5 e + 1)) (flt (stH ts ty S (lst[k]'(by omega))) (mvR S.F lst[k + 1].2.1 R (S.F 5 e))) vs3 _ (by omega) hfl (A3.congr fun d' hd' => (if_pos hd').symm) (exB_exR _ _) (by rw [eR, rev_take lst (by omega)]; exact exR_step W he hR) (by simp)
          | succ n ihn =>
            intro d vs3 ls hd A3 hls
            refine xG.locs ?_ hls
            obtain ⟨Z3, x3, L3, St3, rc3⟩ := hp vs3
            obtain ⟨sv3, hsl3⟩ := L3.cell
            have hv : vs3[d]? = some (vO G.ad (if d < d then flt (stH ts ty S (lst[k]'(by omega))) (mvR S.F lst[k + 1].2.1 R (S.F 5 e)) d else mvR S.F lst[k + 1].2.1 R (S.F 5 e) d)) := A3.2 d (by omega)
            rw [if_neg (Nat.lt_irrefl _)] at hv
            -- from 169 on
            have back : ∀ (vs4 : List Value) (qo : Option Nat), flt (stH ts ty S (lst[k]'(by omega))) (mvR S.F lst[k + 1].2.1 R (S.F 5 e)) d = qo → vs4[d]? = some (vO G.ad qo) → aR vs4 G.ad (S.F 5 e + 1) (fun d' => if d' < d + 1 then flt (stH ts ty S (lst[k]'(by omega))) (mvR S.F lst[k + 1].2.1 R (S.F 5 e)) d' else mvR S.F lst[k + 1].2.1 R (S.F 5 e) d') → xG X 169 [(7, Value.int (nI d)), (6, Value.int (nI k)), (5, .int (bI (exB (flt (stH ts ty S (lst[k]'(by omega))) (mvR S.F lst[k + 1].2.1 R (S.F 5 e))) d))), (4, .int (nI (S.F 5 e))), (0, .ref x), (2, .ref rc)] [] (xset h rc (105, vs4)) 0 0 := by
              intro vs4 qo hqo hv4 A4
              have nxt : ∀ (v : Int32) (ls : xL), v = bI (exB (flt (stH ts ty S (lst[k]'(by omega))) (mvR S.F lst[k + 1].2.1 R (S.F 5 e))) d || qo.isSome) → (∀ p ∈ [(7, Value.int (nI d + 1)), (6, Value.int (nI k)), (5, .int v), (4, .int (nI (S.F 5 e))), (0, .ref x), (2, .ref rc)], p ∈ ls) → xG X 128 ls [] (xset h rc (105, vs4)) 0 0 := by
                intro v ls hv hls
                refine ihn (d + 1) vs4 ls (by omega) A4 ?_
                rw [exB_succ, hqo, ← nI_1, ← hv]
                exact hls
              cases hex : exB (flt (stH ts ty S (lst[k]'(by omega))) (mvR S.F lst[k + 1].2.1 R (S.F 5 e))) d with
              | true =>
                rw [hex] at nxt
                refine xgo [128] 60 hA ?_
                refine xtn (by decide) ?_
                exact nxt 1 _ rfl (by simp)
              | false =>
                rw [hex] at nxt
                refine xgo [128] 60 hA ?_
                refine xfn (by rfl) ?_
                cases qo with
                | none =>
                  refine xld (Or.inl (xset_same _ _ _)) (by rfl) hv4 ?_
                  exact nxt 0 _ rfl (by simp)
                | some y =>
                  refine xld (Or.inl (xset_same _ _ _)) (by rfl) hv4 ?_
                  exact nxt 1 _ rfl (by simp)
            cases hRd : mvR S.F lst[k + 1].2.1 R (S.F 5 e) d with
            | none =>
              rw [hRd] at hv
              have hf0 : flt (stH ts ty S (lst[k]'(by omega))) (mvR S.F lst[k + 1].2.1 R (S.F 5 e)) d = none := by unfold flt; rw [hRd]; rfl
              refine xgo [169] 60 hA ?_
              refine xf (fun w => by have := (nI_ltI (a := S.F 5 e) (b := d) (by omega) (by omega)).mp w; omega) ?_
              refine xld (Or.inl rc3) (by rfl) hv ?_
              exact back vs3 none hf0 hv (A3.congr fun d' hd' => by
                by_cases w : d' < d
                · rw [if_pos w, if_pos (by omega)]
                · by_cases w2 : d' = d
                  · subst w2; rw [if_pos (by omega), if_neg w, hf0, hRd]
                  · rw [if_neg w, if_neg (by omega)])
            | some y =>
              rw [hRd] at hv
              obtain ⟨b1, b2, b3⟩ := hR2 d y (by omega) hRd
              refine xgo [169] 60 hA ?_
              refine xf (fun w => by have := (nI_ltI (a := S.F 5 e) (b := d) (by omega) (by omega)).mp w; omega) ?_
              refine xld (Or.inl rc3) (by rfl) hv ?_
              refine xg x3 (by rfl) ?_
              have c2 : k < xs.length := by omega
              refine xcV hsl3 (c_AL_get L3 c2) (by rfl) (by rfl) (by rfl) (Nat.zero_le _) (Nat.zero_le _) ?_
              rintro o h4 ⟨rfl, rfl⟩
              have St := St3 k c2 (by omega)
              obtain ⟨_, _, _, _, y1, -⟩ := id St
              refine xct y1 rfl ?_
              refine xld (Or.inl rc3) (by rfl) hv ?_
              refine xcV y1 (c_Sp_matches St (Z3.at b1) (Z3.b b1)) (by rfl) (by rfl) (by rfl) (Nat.zero_le _) (Nat.zero_le _) ?_
              rintro o h4 ⟨rfl, rfl⟩
              refine xb (fun c => ?_) (fun c => ?_)
              · have c3 := (bI_n0 _).mp c
                have hf0 : flt (stH ts ty S (lst[k]'(by omega))) (mvR S.F lst[k + 1].2.1 R (S.F 5 e)) d = some y := by unfold flt; rw [hRd, Option.filter_some, if_pos c3]
                exact back vs3 (some y) hf0 hv (A3.congr fun d' hd' => by
                  by_cases w : d' < d
                  · rw [if_pos w, if_pos (by omega)]
                  · by_cases w2 : d' = d
                    · subst w2; rw [if_pos (by omega), if_neg w, hf0, hRd]
                    · rw [if_neg w, if_neg (by omega)])
              · have c3 := (bI_0 _).mp c
                have hf0 : flt (stH ts ty S (lst[k]'(by omega))) (mvR S.F lst[k + 1].2.1 R (S.F 5 e)) d = none := by unfold flt; rw [hRd, Option.filter_some, c3]; rfl
                refine xsn (ok := xok5) rc3 (by rfl) (by rw [A3.1]; omega) ?_
                rw [xset_set]
                refine back (vs3.set d .null) none hf0 (List.getElem?_set_self (by rw [A3.1]; omega)) (A3.put none (by omega) (by rw [if_pos (by omega)]; exact hf0) (fun d' q1 q2 => ?_) _ (fun d' h => Or.inl h))
                by_cases w : d' < d
                · rw [if_pos w, if_pos (by omega)]
                · rw [if_neg w, if_neg (by omega)]
        exact sift (S.F 5 e + 1) 0 vs2 _ (by omega) (A2.congr fun d' _ => if_neg (Nat.not_lt_zero _)) (by simp [exB, bI]; rfl)
  -- the row with e alone
  have fill : stH ts ty S (lst[m]'(by omega)) e = true → ∀ (n d : Nat) (vs1 : List Value), d + n = S.F 5 e + 1 → aR vs1 G.ad d (rw1 e (S.F 5 e)) → xG X 50 [(5, .int (nI d)), (4, .int (nI (S.F 5 e))), (3, .int (nI m)), (0, .ref x), (1, .ref (G.ad e)), (2, .ref rc)] [] (xset h rc (105, vs1)) 0 0 := by
    intro hst n
    induction n with
    | zero =>
      intro d vs1 hd A1
      have hde : d = S.F 5 e + 1 := by omega
      subst hde
      refine xgo [89] 60 hA ?_
      refine xt ((nI_ltI (a := S.F 5 e) (b := S.F 5 e + 1) (by omega) (by omega)).mpr (by omega)) ?_
      refine key m true (rw1 e (S.F 5 e)) vs1 _ (by omega) (rw1_ok he) A1 (rw1_ex (S := S) (fun _ => true)).symm (by rw [hmt, rw1_ex, hst, Bool.true_and]) ?_
      intro p hp'
      simp only [List.mem_cons, List.not_mem_nil, or_false] at hp' ⊢
      rcases hp' with rfl | rfl | rfl | rfl | rfl
      · exact Or.inl (by show (6, Value.int (nI m + (-1))) = (6, Value.int (nI m - 1)); rw [Int32.sub_eq_add_neg])
      all_goals simp [bI]
    | succ n ihn =>
      intro d vs1 hd A1
      obtain ⟨Z1, x1, L1, St1, rc1⟩ := hp vs1
      obtain ⟨g1, -⟩ := Z1.at he
      refine xgo [50] 60 hA ?_
      refine xf (fun w => by have := (nI_ltI (a := S.F 5 e) (b := d) (by omega) (by omega)).mp w; omega) ?_
      refine xg g1 (by rfl) ?_
      refine xb (fun c => ?_) (fun c => ?_)
      · have hne : d ≠ S.F 5 e := fun w => c (by rw [w])
        refine xsn (ok := xok5) rc1 (by rfl) (by rw [A1.1]; omega) ?_
        rw [xset_set]
        have := ihn (d + 1) (vs1.set d .null) (by omega) (A1.put none (by omega) (if_neg hne) (fun _ _ _ => rfl) _ (fun d' h => by omega))
        rw [← nI_1] at this
        exact this
      · have hne : d = S.F 5 e := (nI_eq (by omega) (by omega)).mp c
        refine xsq rc1 (by rfl) (by rw [A1.1]; omega) g1 rfl ?_
        rw [xset_set]
        have := ihn (d + 1) (vs1.set d (.ref (G.ad e))) (by omega) (A1.put (some e) (by omega) (if_pos hne) (fun _ _ _ => rfl) _ (fun d' h => by omega))
        rw [← nI_1] at this
        exact this
  obtain ⟨Z1, x1, L1, St1, rc1⟩ := hp vs
  rw [xset_self hrc] at Z1 x1 L1 St1 rc1
  obtain ⟨sv, hsl⟩ := L1.cell
  obtain ⟨g1, -⟩ := Z1.at he
  have c1 : m < xs.length := by omega
  have hm1 : nI xs.length - 1 = nI m := by
    rw [hle, ← hm, ← nI_1]; exact Int32.add_sub_cancel _ _
  refine xgo [10] 60 hA ?_
  refine xg x1 (by rfl) ?_
  refine xcV hsl (c_AL_size L1) (by rfl) (by rfl) (by rfl) (Nat.zero_le _) (Nat.zero_le _) ?_
  rintro o h1 ⟨rfl, rfl⟩
  show xG X 10 [(3, .int (nI xs.length - 1)), (0, .ref x), (1, .ref (G.ad e)), (2, .ref rc)] [] h1 0 0
  rw [hm1]
  refine xgo [45] 60 hA ?_
  refine xf (nI_neg (by omega)) ?_
  refine xg x1 (by rfl) ?_
  refine xcV hsl (c_AL_get L1 c1) (by rfl) (by rfl) (by rfl) (Nat.zero_le _) (Nat.zero_le _) ?_
  rintro o h2 ⟨rfl, rfl⟩
  have St := St1 m c1 (by omega)
  obtain ⟨_, _, _, _, y1, -⟩ := id St
  refine xct y1 rfl ?_
  refine xcV y1 (c_Sp_matches St (Z1.at he) (Z1.b he)) (by rfl) (by rfl) (by rfl) (Nat.zero_le _) (Nat.zero_le _) ?_
  rintro o h2 ⟨rfl, rfl⟩
  refine xb (fun c => ?_) (fun c => ?_)
  · have hst := (bI_n0 _).mp c
    refine xg g1 (by rfl) ?_
    refine xln (t := 5) (Or.inl hrc) (by decide) ?_
    rw [hvs]
    show xG X 45 [(3, .int (nI m)), (0, .ref x), (1, .ref (G.ad e)), (2, .ref rc)] [.int (if nI 20 - 1 < nI (S.F 5 e) then nI 20 - 1 else nI (S.F 5 e))] h2 0 0
    rw [if_neg (fun w => by
      have w' : nI 19 < nI (S.F 5 e) := w
      have := (nI_ltI (a := 19) (b := S.F 5 e) (by omega) (by omega)).mp w'
      omega)]
    refine xgo [50] 60 hA ?_
    have := fill hst (S.F 5 e + 1) 0 vs (by omega) ⟨hvs, fun d hd => absurd hd (Nat.not_lt_zero _)⟩
    rw [xset_self hrc] at this
    exact this
  · have := fin 0 false vs hvs (by rw [hmt, (bI_0 _).mp c]; rfl) rfl
    rw [xset_self hrc] at this
    exact this
