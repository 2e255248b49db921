/-! CONTRACTS, 21: the body of a rule -/
theorem fndN_ws (t : List Nat) (ns : List (Nat × Nat)) (w : List Nat) : (ns.map (sub t)).findIdx (fun v => decide (v = w)) = fndN t ns w := by
  rw [List.findIdx_map]; rfl
set_option maxRecDepth 20000 in
theorem c_readTold {B : Nat → Prop} {l : Launch} {D : xD} {h0 h : xH} {r b i sy ru tc : Nat} {t O : List Nat} {G : Nat → LG} {rs : List RU} {ss : List (List ST)} {ns : List (Nat × Nat)} {ls : List (List ST)} {ds : List TD} (Z : sX D B h0 h r b t i O sy ru G rs ss ns ls ds tc) (hns : ns.length ≤ 30) (htc : tc ≤ 600) (hBb : B b) : xMet l D 10 y_Sy_readTold [.ref sy, .ref r] h 8 100 (xRes r b t [] h0 (pTold t i ns tc) (fun q o h' => ∃ (x j : Nat) (O' : List Nat) (G' : Nat → LG), o = .inl (some (.ref x)) ∧ sX D B h0 h' r b t j O' sy ru G' rs ss q.2 ls ds (tc + 1) ∧ isTd B (zz h0 O' h') t x tc q.1 ∧ (∀ k, (G' k).1 = (G k).1) ∧ q.2.length ≤ 30 ∧ tc + 1 ≤ 600)) := by
  refine m_Sy_readTold (Nat.le_of_ble_eq_true rfl) fun X hl hD hP hA => ?_
  subst hl hD
  -- behind the name
  have chk : ∀ (a : Nat × Nat) (j s : Nat) (ns' : List (Nat × Nat)) (wh : Nat) (O2 : List Nat) (G2 : Nat → LG) (h2 : xH) (rc rs' : Nat), pTold t i ns tc = (if 600 ≤ tc ∨ 30 < ns'.length then .error i else pB (pSig 58 t j) fun _ k => pB (pVal2 t k) fun v m => pB (pSig 59 t m) fun _ q => .ok (((wh, v.1.1, v.1.2.1, v.1.2.2.1, v.1.2.2.2, v.2), ns'), q)) → a.1 = i → h2 s = some (slc b a) → sX X.D B h0 h2 r b t j O2 sy ru G2 rs ss ns' ls ds tc → (∀ k, (G2 k).1 = (G k).1) → wh < 1000 → ns'.length ≤ 31 → 6 ≤ rc → 45 ≤ rs' → xG X 32 [(3, .int (nI wh)), (2, .ref s), (0, .ref sy), (1, .ref r)] [] h2 rc rs' := by
    intro a j s ns' wh O2 G2 h2 rc rs' eR ha hs2 Z2 hG hwh hl31 hrc hrs
    obtain ⟨C2, Ls2, ⟨sy1, sy2⟩, -, Y2⟩ := id Z2
    have L2 := (Ls2.1 2 (by decide)).1
    obtain ⟨nv, hnl⟩ := L2.cell
    have hl := Y2.2.2.1.len
    have bad : (600 ≤ tc ∨ 30 < ns'.length) → xG X 54 [(3, .int (nI wh)), (2, .ref s), (0, .ref sy), (1, .ref r)] [] h2 rc rs' := by
      intro z
      refine xgo [] 60 hA ?_
      refine xg hs2 (by rfl) ?_
      refine xfail C2.1 i (by rw [ha]) rfl (by omega) (by omega) fun e h1 q => xP hP (xRes.er (by rw [eR, if_pos z]) (q.tr C2.2.2.2.1 (fun _ z => absurd z List.not_mem_nil)))
    refine xgo [54] 80 hA ?_
    refine xg sy2 (by rfl) ?_
    refine xb (fun c => ?_) (fun c => ?_)
    · exact bad (Or.inl ((nI_leI (a := 600) (b := tc) (by omega) (by omega)).mp c))
    have c1 : ¬ 600 ≤ tc := fun z => c ((nI_leI (a := 600) (b := tc) (by omega) (by omega)).mpr z)
    refine xg sy2 (by rfl) ?_
    refine xcV hnl (c_AL_size L2) (by rfl) (by rfl) (by rfl) (Nat.zero_le _) (Nat.zero_le _) ?_
    rintro o h3 ⟨rfl, rfl⟩
    refine xb (fun c => ?_) (fun c => ?_)
    rotate_left
    · exact bad (Or.inr (Nat.lt_of_not_le fun z => c ((nI_leI (b := 30) (by omega) (by omega)).mpr (by omega))))
    have c2 : ns'.length ≤ 30 := by have := (nI_leI (b := 30) (by omega) (by omega)).mp c; omega
    rw [if_neg (by omega)] at eR
    refine xcV C2.1.1 (c_expectSign C2.1 (c := 58) rfl (by decide)) (by rfl) (by rfl) (by rfl) (by omega) (by omega) ?_
    intro o h4 q
    rcases Z2.cs q with ⟨w, e2, z⟩ | ⟨u, k, e2, Z4, z4, f4, rfl⟩
    · obtain ⟨ex, rfl⟩ := z.1
      exact xP hP (xRes.er (by rw [eR, pB_er e2]) z)
    obtain ⟨C4, -, ⟨-, sy4⟩, -, -⟩ := id Z4
    refine xn (by omega) (by omega) fun x hx4 => ?_
    have hx0 := C4.non hx4
    have hxO : x ∉ O2 := fun z => by
      obtain ⟨c, y, -⟩ := (C4.2.2.2.2 x z).2
      rw [hx4] at y; cases y
    have hsx : sy ≠ x := xnn sy4 hx4
    obtain ⟨C5, z5⟩ := C4.new (c := (9, [.int 0, .int 0, .int 0, .null, .int 0, .int 0, .int 0])) hx4 rfl
    refine xg (xst2 hsx sy4) (by rfl) ?_
    refine xcI (c_To_init (xset_same _ _ _)) (by rfl) (by rfl) (by rfl) (Nat.zero_le _) (Nat.zero_le _) ?_
    rintro o h6 ⟨rfl, rfl⟩
    obtain ⟨C6, z6⟩ := C5.put (c := (9, [.int (nI tc), .int (nI wh), .int 0, .null, .int 0, .int 0, .int 0])) List.mem_cons_self rfl
    have sy6 := xst2 (c := (9, [.int (nI tc), .int (nI wh), .int 0, .null, .int 0, .int 0, .int 0])) hsx (xst2 (c := (9, [.int 0, .int 0, .int 0, .null, .int 0, .int 0, .int 0])) hsx sy4)
    refine xg sy6 (by rfl) ?_
    refine xp (fs' := [.ref (G2 0).1, .ref (G2 1).1, .ref (G2 2).1, .int (nI tc + 1)]) sy6 rfl rfl ?_
    rw [nI_1]
    obtain ⟨C7, z7⟩ := C6.put (c := (11, [.ref (G2 0).1, .ref (G2 1).1, .ref (G2 2).1, .int (nI (tc + 1))])) (List.mem_cons_of_mem _ sy1) rfl
    have f7 := ((((fr.refl [r, sy] h4).put (a := x) (c := (9, [.int 0, .int 0, .int 0, .null, .int 0, .int 0, .int 0])) (Or.inr hx4)).put (a := x) (c := (9, [.int (nI tc), .int (nI wh), .int 0, .null, .int 0, .int 0, .int 0])) (Or.inr hx4)).put (a := sy) (c := (11, [.ref (G2 0).1, .ref (G2 1).1, .ref (G2 2).1, .int (nI (tc + 1))])) (Or.inl (by simp)))
    have x7 : xset (xset (xset h4 x (9, [.int 0, .int 0, .int 0, .null, .int 0, .int 0, .int 0])) x (9, [.int (nI tc), .int (nI wh), .int 0, .null, .int 0, .int 0, .int 0])) sy (11, [.ref (G2 0).1, .ref (G2 1).1, .ref (G2 2).1, .int (nI (tc + 1))]) x = some (9, [.int (nI tc), .int (nI wh), .int 0, .null, .int 0, .int 0, .int 0]) := xst2 (Ne.symm hsx) (xset_same _ _ _)
    have sy7 : xset (xset (xset h4 x (9, [.int 0, .int 0, .int 0, .null, .int 0, .int 0, .int 0])) x (9, [.int (nI tc), .int (nI wh), .int 0, .null, .int 0, .int 0, .int 0])) sy (11, [.ref (G2 0).1, .ref (G2 1).1, .ref (G2 2).1, .int (nI (tc + 1))]) sy = some (11, [.ref (G2 0).1, .ref (G2 1).1, .ref (G2 2).1, .int (nI (tc + 1))]) := xset_same _ _ _
    obtain ⟨h7, hh7⟩ : ∃ h7, h7 = xset (xset (xset h4 x (9, [.int 0, .int 0, .int 0, .null, .int 0, .int 0, .int 0])) x (9, [.int (nI tc), .int (nI wh), .int 0, .null, .int 0, .int 0, .int 0])) sy (11, [.ref (G2 0).1, .ref (G2 1).1, .ref (G2 2).1, .int (nI (tc + 1))]) := ⟨_, rfl⟩
    rw [← hh7] at C7 z7 f7 x7 sy7 ⊢
    refine xcV x7 (c_readValue C7.1 x7 hBb) (by rfl) (by rfl) (by rfl) (by omega) (by omega) ?_
    intro o h8 q
    rcases q.cs with ⟨w, e3, z⟩ | ⟨v, m, e3, H8, f8, rfl, tv, x8, T8, g1, g2⟩
    · obtain ⟨ex, rfl⟩ := z.1
      exact xP hP (xRes.er (by rw [eR, pB_ok e2, pB_er e3]) (z.tr C7.2.2.2.1 (fun q hq => Or.inr (by rw [List.mem_singleton.mp hq]; exact hx0))))
    have fx : ∀ q c, h7 q = some c → q ≠ r → q ≠ x → h8 q = some c := fun q c e n1 n2 => f8 q c e (by simp [n1, n2])
    obtain ⟨C8, z8⟩ := C7.go (O' := x :: O2) f8 (fun q hq => by
      rcases List.mem_cons.mp hq with y | y
      · exact Or.inl y
      · exact Or.inr (by rw [List.mem_singleton.mp y]; exact List.mem_cons_self)) H8 (fun q hq => by
      refine ⟨Or.inl hq, ?_⟩
      rcases List.mem_cons.mp hq with y | y
      · exact ⟨_, y ▸ x8, rfl⟩
      · obtain ⟨c, y1, y2⟩ := (C7.2.2.2.2 q hq).2
        exact ⟨c, fx q c y1 (C7.ner hq) (fun w => hxO (w ▸ y)), y2⟩)
    have T8' := T8.ext C7.up
    refine xcV C8.1.1 (c_expectSign C8.1 (c := 59) rfl (by decide)) (by rfl) (by rfl) (by rfl) (by omega) (by omega) ?_
    intro o h9 q
    rcases C8.cs q with ⟨w, e4, z⟩ | ⟨u, p, e4, C9, z9, f9, rfl⟩
    · obtain ⟨ex, rfl⟩ := z.1
      exact xP hP (xRes.er (by rw [eR, pB_ok e2, pB_ok e3, pB_er e4]) z)
    have hxr : x ≠ r := C9.ner List.mem_cons_self
    have x9 := f9.one x8 hxr
    have sy9 := f9.one (fx _ _ sy7 (C7.ner (List.mem_cons_of_mem _ sy1)) hsx) (C7.ner (List.mem_cons_of_mem _ sy1))
    obtain ⟨Ca, za⟩ := C9.go (M := []) (O' := O2) (fr.refl _ _) (fun q hq => by cases hq) C9.1 (fun q hq => ⟨Or.inl (List.mem_cons_of_mem _ hq), (C9.2.2.2.2 q (List.mem_cons_of_mem _ hq)).2⟩)
    have zt := ((((z5.tr z6).tr z7).tr z8).tr z9).tr za
    have ft : fr [r, sy] h4 h9 := (f7.trans f8 fun q hq => by
      rcases List.mem_cons.mp hq with y | y
      · exact Or.inl (by rw [y]; simp)
      · exact Or.inr (by rw [List.mem_singleton.mp y]; exact hx4)).trans f9 fun q hq => Or.inl (by rw [List.mem_singleton.mp hq]; simp)
    have Za : sX X.D B h0 h9 r b t p O2 sy ru G2 rs ss ns' ls ds (tc + 1) := Z4.stp Ca zt ft (fun q hq c e => by
      rcases List.mem_cons.mp hq with y | y
      · rw [y, C4.1.1] at e; cases e; exact Or.inl rfl
      · rw [List.mem_singleton.mp y, sy4] at e; cases e; exact Or.inr (Or.inr rfl)) (fun q hq => hq) sy9
    exact xP hP (xRes.ok (a := ((wh, v.1.1, v.1.2.1, v.1.2.2.1, v.1.2.2.2, v.2), ns')) (by rw [eR, pB_ok e2, pB_ok e3, pB_ok e4]) Ca.1 Ca.2.2.2.1 ⟨x, p, O2, G2, rfl, Za, ⟨tv, zz_new hx0 hxO x9, (T8'.ext z9).ext za, g1, g2⟩, hG, c2, by omega⟩)
  obtain ⟨C, -⟩ := id Z
  refine xgo [32] 80 hA ?_
  refine xcV C.1.1 (c_readName C.1) (by rfl) (by rfl) (by rfl) (by omega) (by omega) ?_
  intro o h1 q
  rcases Z.cs q with ⟨w, e1, z⟩ | ⟨a, j, e1, Z1, z1, f1, s, rfl, hsn, hs1⟩
  · obtain ⟨ex, rfl⟩ := z.1
    exact xP hP (xRes.er (by rw [pTold, pB_er e1]) z)
  obtain ⟨C1, Ls1, ⟨sy1, sy2⟩, -, Y1⟩ := id Z1
  obtain ⟨n1, n2, n3, n4, n5, n6, -⟩ := pName_sub e1
  have S1 := C1.slc (B := B) hs1 (C.non hsn) (by omega) hBb
  have S1' : isS B h1 s (sub t a) := S1.ext (zz_le _ _ _)
  obtain ⟨L1, mA, mE⟩ := Ls1.1 2 (by decide)
  obtain ⟨nv, hnl⟩ := L1.cell
  have hl := Y1.2.2.1.len
  have N1 : all2 (isS B h1) (G 2).2.2 (ns.map (sub t)) := (Y1.2.2.1.mono fun a b q => q.ext (zz_le _ _ _)).mapR
  have eR : pTold t i ns tc = (if 600 ≤ tc ∨ 30 < (addNm t ns a).length then .error i else pB (pSig 58 t j) fun _ k => pB (pVal2 t k) fun v m => pB (pSig 59 t m) fun _ q => .ok (((fndN t ns (sub t a), v.1.1, v.1.2.1, v.1.2.2.1, v.1.2.2.2, v.2), addNm t ns a), q)) := by rw [pTold, pB_ok e1]
  have hfl : fndN t ns (sub t a) ≤ ns.length := List.findIdx_le_length
  refine xcV sy2 (c_numberOfName sy2 L1 N1 S1' (by rw [List.length_map]; omega)) (by rfl) (by rfl) (by rfl) (Nat.zero_le _) (Nat.zero_le _) ?_
  rintro o h2 ⟨rfl, rfl⟩
  rw [fndN_ws, List.length_map]
  by_cases hf : fndN t ns (sub t a) < ns.length
  · rw [if_pos hf]
    refine xt (show (0 : Int32) ≤ nI (fndN t ns (sub t a)) from (nI_leI (a := 0) (by omega) (by omega)).mpr (Nat.zero_le _)) ?_
    have e2 : addNm t ns a = ns := by rw [addNm, if_pos hf]
    rw [e2] at eR
    exact chk a j s ns _ O G h2 _ _ eR n1 hs1 Z1 (fun _ => rfl) (by omega) (by omega) (by omega) (by omega)
  · rw [if_neg hf]
    refine xf (by decide) ?_
    have e2 : addNm t ns a = ns ++ [a] := by rw [addNm, if_neg hf]
    have e3 : fndN t ns (sub t a) = ns.length := by omega
    rw [e2, e3] at eR
    refine xg sy2 (by rfl) ?_
    refine xcV hnl (c_AL_size L1) (by rfl) (by rfl) (by rfl) (Nat.zero_le _) (Nat.zero_le _) ?_
    rintro o h3 ⟨rfl, rfl⟩
    refine xg sy2 (by rfl) ?_
    have hgs := gS_31 (G 2).2.2.length (by omega)
    have ham := amc_le (capN (G 2).2.2.length) (G 2).2.2.length
    refine xcV hnl (c_addG (k := 2) C1 Ls1 (by decide) hs1 rfl (fun y hy => by
      obtain ⟨cb, -, q⟩ := Y1.2.2.1.mem y hy
      obtain ⟨c1, c2, c3, c4⟩ := q.ok
      exact ⟨c1, c2, (zz_some c3).1, c4⟩) (by omega)) (by rfl) (by rfl) (by rfl) (by omega) (by omega) ?_
    rintro o h4 ⟨e', O', C4, z4, Ls4, hf4, rfl⟩
    have S4 := S1.ext z4
    have Y4 := Y1.ext z4
    obtain ⟨-, -, -, ⟨ru1, ru2⟩, -⟩ := id Z1
    refine (chk a j s (ns ++ [a]) ns.length O' (lup G 2 ((G 2).1, e', (G 2).2.2 ++ [s])) h4 (8 - 1 - amc (capN (G 2).2.2.length) (G 2).2.2.length) (100 - 6 - (gS ((G 2).2.2.length + 1) - gS (G 2).2.2.length)) eR n1 (hf4 _ _ _ hs1 (by decide) (by decide)).1 ⟨C4, Ls4, ⟨(hf4 _ _ _ sy2 (by decide) (by decide)).2 sy1 (by decide), (hf4 _ _ _ sy2 (by decide) (by decide)).1⟩, ⟨(hf4 _ _ _ ru2 (by decide) (by decide)).2 ru1 (by decide), (hf4 _ _ _ ru2 (by decide) (by decide)).1⟩, Y4.1, Y4.2.1, ?_, Y4.2.2.2.1, Y4.2.2.2.2⟩ (fun k => ?_) (by omega) (by rw [List.length_append]; show ns.length + 1 ≤ 31; omega) (by omega) (by omega)).locs ?_
    · exact all2.snoc (R := fun x a => isS B (zz h0 O' h4) x (sub t a)) (b := a) S4 Y4.2.2.1
    · by_cases hk : k = 2
      · subst hk; rw [lup_eq]
      · rw [lup_ne _ _ hk]
    · rw [hl]; simp
      show ¬ (1 : Nat) = 2
      decide
