/-! CONTRACTS, 22: the selectors of a rule, its body; new rules, new styles -/
theorem cst_two {α β : Type} {K E K' E' d s s' : Nat} {t : List Nat} {x : Except Nat (α × Nat)} {F : α → Nat → Except Nat (β × Nat)} (hs : s ≤ s') (hx : adv t s' 1 x) (hF : ∀ a j, x = .ok (a, j) → adv t j 0 (F a j)) (hK : K' + d ≤ K) (hE : E' + d ≤ E) : cst K' E' t.length s' x + d ≤ cst K E t.length s (pB x F) := by
  cases x with
  | error w =>
    rw [cst_er rfl, pB_er rfl, cst_er rfl]
    have := Nat.mul_le_mul (show K' ≤ K by omega) (show t.length - s' ≤ t.length - s by omega)
    omega
  | ok q =>
    obtain ⟨a, j⟩ := q
    have h1 := hx a j rfl
    rw [cst_ok rfl, pB_ok rfl, cst_shift (i := s) (j := j) (by omega) h1.2 (hF a j rfl)]
    have h2 := Nat.mul_le_mul hK (show j - s' ≤ j - s by omega)
    have h3 : (K' + d) * (j - s') = K' * (j - s') + d * (j - s') := Nat.add_mul _ _ _
    have h4 := Nat.mul_le_mul_left d (show 1 ≤ j - s' by omega)
    omega
theorem sX.pos {D : xD} {B : Nat → Prop} {h0 h : xH} {r b i j sy ru tc : Nat} {t O : List Nat} {G : Nat → LG} {rs : List RU} {ss : List (List ST)} {ns : List (Nat × Nat)} {ls : List (List ST)} {ds : List TD} (X : sX D B h0 h r b t i O sy ru G rs ss ns ls ds tc) (hr : rdr h r b t j (-1)) : sX D B h0 h r b t j O sy ru G rs ss ns ls ds tc := X.rd (fr.refl _ _) hr
set_option maxRecDepth 20000 in
theorem c_readSelectors {B : Nat → Prop} {l : Launch} {D : xD} {h0 h : xH} {r b i sy ru tc : Nat} {t O : List Nat} {G : Nat → LG} {rs : List RU} {s0 : List (List ST)} {ns : List (Nat × Nat)} {ds : List TD} (Z : sX D B h0 h r b t i O sy ru G rs s0 ns [] ds tc) (hs0 : s0.length ≤ 120) (hBb : B b) : xMet l D 11 y_Sy_readSelectors [.ref sy, .ref r, .ref ru] h (cst 40 80 t.length i (pSels t 121 i s0.length [])) (cst 540 1080 t.length i (pSels t 121 i s0.length [])) (xRes r b t [] h0 (pSels t 121 i s0.length []) (fun ls o h' => o = .inl none ∧ ls ≠ [] ∧ (s0 ++ ls).length ≤ 120 ∧ ∃ (j : Nat) (O' : List Nat) (G' : Nat → LG), sX D B h0 h' r b t j O' sy ru G' rs (s0 ++ ls) ns ls ds tc)) := by
  refine m_Sy_readSelectors (Nat.le_of_ble_eq_true rfl) fun X hl hD hP hA => ?_
  subst hl hD
  have key : ∀ (n k s rc rs' : Nat) (ls : List (List ST)) (O1 : List Nat) (G1 : Nat → LG) (h1 : xH), k + n = 121 → ls.length = k → s0.length + k ≤ 120 → pSels t 121 i s0.length [] = pSels t n s (s0 ++ ls).length ls → sX X.D B h0 h1 r b t s O1 sy ru G1 rs (s0 ++ ls) ns ls ds tc → cst 40 80 t.length s (pSels t n s (s0 ++ ls).length ls) ≤ rc → cst 540 1080 t.length s (pSels t n s (s0 ++ ls).length ls) ≤ rs' → xG X 2 [(3, .int (nI k)), (0, .ref sy), (1, .ref r), (2, .ref ru)] [] h1 rc rs' := by
    intro n
    induction n with
    | zero => intro k s rc rs' ls O1 G1 h1 hk hls hk2; omega
    | succ n ih =>
      intro k s rc rs' ls O1 G1 h1 hk hls hk2 eR Z1 hrc hrs
      have hsl : (s0 ++ ls).length = s0.length + k := by rw [List.length_append, hls]
      obtain ⟨C1, -⟩ := id Z1
      refine xgo [2] 80 hA ?_
      refine xf (fun z => by have := (nI_ltI (a := 120) (b := k) (by omega) (by omega)).mp z; omega) ?_
      refine xcV C1.1.1 (c_sg C1) (by rfl) (by rfl) (by rfl) (Nat.zero_le _) (Nat.zero_le _) ?_
      rintro o h2 ⟨C2, z2, f2, -, rfl⟩
      have Z2 := Z1.rd f2 C2.1
      obtain ⟨-, Ls2, ⟨sy1, sy2⟩, -, Y2⟩ := id Z2
      have L2 := (Ls2.1 1 (by decide)).1
      obtain ⟨lv, hlv⟩ := L2.cell
      have hl := Y2.2.1.len
      refine xg sy2 (by rfl) ?_
      refine xcV hlv (c_AL_size L2) (by rfl) (by rfl) (by rfl) (Nat.zero_le _) (Nat.zero_le _) ?_
      rintro o h3 ⟨rfl, rfl⟩
      by_cases hfull : 120 ≤ (s0 ++ ls).length
      · have e1 : pSels t (n + 1) s (s0 ++ ls).length ls = .error (scan bl t s) := by rw [pSels, if_pos hfull]
        rw [cst_er e1] at hrc hrs
        refine xf (fun z => by have := (nI_ltI (b := 120) (by omega) (by omega)).mp z; omega) ?_
        refine xg C2.1.1 (by rfl) ?_
        refine xfail C2.1 (scan bl t s) (by rfl) rfl (by omega) (by omega) fun e h1 q => xP hP (xRes.er (by rw [eR, e1]) (q.tr C2.2.2.2.1 (fun _ z => absurd z List.not_mem_nil)))
      · have e1 : pSels t (n + 1) s (s0 ++ ls).length ls = pB (pSel t (scan bl t s)) fun l j => if ch t (scan bl t j) = 44 then pSels t n (scan bl t j + 1) ((s0 ++ ls).length + 1) (ls ++ [l]) else .ok (ls ++ [l], scan bl t j) := by rw [pSels, if_neg hfull]
        rw [e1] at hrc hrs
        have hsc := scan_ge bl t s
        have ha : ∀ l j, pSel t (scan bl t s) = .ok (l, j) → adv t j 0 (if ch t (scan bl t j) = 44 then pSels t n (scan bl t j + 1) ((s0 ++ ls).length + 1) (ls ++ [l]) else .ok (ls ++ [l], scan bl t j)) := fun l j e => by
          have hj := (pSel_adv t _ l j e).2
          have h1 := scan_ge bl t j
          by_cases h : ch t (scan bl t j) = 44
          · rw [if_pos h]
            exact (pSels_adv t n _ _ (ch_lt h (by decide))).from (by omega)
          · rw [if_neg h]
            exact adv.ok h1 (scan_le hj)
        have b1 := cst_two (K := 40) (E := 80) (K' := 32) (E' := 64) (d := 4) hsc (pSel_adv t _) ha (by decide) (by decide)
        have b2 := cst_two (K := 540) (E := 1080) (K' := 200) (E' := 400) (d := 331) hsc (pSel_adv t _) ha (by decide) (by decide)
        refine xt ((nI_ltI (b := 120) (by omega) (by omega)).mpr (by omega)) ?_
        refine xn (by omega) (by omega) fun y hy => ?_
        obtain ⟨K3, -⟩ := C2.kid.new (c := (8, [.null, .int 0])) hy rfl
        refine xcI (c_Se_init K3 (by simp) (xset_same _ _ _)) (by rfl) (by rfl) (by rfl) (by omega) (by omega) ?_
        rintro o h4 ⟨cl, ec, K4, -, Lc, y4, rfl⟩
        refine xcV y4 (c_readSteps K4 y4 Lc hBb) (by rfl) (by rfl) (by rfl) (by omega) (by omega) ?_
        intro o h5 q
        rcases Z2.cs q with ⟨w, e2, z⟩ | ⟨sl, j, e2, Z5, z5, f5, rfl, I5⟩
        · obtain ⟨ex, rfl⟩ := z.1
          exact xP hP (xRes.er (by rw [eR, e1, pB_er e2]) z)
        have I5' := I5.ext C2.up
        obtain ⟨C5, Ls5, ⟨-, sy5⟩, ⟨ru1, ru5⟩, Y5⟩ := id Z5
        obtain ⟨ciy, fsy, hy5, hyo⟩ := id I5'.ok
        rw [pB_ok e2] at hrc hrs
        have hj := pSel_adv t _ sl j e2
        have hj2 := scan_ge bl t j
        have haj := ha sl j e2
        rw [cst_ok e2] at b1 b2
        rw [cst_ok e2, cst_ok e2]
        have hl5 := Y5.2.1.len
        have hl53 := Y5.2.2.2.1.len
        obtain ⟨lv5, hlv5⟩ := (Ls5.1 1 (by decide)).1.cell
        refine xg sy5 (by rfl) ?_
        have hgs := gS_120 (G1 1).2.2.length (by omega)
        have ham := amc_le (capN (G1 1).2.2.length) (G1 1).2.2.length
        rw [cst_shift (i := s) (j := j) (by omega) hj.2 haj] at hrc hrs
        refine xcV hlv5 (c_addG (k := 1) C5 Ls5 (by decide) ((zz_some hy5).1) hyo (fun a ha => by
          obtain ⟨cb, -, q⟩ := Y5.2.1.mem a ha
          obtain ⟨c1, c2, c3, c4⟩ := q.ok
          exact ⟨c1, c2, (zz_some c3).1, c4⟩) (by omega)) (by rfl) (by rfl) (by rfl) (by omega) (by omega) ?_
        rintro o h6 ⟨e6, O6, C6, z6, Ls6, hf6, rfl⟩
        have I6 := I5'.ext z6
        have Y6 := Y5.ext z6
        obtain ⟨ciy, fsy, hy6, hyo⟩ := id I6.ok
        have ru6 := hf6 _ _ _ ru5 (by decide) (by decide)
        have sy6 := hf6 _ _ _ sy5 (by decide) (by decide)
        obtain ⟨lv6, hlv6⟩ := (Ls6.1 3 (by decide)).1.cell
        refine xg ru6.1 (by rfl) ?_
        have hgs3 := gS_120 (G1 3).2.2.length (by omega)
        have ham3 := amc_le (capN (G1 3).2.2.length) (G1 3).2.2.length
        refine xcV hlv6 (c_addG (k := 3) C6 Ls6 (by decide) ((zz_some hy6).1) hyo (fun a ha => by
          obtain ⟨cb, -, q⟩ := Y6.2.2.2.1.mem a ha
          obtain ⟨c1, c2, c3, c4⟩ := q.ok
          exact ⟨c1, c2, (zz_some c3).1, c4⟩) (by show (G1 3).2.2.length < _; omega)) (by rfl) (by rfl) (by rfl) (by show amc (capN (G1 3).2.2.length) (G1 3).2.2.length ≤ _; omega) (by show gS ((G1 3).2.2.length + 1) - gS (G1 3).2.2.length ≤ _; omega) ?_
        rintro o h7 ⟨e7, O7, C7, z7, Ls7, hf7, rfl⟩
        have Y7 := Y6.ext z7
        have I7 := I6.ext z7
        have ru7 := hf7 _ _ _ ru6.1 (by decide) (by decide)
        have sy7 := hf7 _ _ _ sy6.1 (by decide) (by decide)
        have Z7 : sX X.D B h0 h7 r b t j O7 sy ru (lup (lup G1 1 ((G1 1).1, e6, (G1 1).2.2 ++ [y])) 3 ((G1 3).1, e7, (G1 3).2.2 ++ [y])) rs (s0 ++ (ls ++ [sl])) ns (ls ++ [sl]) ds tc :=
          ⟨C7, Ls7, ⟨sy7.2 (sy6.2 sy1 (by decide)) (by decide), sy7.1⟩, ⟨ru7.2 (ru6.2 ru1 (by decide)) (by decide), ru7.1⟩, Y7.1, by rw [← List.append_assoc]; exact all2.snoc I7 Y7.2.1, Y7.2.2.1, all2.snoc I7 Y7.2.2.2.1, Y7.2.2.2.2⟩
        refine xcV C7.1.1 (c_sg C7) (by rfl) (by rfl) (by rfl) (Nat.zero_le _) (Nat.zero_le _) ?_
        rintro o h8 ⟨C8, z8, f8, -, rfl⟩
        have Z8 := Z7.rd f8 C8.1
        have hct : ch t (scan bl t j) ≤ 256 := C1.1.2.2.2.2.le _
        refine xb (fun c => ?_) (fun c => ?_)
        · have c1 : ch t (scan bl t j) = 44 := (cI_lit hct (by decide)).mp c
          have hlt := ch_lt c1 (by decide)
          rw [if_pos c1] at hrc hrs
          have e3 : (s0 ++ (ls ++ [sl])).length = (s0 ++ ls).length + 1 := by simp; omega
          have haq : adv t (scan bl t j + 1) 0 (pSels t n (scan bl t j + 1) ((s0 ++ ls).length + 1) (ls ++ [sl])) := pSels_adv t n ((s0 ++ ls).length + 1) (ls ++ [sl]) hlt
          rw [cst_shift (i := j) (j := scan bl t j + 1) (by omega) hlt haq] at hrc hrs
          have hfl : s0.length + (k + 1) ≤ 120 := by omega
          refine xg C8.1.1 (by rfl) ?_
          refine xp (fs' := [.ref b, .int (nI (scan bl t j) + 1), .int (-1)]) C8.1.1 rfl rfl ?_
          rw [nI_1]
          have Z9 := Z8.mv (j := scan bl t j + 1) hlt
          have := ih (k + 1) (scan bl t j + 1) (rc - 1 - 1 - 32 * (j - scan bl t s) - amc (capN (G1 1).2.2.length) (G1 1).2.2.length - amc (capN (G1 3).2.2.length) (G1 3).2.2.length) (rs' - 2 - 3 - 200 * (j - scan bl t s) - (gS ((G1 1).2.2.length + 1) - gS (G1 1).2.2.length) - (gS ((G1 3).2.2.length + 1) - gS (G1 3).2.2.length)) (ls ++ [sl]) O7 _ _ (by omega) (by simp; omega) hfl (by rw [eR, e1, pB_ok e2, if_pos c1, e3]) Z9 (by rw [e3]; omega) (by rw [e3]; omega)
          rw [← nI_1] at this
          exact this.locs (by simp)
        · have c1 : ¬ ch t (scan bl t j) = 44 := fun z => c (by rw [z]; rfl)
          refine xP hP (xRes.ok (by rw [eR, e1, pB_ok e2, if_neg c1]) C8.1 C8.2.2.2.1 ⟨rfl, by simp, by simp; omega, _, O7, _, Z8⟩)
  refine xgo [2] 40 hA ?_
  exact key 121 0 i _ _ [] O G h rfl rfl (by omega) (by simp) (by rw [List.append_nil]; exact Z) (by rw [List.append_nil]; exact Nat.le_refl _) (by rw [List.append_nil]; exact Nat.le_refl _)
