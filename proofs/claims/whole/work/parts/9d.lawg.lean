/-! THE LAW, 7: its loop -/
theorem lw_end6 {L i : Nat} (h : L < i + 6) (hL : L ≤ 3072) (hi : i ≤ 4000) : nI L - 6 < nI i := by
  by_cases h6 : 6 ≤ L
  · rw [show nI L - 6 = nI (L - 6) from nI_sub (b := 6) h6]
    exact nI_lt (by omega) (by omega)
  · have h0 : nI L - 6 < 0 := by
      have : L = 0 ∨ L = 1 ∨ L = 2 ∨ L = 3 ∨ L = 4 ∨ L = 5 := by omega
      rcases this with rfl | rfl | rfl | rfl | rfl | rfl <;> decide
    exact Int32.lt_of_lt_of_le h0 (nI_pos' (by omega))
theorem dfM_lit : (List.range 85).map dfM = [.int 0, .null, .int 0, .null, .int 0, .int 0, .int 0, .null, .int 0, .int 0, .int 0, .int 0, .null, .null, .null, .null, .null, .null, .null, .null, .null, .null, .null, .null, .null, .null, .null, .null, .null, .null, .null, .null, .int 0, .null, .null, .null, .null, .int 0, .int 0, .int 0, .int 0, .null, .int 0, .null, .int 0, .int 0, .int 0, .int 0, .int 0, .int 0, .int 0, .int 0, .int 0, .null, .null, .null, .null, .null, .null, .null, .null, .null, .null, .null, .null, .null, .null, .null, .int 0, .int 0, .null, .null, .null, .null, .null, .null, .null, .null, .null, .int 0, .null, .null, .null, .null, .int 0] := by rfl
theorem svL_len (L : Nat) (xs : Nat → Int32) : (svL L xs).length = L := by unfold svL; rw [List.length_map, List.length_range]
section
variable {X : xX} {sc ou b L : Nat} {K : CK} {M : MA} {xs : Nat → Int32}
set_option maxRecDepth 20000 in
theorem lw_loop (hA : xAll X (tb_Lw_law X)) (hM : mok M) (hL : L ≤ 3072) (hP : X.P = fun o _ => o = .inl (some (.int 1))) : ∀ (n i rc rs : Nat) (h : xH) (A : AS) (S : MS), L < i + 6 * (n + 1) → i ≤ 4000 → LJ X.D sc K M ou b (svL L xs) h A A S → 900 * n + 44 * A.tp.length ≤ rc → 11100 * n + 551 * A.tp.length ≤ rs → xG X 23 (lwL M sc ou b i) [] h rc rs := by
  have ex : ∀ (i rc rs : Nat) (h : xH) (A : AS) (S : MS), L < i + 6 → i ≤ 4000 → LJ X.D sc K M ou b (svL L xs) h A A S → xG X 23 (lwL M sc ou b i) [] h rc rs := by
    intro i rc rs h A S h1 h2 J
    refine xgo [] 20 hA ?_
    refine xln (t := 0) (Or.inr J.2.2.2.2) (by decide) ?_
    rw [svL_len]
    refine xt (lw_end6 h1 hL h2) ?_
    exact ⟨rfl, xP hP rfl⟩
  intro n
  induction n with
  | zero =>
    intro i rc rs h A S h1 h2 J _ _
    exact ex i rc rs h A S (by omega) h2 J
  | succ m ih =>
    intro i rc rs h A S h1 h2 J hc hs
    by_cases hi : i + 6 ≤ L
    rotate_left
    · exact ex i rc rs h A S (by omega) h2 J
    have nx : lwN X sc ou b L i rc rs K M xs A := by
      intro h' A' S' rc' rs' J' p1 p2
      refine xgo [23] 10 hA ?_
      have q := ih (i + 6) rc' rs' h' A' S' (by omega) (by omega) J' (by omega) (by omega)
      have e : nI i + 6 = nI (i + 6) := nI_add i 6
      unfold lwL at q
      rw [← e] at q
      exact q.locs (by simp)
    have c1 : 900 + 44 * A.tp.length ≤ rc := by omega
    have c2 : 11100 + 551 * A.tp.length ≤ rs := by omega
    refine xgo [112, 216, 272, 316, 360, 373, 429, 485, 529, 585, 653, 721, 789, 844, 900] 30 hA ?_
    refine xln (t := 0) (Or.inr J.2.2.2.2) (by decide) ?_
    rw [svL_len]
    refine xf (fun z => by
      rw [show nI L - 6 = nI (L - 6) from nI_sub (b := 6) (by omega)] at z
      have := (nI_ltI (by omega) (by omega)).mp z
      omega) ?_
    refine xld (Or.inr J.2.2.2.2) rfl (svL_at (xs := xs) (show i < L by omega)) ?_
    exact xb (fun _ => lw_feed hA hM J hi c1 c2 nx) (fun _ => xb (fun _ => lw_end hA hM J hi c1 c2 nx) (fun _ => xb (fun _ => lw_source hA hM J hi c1 c2 nx) (fun _ => xb (fun _ => lw_style hA hM J hi c1 c2 nx) (fun _ => xb (fun _ => lw_place hA hM J nx) (fun _ => xb (fun _ => lw_property hA hM J hi c1 c2 nx) (fun _ => xb (fun _ => lw_by hA hM J hi c1 c2 nx) (fun _ => xb (fun _ => lw_select hA hM J hi c1 c2 nx) (fun _ => xb (fun _ => lw_found hA hM J hi c1 c2 nx) (fun _ => xb (fun _ => lw_fits hA hM J hi c1 c2 nx) (fun _ => xb (fun _ => lw_element hA hM J hi c1 c2 nx) (fun _ => xb (fun _ => lw_tell hA hM J hi c1 c2 nx) (fun _ => xb (fun _ => lw_word hA hM J hi c1 c2 nx) (fun _ => xb (fun _ => lw_count hA hM J hi c1 c2 nx) (fun _ => nx h A S rc rs J (by omega) (by omega)))))))))))))))
set_option maxRecDepth 20000 in
theorem lw_go {h : xH} (hA : xAll X (tb_Lw_law X)) (hL : L ≤ 3072) (hP : X.P = fun o _ => o = .inl (some (.int 1))) (E : env X.D h) (hb : h b = some (200, svL L xs)) : xG X 0 [(0, .ref b)] [] h 601024 7293034 := by
  refine xgo [8] 20 hA ?_
  refine xn (Nat.le_of_ble_eq_true rfl) (Nat.le_of_ble_eq_true rfl) fun sc hsc => ?_
  have E1 : env X.D (xset h sc (0, [.null, .int 0, .null, .int 0, .null, .int 0, .int 0, .null, .null, .null, .null, .null])) := E.kept (fun q c e _ => xst2 (xnn e hsc) e)
  have hb1 : xset h sc (0, [.null, .int 0, .null, .int 0, .null, .int 0, .int 0, .null, .null, .null, .null, .null]) b = some (200, svL L xs) := xst2 (xnn hb hsc) hb
  refine xcI (c_Sc_init E1 (xset_same _ _ _)) (by rfl) (by rfl) (by rfl) (Nat.le_of_ble_eq_true rfl) (Nat.le_of_ble_eq_true rfl) ?_
  rintro o h1 ⟨rfl, f1, K, hK⟩
  have hbs : b ≠ sc := xnn hb hsc
  have R1 := hK (fun q => if q = b then some (200, svL L xs) else none) (fun q c e => by
    split at e
    · rename_i z
      subst z
      cases e
      exact ⟨hb1, hbs, (by show (200 : Nat) ≠ 0; decide), (by show (200 : Nat) ≠ 1; decide), (by show (200 : Nat) ≠ 105; decide)⟩
    · cases e)
  have hb2 : h1 b = some (200, svL L xs) := (R1.in (if_pos rfl)).1
  show xG X 8 [(1, .ref sc), (0, .ref b)] [] h1 600993 7267022
  refine xgo [11] 20 hA ?_
  refine xn (Nat.le_of_ble_eq_true rfl) (Nat.le_of_ble_eq_true rfl) fun m hm => ?_
  rw [← dfM_lit]
  obtain ⟨h2, hh2⟩ : ∃ h2, h2 = xset h1 m (13, (List.range 85).map dfM) := ⟨_, rfl⟩
  have e2 : h2 m = some (13, (List.range 85).map dfM) := by rw [hh2]; exact xset_same _ _ _
  have o2 : ∀ q, q ≠ m → h2 q = h1 q := fun q hq => by rw [hh2]; exact xset_ne _ _ hq
  rw [← hh2]
  show xG X 11 [(1, .ref sc), (0, .ref b)] [.ref m] h2 600992 7266937
  refine xgo [16] 20 hA ?_
  refine xcI (c_Mo_init e2) (by rfl) (by rfl) (by rfl) (Nat.le_of_ble_eq_true rfl) (Nat.le_of_ble_eq_true rfl) ?_
  rintro o h3 ⟨rfl, ad, hM, rfl, hfr⟩
  have hM : mok (m, ad) := hM
  have f3 : ∀ k ∈ arF, h1 (ad k) = none := fun k hk => by
    rw [← o2 (ad k) (hM.1 k hk)]; exact hfr k hk
  show xG X 16 [(2, .ref m), (1, .ref sc), (0, .ref b)] [] (mH h2 (m, ad) S00) 600935 7070613
  refine xgo [23] 20 hA ?_
  refine xna (N := 1) (by rfl) (by decide) (Nat.le_of_ble_eq_true rfl) (Nat.le_of_ble_eq_true rfl) fun ou hou => ?_
  have nm : ou ≠ m := fun z => by rw [z, show m = (m, ad).1 from rfl, mH_m] at hou; cases hou
  have na : ∀ k ∈ arF, ad k ≠ ou := fun k hk z => by rw [← z, show ad k = (m, ad).2 k from rfl, mH_a hM hk] at hou; cases hou
  have o1 : h1 ou = none := by
    rw [mH_o (M := (m, ad)) nm na, o2 ou nm] at hou
    exact hou
  obtain ⟨h4, hh4⟩ : ∃ h4, h4 = xset (mH h2 (m, ad) S00) ou (100 + 2, List.replicate 1 (Value.long 0)) := ⟨_, rfl⟩
  have k1 : h4 m = some (13, mV (m, ad) S00) := by rw [hh4]; exact xst2 (Ne.symm nm) (mH_m _ _ _)
  have k2 : ∀ k ∈ arF, h4 (ad k) = some (kdK k, mA S00 k) := fun k hk => by rw [hh4]; exact xst2 (na k hk) (mH_a hM hk)
  have k3 : h4 ou = some (102, [.long 0]) := by rw [hh4]; exact xset_same _ _ _
  have k4 : ∀ q c, h1 q = some c → h4 q = some c := fun q c e => by
    have z1 : q ≠ m := xnn e hm
    have z2 : ∀ k ∈ arF, ad k ≠ q := fun k hk => Ne.symm (xnn e (f3 k hk))
    have z3 : q ≠ ou := xnn e o1
    rw [hh4]
    refine xst2 z3 ?_
    rw [mH_o (M := (m, ad)) z1 z2, o2 q z1]
    exact e
  obtain ⟨rd, so, sy, G, T, O, fv, rv, hv, v0, v1, r1, ⟨r2, -⟩, ⟨r4, -⟩, ⟨r6, -⟩, r8, ⟨r9, -⟩, ⟨r11, -⟩, -⟩ := id R1
  have bk : ∀ k ∈ arF, bK K (ad k) := fun k hk => ⟨Ne.symm (xnn r2 (f3 k hk)), Ne.symm (xnn r4 (f3 k hk)), Ne.symm (xnn r6 (f3 k hk)), Ne.symm (xnn r11 (f3 k hk))⟩
  have hb4 := k4 _ _ hb2
  have J : LJ X.D sc K (m, ad) ou b (svL L xs) h4 AS0 AS0 S00 := by
    refine ⟨R1.mv (fun q c e => Or.inl (k4 q c e)) (fun q c hc => ?_), ⟨h4, mH_self k1 k2⟩, mR00, ⟨_, k3⟩, hb4⟩
    obtain ⟨z1, z2⟩ := zH_of hc
    refine ⟨z2, ?_⟩
    rcases zB_cs z1 with y | ⟨k, hk, y⟩ | y | y
    · have y : q = m := y
      subst y; rw [k1] at z2; cases z2; exact gd.k rfl
    · have y : ad k = q := y
      subst y
      rw [k2 k hk] at z2
      cases z2
      rcases kd_cs k with w | w
      · rw [w]; exact gd.k rfl
      · rw [w]; exact ⟨fun z => (by cases z), fun z => (by cases z), fun _ => bk k hk, fun z => (by cases z), fun z => (by cases z)⟩
    · subst y; rw [k3] at z2; cases z2; exact gd.k rfl
    · subst y; rw [hb4] at z2; cases z2; exact gd.k rfl
  have := lw_loop (K := K) hA hM hL hP 512 0 600934 7070612 h4 AS0 S00 (by omega) (by omega) J (by show 900 * 512 + 44 * 0 ≤ _; omega) (by show 11100 * 512 + 551 * 0 ≤ _; omega)
  rw [hh4] at this
  exact this.locs (by simp [lwL, nI_zero])
end
