/-! CONTRACTS, 29: what counts for an element -/
/-- the later one is ahead -/
def ahd (p : TD × Nat) (w : Nat) (q : TD × Nat) (v : Nat) : Bool := if tst p.1 = tst q.1 then decide (v ≤ w) else tst p.1
theorem bI_inj {a b : Bool} : bI a = bI b ↔ a = b := by cases a <;> cases b <;> decide
set_option maxRecDepth 20000 in
theorem c_isAhead {B : Nat → Prop} {l : Launch} {D : xD} {h : xH} {ty : List Nat} {x y w v : Nat} {p q : TD × Nat} (I : isTd B h ty x p.2 p.1) (J : isTd B h ty y q.2 q.1) (hw : w < 2 ^ 31) (hv : v < 2 ^ 31) : xMet l D 0 y_Sy_isAhead [.ref x, .int (nI w), .ref y, .int (nI v)] h 0 0 (fun o h' => h' = h ∧ o = .inl (some (.int (bI (ahd p w q v))))) := by
  obtain ⟨tv, x1, -⟩ := I
  obtain ⟨tv2, y1, -⟩ := J
  refine m_Sy_isAhead (Nat.le_of_ble_eq_true rfl) fun X hl hD hP hA => ?_
  subst hl hD
  have fin : ∀ (v' : Int32) (q' : Bool), ahd p w q v = q' → v' = bI q' → narrow .boolean (.int v') = .int v' ∧ X.P (.inl (some (.int v'))) h := by
    intro v' q' e1 e2
    subst e2
    exact ⟨bI_nar q', xP hP ⟨rfl, by rw [e1]⟩⟩
  unfold ahd at fin
  refine xgo [] 60 hA ?_
  refine xg x1 (by rfl) ?_
  refine xg y1 (by rfl) ?_
  refine xb (fun c => ?_) (fun c => ?_)
  · refine xg x1 (by rfl) ?_
    exact fin _ (tst p.1) (if_neg fun z => c (by rw [show p.1.2.2.2.2.2 = q.1.2.2.2.2.2 from z])) rfl
  · have c1 : tst p.1 = tst q.1 := bI_inj.mp c
    refine xb (fun c2 => ?_) (fun c2 => ?_)
    · exact fin 0 false (by rw [if_pos c1]; exact decide_eq_false fun z => by have := (nI_ltI hw hv).mp c2; omega) rfl
    · exact fin 1 true (by rw [if_pos c1]; exact decide_eq_true (Nat.le_of_not_lt fun z => c2 ((nI_ltI hw hv).mpr z))) rfl
def cS (ts ty : List Nat) (S : SS) (e wh : Nat) (b : Option ((TD × Nat) × Nat)) (R : Nat × RU) : Option ((TD × Nat) × Nat) := match ld wh (R.2.2.zipIdx R.1) with
  | none => b
  | some p => if wF ts ty S e R.2.1 = 0 then b else match b with
    | none => some (p, wF ts ty S e R.2.1 - 1)
    | some q => if ahd p (wF ts ty S e R.2.1 - 1) q.1 q.2 = true then some (p, wF ts ty S e R.2.1 - 1) else b
/-- what counts: told one, its number, weight -/
def cF (ts ty : List Nat) (S : SS) (e wh : Nat) (rs : List RU) : Option ((TD × Nat) × Nat) := (idx 0 rs).foldl (cS ts ty S e wh) none
/-- a style that is through -/
def styR (D : xD) (B : Nat → Prop) (h : xH) (sy : Nat) (t : List Nat) (rs : List RU) (ss : List (List ST)) (ns : List (Nat × Nat)) : Prop := ∃ (lr er ls es ln en : Nat) (xr xs xn : List Nat), h sy = some (11, [.ref lr, .ref ls, .ref ln, .int (nI (tcs rs))]) ∧ isL D h lr er xr ∧ isL D h ls es xs ∧ isL D h ln en xn ∧ all2 (fun x p => isRu D B h t x p.1 p.2) xr (idx 0 rs) ∧ all2 (isSl D B h t) xs ss ∧ all2 (fun x a => isS B h x (sub t a)) xn ns
theorem styR.ext {D : xD} {B : Nat → Prop} {z z' : xH} {sy : Nat} {t : List Nat} {rs : List RU} {ss : List (List ST)} {ns : List (Nat × Nat)} (H : styR D B z sy t rs ss ns) (f : fr [] z z') : styR D B z' sy t rs ss ns := by
  obtain ⟨lr, er, ls, es, ln, en, xr, xs, xn, h1, h2, h3, h4, h5, h6, h7⟩ := H
  exact ⟨lr, er, ls, es, ln, en, xr, xs, xn, f _ _ h1 (by simp), h2.ext f, h3.ext f, h4.ext f, h5.mono fun a b q => q.ext f, h6.mono fun a b q => q.ext f, h7.mono fun a b q => q.ext f⟩
/-- what the rules of a style keep to -/
def ruOk (nn : Nat) (R : RU) : Prop := (∀ l ∈ R.1, selOk l) ∧ R.1.length ≤ 120 ∧ R.2.length ≤ 600 ∧ ∀ d ∈ R.2, d.1 < nn
theorem idx_mem : ∀ (rs : List RU) (c : Nat) (p : Nat × RU), p ∈ idx c rs → p.2 ∈ rs
  | [], _, _, h => by cases h
  | R :: rs, c, p, h => by
    rcases List.mem_cons.mp h with rfl | h
    · exact List.mem_cons_self
    · exact List.mem_cons_of_mem _ (idx_mem rs _ p h)
/-- what was best so far, in the locals -/
def bwI (b : Option ((TD × Nat) × Nat)) : Int32 := match b with
  | none => 0
  | some q => nI q.2
def cB (b : Option ((TD × Nat) × Nat)) : Prop := ∀ q, b = some q → q.2 < 2 ^ 30
set_option maxRecDepth 20000 in
theorem c_countingFor {B B' : Nat → Prop} {l : Launch} {D : xD} {z h : xH} {ts ty : List Nat} {S : SS} {G : SG} {rc sy e wh nn : Nat} {wv : Int32} {rs : List RU} {ss : List (List ST)} {ns : List (Nat × Nat)} {vs : List Value} (Z : zE D B z h ts S G rc) (I : styR D B' z sy ty rs ss ns) (he : e < S.n) (hrc : h rc = some (105, vs)) (hvs : vs.length = 20) (hR : ∀ R ∈ rs, ruOk nn R) (hrn : rs.length ≤ 120) (hw : ∀ d, d < nn → (nI d = wv ↔ d = wh)) : xMet l D 8 y_Sy_countingFor [.ref sy, .ref (G.ad e), .int wv, .ref rc] h 0 0 (fun o h' => (∃ vs', h' = xset h rc (105, vs') ∧ vs'.length = 20) ∧ ∃ v, o = .inl (some v) ∧ tdO B' z ty v ((cF ts ty S e wh rs).map (fun q => q.1))) := by
  obtain ⟨lr, er, ls', es, ln, en, xr, xs, xn, h1, h2, h3, h4, h5, h6, h7⟩ := I
  have hle := h5.len
  have hil := idx_len rs 0
  refine m_Sy_countingFor (Nat.le_of_ble_eq_true rfl) fun X hl hD hP hA => ?_
  subst hl hD
  have key : ∀ (n k : Nat) (v : Value) (b : Option ((TD × Nat) × Nat)) (vs1 : List Value) (ls : xL), k + n = xr.length → vs1.length = 20 → ((idx 0 rs).take k).foldl (cS ts ty S e wh) none = b → cB b → tdO B' z ty v (b.map fun q => q.1) → (∀ p ∈ [(6, Value.int (nI k)), (5, .int (bwI b)), (4, v), (0, .ref sy), (1, .ref (G.ad e)), (2, .int wv), (3, .ref rc)], p ∈ ls) → xG X 9 ls [] (xset h rc (105, vs1)) 0 0 := by
    intro n
    induction n with
    | zero =>
      intro k v b vs1 ls hk hv1 hb hcb hT hls
      refine xG.locs ?_ hls
      have hk : k = xr.length := by omega
      have Z1 := Z.put (c := (105, vs1))
      have L1 := h2.ext Z1.1
      obtain ⟨sv, hsl⟩ := L1.cell
      obtain ⟨g1, -⟩ := Z1.at he
      have fin : X.P (.inl (some v)) (xset h rc (105, vs1)) := xP hP ⟨⟨vs1, rfl, hv1⟩, v, rfl, by
        rw [hk, hle, List.take_length] at hb
        rw [cF, hb]; exact hT⟩
      rcases hT.nr with rfl | ⟨y, rfl⟩
      · refine xgo [] 60 hA ?_
        refine xg g1 (by rfl) ?_
        refine xg (Z1.1 _ _ h1 (by simp)) (by rfl) ?_
        refine xcV hsl (c_AL_size L1) (by rfl) (by rfl) (by rfl) (Nat.zero_le _) (Nat.zero_le _) ?_
        rintro o h8 ⟨rfl, rfl⟩
        exact xt (by rw [hk]; exact Int32.le_refl _) fin
      · refine xgo [] 60 hA ?_
        refine xg g1 (by rfl) ?_
        refine xg (Z1.1 _ _ h1 (by simp)) (by rfl) ?_
        refine xcV hsl (c_AL_size L1) (by rfl) (by rfl) (by rfl) (Nat.zero_le _) (Nat.zero_le _) ?_
        rintro o h8 ⟨rfl, rfl⟩
        exact xt (by rw [hk]; exact Int32.le_refl _) fin
    | succ n ih =>
      intro k v b vs1 ls hk hv1 hb hcb hT hls
      refine xG.locs ?_ hls
      have c1 : k < xr.length := by omega
      have hst : ((idx 0 rs).take (k + 1)).foldl (cS ts ty S e wh) none = cS ts ty S e wh b ((idx 0 rs)[k]'(by omega)) := by rw [fold_take _ _ _ (by omega), hb]
      have Rk := h5.at k c1 (by omega)
      have hmem := idx_mem rs 0 _ (List.getElem_mem (l := idx 0 rs) (n := k) (by omega))
      generalize hpk : (idx 0 rs)[k]'(by omega) = pk at hst hmem Rk
      obtain ⟨o1, o2, o3, o4⟩ := hR _ hmem
      have hw' : ∀ d ∈ pk.2.2, nI d.1 = wv ↔ d.1 = wh := fun d hd => hw _ (o4 d hd)
      obtain ⟨_, _, _, _, _, _, y1, -⟩ := id Rk
      have hwm := wF_le (ts := ts) (ty := ty) (S := S) (e := e) pk.2.1 0 (fun l hl => by
        obtain ⟨_, _, _, _, _, _, _, _, _, q4, _⟩ := id Rk
        obtain ⟨a, -, q⟩ := q4.mem2 l hl
        exact q.wgt) (by omega)
      have nxt : ∀ (v' : Value) (w' : Int32) (vs2 : List Value) (ls : xL), vs2.length = 20 → cB (cS ts ty S e wh b pk) → w' = bwI (cS ts ty S e wh b pk) → tdO B' z ty v' ((cS ts ty S e wh b pk).map fun q => q.1) → (∀ p ∈ [(6, Value.int (nI k + 1)), (5, .int w'), (4, v'), (0, .ref sy), (1, .ref (G.ad e)), (2, .int wv), (3, .ref rc)], p ∈ ls) → xG X 9 ls [] (xset h rc (105, vs2)) 0 0 := by
        intro v' w' vs2 ls q1 q2 q3 q4 q5
        refine ih (k + 1) v' _ vs2 ls (by omega) q1 hst q2 q4 ?_
        rw [← nI_1, ← q3]; exact q5
      -- behind the leading one
      have aft : ∀ (tl : Value) (ls : xL), tdO B' z ty tl (ld wh (pk.2.2.zipIdx pk.1)) → (∀ p ∈ [(7, tl), (6, Value.int (nI k)), (5, .int (bwI b)), (4, v), (0, .ref sy), (1, .ref (G.ad e)), (2, .int wv), (3, .ref rc)], p ∈ ls) → xG X 46 ls [] (xset h rc (105, vs1)) 0 0 := by
        intro tl ls hl hls
        refine xG.locs ?_ hls
        have Z1 := Z.put (c := (105, vs1))
        have L1 := h2.ext Z1.1
        obtain ⟨sv, hsl⟩ := L1.cell
        cases hld : ld wh (pk.2.2.zipIdx pk.1) with
        | none =>
          rw [hld] at hl
          have hl : tl = .null := hl
          subst hl
          have ecs : cS ts ty S e wh b pk = b := by unfold cS; rw [hld]
          rw [ecs] at nxt
          rcases hT.nr with rfl | ⟨y, rfl⟩
          · refine xgo [9] 60 hA ?_
            refine xt (by decide) ?_
            exact nxt .null _ vs1 _ hv1 hcb rfl hT (by simp)
          · refine xgo [9] 60 hA ?_
            refine xt (by decide) ?_
            exact nxt (.ref y) _ vs1 _ hv1 hcb rfl hT (by simp)
        | some p =>
          rw [hld] at hl
          obtain ⟨yt, rfl, Tt⟩ := hl
          have wgo : ∀ (ls : xL) (vs2 : List Value), vs2.length = 20 → (∀ p ∈ [(7, Value.ref yt), (6, Value.int (nI k)), (5, .int (bwI b)), (4, v), (0, .ref sy), (1, .ref (G.ad e)), (2, .int wv), (3, .ref rc)], p ∈ ls) → xG X 72 ls [.int (wI (wF ts ty S e pk.2.1))] (xset h rc (105, vs2)) 0 0 := by
            intro ls vs2 hv2 hls
            refine xG.locs ?_ hls
            have Z2 := Z.put (c := (105, vs2))
            have hwm' : wF ts ty S e pk.2.1 ≤ 3209 := hwm
            by_cases hw0 : wF ts ty S e pk.2.1 = 0
            · have ecs : cS ts ty S e wh b pk = b := by unfold cS; rw [hld]; simp only []; rw [if_pos hw0]
              rw [ecs] at nxt
              rw [hw0]
              rcases hT.nr with rfl | ⟨y, rfl⟩
              · refine xgo [9] 60 hA ?_
                refine xt (by decide) ?_
                exact nxt .null _ vs2 _ hv2 hcb rfl hT (by simp)
              · refine xgo [9] 60 hA ?_
                refine xt (by decide) ?_
                exact nxt (.ref y) _ vs2 _ hv2 hcb rfl hT (by simp)
            · rw [wI, if_neg hw0]
              have hlt : wF ts ty S e pk.2.1 - 1 < 2 ^ 30 := by omega
              cases b with
              | none =>
                have hT : v = .null := hT
                subst hT
                have ecs : cS ts ty S e wh none pk = some (p, wF ts ty S e pk.2.1 - 1) := by unfold cS; rw [hld]; simp only []; rw [if_neg hw0]
                rw [ecs] at nxt
                refine xgo [9] 60 hA ?_
                refine xf (nI_neg (by omega)) ?_
                exact nxt (.ref yt) (nI (wF ts ty S e pk.2.1 - 1)) vs2 _ hv2 (fun q hq => by cases hq; exact hlt) rfl ⟨yt, rfl, Tt⟩ (by simp)
              | some q =>
                obtain ⟨yb, rfl, Tb⟩ := hT
                have hq := hcb q rfl
                refine xgo [9] 60 hA ?_
                refine xf (nI_neg (by omega)) ?_
                refine xcS (c_isAhead (p := p) (q := q.1) (w := wF ts ty S e pk.2.1 - 1) (v := q.2) (Tt.ext Z2.1) (Tb.ext Z2.1) (by omega) (by omega)) (by rfl) (by rfl) (by rfl) (Nat.zero_le _) (Nat.zero_le _) ?_
                rintro o h8 ⟨rfl, rfl⟩
                refine xb (fun c => ?_) (fun c => ?_)
                · have ecs : cS ts ty S e wh (some q) pk = some q := by unfold cS; rw [hld]; simp only []; rw [if_neg hw0, if_neg (fun y => by rw [(bI_0 _).mp c] at y; cases y)]
                  rw [ecs] at nxt
                  exact nxt (.ref yb) _ vs2 _ hv2 hcb rfl ⟨yb, rfl, Tb⟩ (by simp)
                · have ecs : cS ts ty S e wh (some q) pk = some (p, wF ts ty S e pk.2.1 - 1) := by unfold cS; rw [hld]; simp only []; rw [if_neg hw0, if_pos ((bI_n0 _).mp c)]
                  rw [ecs] at nxt
                  exact nxt (.ref yt) (nI (wF ts ty S e pk.2.1 - 1)) vs2 _ hv2 (fun q hq => by cases hq; exact hlt) rfl ⟨yt, rfl, Tt⟩ (by simp)
          have Rk1 := Rk.ext Z1.1
          rcases hT.nr with rfl | ⟨y, rfl⟩
          · refine xgo [72] 60 hA ?_
            refine xg (Z1.1 _ _ h1 (by simp)) (by rfl) ?_
            refine xcV hsl (c_AL_get L1 c1) (by rfl) (by rfl) (by rfl) (Nat.zero_le _) (Nat.zero_le _) ?_
            rintro o h8 ⟨rfl, rfl⟩
            refine xct (Z1.1 _ _ y1 (by simp)) rfl ?_
            refine xcV (Z1.1 _ _ y1 (by simp)) (c_weightFor Z1 Rk he (xset_same _ _ _) hv1 o1 o2) (by rfl) (by rfl) (by rfl) (Nat.zero_le _) (Nat.zero_le _) ?_
            rintro o h8 ⟨⟨vs2, rfl, hv2⟩, rfl⟩
            rw [xset_set]
            exact wgo _ vs2 hv2 (by simp)
          · refine xgo [72] 60 hA ?_
            refine xg (Z1.1 _ _ h1 (by simp)) (by rfl) ?_
            refine xcV hsl (c_AL_get L1 c1) (by rfl) (by rfl) (by rfl) (Nat.zero_le _) (Nat.zero_le _) ?_
            rintro o h8 ⟨rfl, rfl⟩
            refine xct (Z1.1 _ _ y1 (by simp)) rfl ?_
            refine xcV (Z1.1 _ _ y1 (by simp)) (c_weightFor Z1 Rk he (xset_same _ _ _) hv1 o1 o2) (by rfl) (by rfl) (by rfl) (Nat.zero_le _) (Nat.zero_le _) ?_
            rintro o h8 ⟨⟨vs2, rfl, hv2⟩, rfl⟩
            rw [xset_set]
            exact wgo _ vs2 hv2 (by simp)
      have Z1 := Z.put (c := (105, vs1))
      have L1 := h2.ext Z1.1
      obtain ⟨sv, hsl⟩ := L1.cell
      obtain ⟨g1, -⟩ := Z1.at he
      have lead : ∀ ls : xL, (∀ p ∈ [(6, Value.int (nI k)), (5, .int (bwI b)), (4, v), (0, .ref sy), (1, .ref (G.ad e)), (2, .int wv), (3, .ref rc)], p ∈ ls) → (v = .null ∨ ∃ y : Nat, v = .ref y) → xG X 41 ls [.int wv, .ref xr[k]] (xset h rc (105, vs1)) 0 0 := by
        intro ls hls hv
        refine xG.locs ?_ hls
        rcases hv with rfl | ⟨y, rfl⟩
        · refine xgo [44] 60 hA ?_
          refine xcV (Z1.1 _ _ y1 (by simp)) (c_leading Rk Z1.1 hw' o3) (by rfl) (by rfl) (by rfl) (Nat.zero_le _) (Nat.zero_le _) ?_
          rintro o h8 ⟨rfl, tl, rfl, hT2⟩
          rcases hT2.nr with rfl | ⟨y2, rfl⟩
          · refine xgo [46] 60 hA ?_
            exact aft .null _ hT2 (by simp)
          · refine xgo [46] 60 hA ?_
            exact aft (.ref y2) _ hT2 (by simp)
        · refine xgo [44] 60 hA ?_
          refine xcV (Z1.1 _ _ y1 (by simp)) (c_leading Rk Z1.1 hw' o3) (by rfl) (by rfl) (by rfl) (Nat.zero_le _) (Nat.zero_le _) ?_
          rintro o h8 ⟨rfl, tl, rfl, hT2⟩
          rcases hT2.nr with rfl | ⟨y2, rfl⟩
          · refine xgo [46] 60 hA ?_
            exact aft .null _ hT2 (by simp)
          · refine xgo [46] 60 hA ?_
            exact aft (.ref y2) _ hT2 (by simp)
      rcases hT.nr with hv | ⟨y, hv⟩
      · subst hv
        refine xgo [41] 60 hA ?_
        refine xg g1 (by rfl) ?_
        refine xg (Z1.1 _ _ h1 (by simp)) (by rfl) ?_
        refine xcV hsl (c_AL_size L1) (by rfl) (by rfl) (by rfl) (Nat.zero_le _) (Nat.zero_le _) ?_
        rintro o h8 ⟨rfl, rfl⟩
        refine xf (fun y => by have := (nI_leI (a := xr.length) (b := k) (by omega) (by omega)).mp y; omega) ?_
        refine xg (Z1.1 _ _ h1 (by simp)) (by rfl) ?_
        refine xcV hsl (c_AL_get L1 c1) (by rfl) (by rfl) (by rfl) (Nat.zero_le _) (Nat.zero_le _) ?_
        rintro o h8 ⟨rfl, rfl⟩
        refine xct (Z1.1 _ _ y1 (by simp)) rfl ?_
        exact lead _ (by simp) (Or.inl rfl)
      · subst hv
        refine xgo [41] 60 hA ?_
        refine xg g1 (by rfl) ?_
        refine xg (Z1.1 _ _ h1 (by simp)) (by rfl) ?_
        refine xcV hsl (c_AL_size L1) (by rfl) (by rfl) (by rfl) (Nat.zero_le _) (Nat.zero_le _) ?_
        rintro o h8 ⟨rfl, rfl⟩
        refine xf (fun y => by have := (nI_leI (a := xr.length) (b := k) (by omega) (by omega)).mp y; omega) ?_
        refine xg (Z1.1 _ _ h1 (by simp)) (by rfl) ?_
        refine xcV hsl (c_AL_get L1 c1) (by rfl) (by rfl) (by rfl) (Nat.zero_le _) (Nat.zero_le _) ?_
        rintro o h8 ⟨rfl, rfl⟩
        refine xct (Z1.1 _ _ y1 (by simp)) rfl ?_
        exact lead _ (by simp) (Or.inr ⟨y, rfl⟩)
  refine xgo [9] 60 hA ?_
  have := key xr.length 0 .null none vs [(6, .int (nI 0)), (5, .int 0), (4, .null), (0, .ref sy), (1, .ref (G.ad e)), (2, .int wv), (3, .ref rc)] (by omega) hvs rfl (fun q hq => by cases hq) rfl (by simp [bwI])
  rw [xset_self hrc] at this
  exact this
