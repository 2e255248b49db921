/-! CONTRACTS, 2: frames, failures, the reader -/
theorem xst2 {h : xH} {a q : Nat} {c d : xC} (hq : q ≠ a) (e : h q = some d) : xset h a c q = some d := by rw [xset_ne _ _ hq]; exact e
/-- all that h holds stands in h', but for M -/
def fr (M : List Nat) (h h' : xH) : Prop := ∀ q c, h q = some c → q ∉ M → h' q = some c
theorem fr.refl (M : List Nat) (h : xH) : fr M h h := fun _ _ e _ => e
theorem fr.put {M : List Nat} {h h' : xH} (H : fr M h h') {a : Nat} {c : xC} (ha : a ∈ M ∨ h a = none) : fr M h (xset h' a c) := by
  intro q d e hq
  by_cases z : q = a
  · subst z
    rcases ha with z | z
    · exact absurd z hq
    · rw [e] at z; cases z
  · rw [xset_ne _ _ z]; exact H q d e hq
theorem fr.trans {M N : List Nat} {h h1 h2 : xH} (H1 : fr M h h1) (H2 : fr N h1 h2) (hN : ∀ q ∈ N, q ∈ M ∨ h q = none) : fr M h h2 := by
  intro q d e hq
  refine H2 q d (H1 q d e hq) fun z => ?_
  rcases hN q z with z | z
  · exact hq z
  · rw [e] at z; cases z
theorem fr.tr {M : List Nat} {h h1 h2 : xH} (H1 : fr M h h1) (H2 : fr M h1 h2) : fr M h h2 := H1.trans H2 fun _ z => Or.inl z
theorem fr.one {r : Nat} {h h' : xH} (H : fr [r] h h') {q : Nat} {c : xC} (e : h q = some c) (hq : q ≠ r) : h' q = some c := H q c e (fun z => hq (List.mem_singleton.mp z))
theorem fr.set (h : xH) (r : Nat) (c : xC) : fr [r] h (xset h r c) := (fr.refl _ _).put (Or.inl (List.mem_singleton.mpr rfl))
theorem fr.new {h : xH} {a : Nat} (ha : h a = none) (M : List Nat) (c : xC) : fr M h (xset h a c) := (fr.refl _ _).put (Or.inr ha)
theorem nI_sub {a b : Nat} (h : b ≤ a) : nI a - nI b = nI (a - b) := by
  have : nI a = nI (a - b) + nI b := by rw [nI_add]; congr 1; omega
  rw [this]
  exact Int32.add_sub_cancel _ _
theorem rdr.mv {h : xH} {r b i j : Nat} {t : List Nat} {br br' : Int32} (H : rdr h r b t i br) (hj : j ≤ t.length) : rdr (xset h r (rdc b j br')) r b t j br' :=
  ⟨xset_same _ _ _, xst2 (xne' H.2.1 H.1 (by decide)) H.2.1, hj, H.2.2.2⟩
theorem rdr.new {h : xH} {r b i a : Nat} {t : List Nat} {br : Int32} {c : xC} (H : rdr h r b t i br) (ha : h a = none) : rdr (xset h a c) r b t i br :=
  ⟨xst2 (xnn H.1 ha) H.1, xst2 (xnn H.2.1 ha) H.2.1, H.2.2⟩
theorem rdr.fr {h h' : xH} {r b i j : Nat} {t : List Nat} {br br' : Int32} {M : List Nat} (H : rdr h r b t i br) (hf : fr M h h') (hb : b ∉ M) (hr : h' r = some (rdc b j br')) (hj : j ≤ t.length) : rdr h' r b t j br' :=
  ⟨hr, hf _ _ H.2.1 hb, hj, H.2.2.2⟩
theorem rdr.ne {h : xH} {r b i : Nat} {t : List Nat} {br : Int32} (H : rdr h r b t i br) : b ≠ r := xne' H.2.1 H.1 (by decide)
/-- the text was found broken at w -/
def xEr (r b w : Nat) (M : List Nat) (h : xH) (o : xO) (h' : xH) : Prop := (∃ e, o = .inr (16, e)) ∧ (∃ i' : Int32, h' r = some (1, [.ref b, .int i', .int (nI w)])) ∧ fr (r :: M) h h'
/-- a reading's outcome -/
def xRes {α : Type} (r b : Nat) (t : List Nat) (M : List Nat) (h : xH) (res : Except Nat (α × Nat)) (ok : α → xO → xH → Prop) (o : xO) (h' : xH) : Prop := match res with
  | .error w => xEr r b w M h o h'
  | .ok q => rdr h' r b t q.2 (-1) ∧ fr (r :: M) h h' ∧ ok q.1 o h'
theorem xRes.er {α : Type} {r b w : Nat} {t M : List Nat} {h h' : xH} {res : Except Nat (α × Nat)} {ok : α → xO → xH → Prop} {o : xO} (e : res = .error w) (q : xEr r b w M h o h') : xRes r b t M h res ok o h' := by subst e; exact q
theorem xRes.ok {α : Type} {r b i : Nat} {a : α} {t M : List Nat} {h h' : xH} {res : Except Nat (α × Nat)} {ok : α → xO → xH → Prop} {o : xO} (e : res = .ok (a, i)) (q1 : rdr h' r b t i (-1)) (q2 : fr (r :: M) h h') (q3 : ok a o h') : xRes r b t M h res ok o h' := by subst e; exact ⟨q1, q2, q3⟩
theorem xEr.tr {r b w : Nat} {M N : List Nat} {h h1 h' : xH} {o : xO} (q : xEr r b w N h1 o h') (hf : fr (r :: M) h h1) (hN : ∀ q ∈ N, q ∈ r :: M ∨ h q = none) : xEr r b w M h o h' :=
  ⟨q.1, q.2.1, hf.trans q.2.2 fun z hz => by
    rcases List.mem_cons.mp hz with z1 | z1
    · exact Or.inl (z1 ▸ List.mem_cons_self)
    · exact hN z z1⟩
theorem xRes.cs {α : Type} {r b : Nat} {t M : List Nat} {h h' : xH} {res : Except Nat (α × Nat)} {ok : α → xO → xH → Prop} {o : xO} (q : xRes r b t M h res ok o h') : (∃ w, res = .error w ∧ xEr r b w M h o h') ∨ ∃ a i, res = .ok (a, i) ∧ rdr h' r b t i (-1) ∧ fr (r :: M) h h' ∧ ok a o h' := by
  cases res with
  | error w => exact Or.inl ⟨w, rfl, q⟩
  | ok p => exact Or.inr ⟨p.1, p.2, rfl, q⟩
/-- a slice's cell -/
abbrev slc (b : Nat) (a : Nat × Nat) : xC := (2, [.ref b, .int (nI a.1), .int (nI a.2)])
def pB {α β : Type} (x : Except Nat (α × Nat)) (f : α → Nat → Except Nat (β × Nat)) : Except Nat (β × Nat) := match x with
  | .error w => .error w
  | .ok q => f q.1 q.2
def nmc (c : Nat) : Bool := sm c || dg c
def qsc (c : Nat) : Bool := pr c && !(c == 34)
def pName (t : List Nat) (i : Nat) : Except Nat ((Nat × Nat) × Nat) := if sm (ch t i) = true ∧ scan nmc t i - i ≤ 12 then .ok ((i, scan nmc t i - i), scan nmc t i) else .error i
def pStr (t : List Nat) (i : Nat) : Except Nat ((Nat × Nat) × Nat) := if ch t i = 34 ∧ ch t (scan qsc t (i + 1)) = 34 then .ok ((i + 1, scan qsc t (i + 1) - i - 1), scan qsc t (i + 1) + 1) else .error i
def nmv (l : List Nat) : Nat := l.foldl (fun n b => n * 10 + (b - 48)) 0
def pNum (t : List Nat) (i : Nat) : Except Nat (Nat × Nat) := if scan dg t i = i ∨ 7 < scan dg t i - i then .error i else .ok (nmv ((t.drop i).take (scan dg t i - i)), scan dg t i)
def pExp (c : Nat) (t : List Nat) (i : Nat) : Except Nat (Unit × Nat) := if ch t i = c then .ok ((), i + 1) else .error i
def pSig (c : Nat) (t : List Nat) (i : Nat) : Except Nat (Unit × Nat) := pExp c t (scan bl t i)
set_option maxRecDepth 20000 in
theorem c_failAt {l : Launch} {D : xD} {r b i : Nat} {br : Int32} {t : List Nat} {h : xH} (H : rdr h r b t i br) (w : Nat) : xMet l D 6 y_Rd_failAt [.ref r, .int (nI w)] h 1 6 (xEr r b w [] h) := by
  obtain ⟨hr, hb, hi, ht, hB⟩ := H
  refine m_Rd_failAt (Nat.le_of_ble_eq_true rfl) fun X hl hD hP hA => ?_
  refine xgo [] 20 hA ?_
  refine xp (by first | assumption | exact xset_same _ _ _ | exact xst2 (by first | assumption | exact Ne.symm (by assumption)) (by first | assumption | exact xset_same _ _ _ | exact xst2 (by first | assumption | exact Ne.symm (by assumption)) (by first | assumption | exact xset_same _ _ _ | exact xst2 (by first | assumption | exact Ne.symm (by assumption)) (by first | assumption | exact xset_same _ _ _ | exact xst2 (by first | assumption | exact Ne.symm (by assumption)) (by first | assumption | exact xset_same _ _ _))))) rfl rfl ?_
  refine xth (K := fun _ _ _ _ _ _ => True) (ls := []) (st := []) rfl (Nat.le_refl _) (Nat.le_refl _) fun a ha => xP hP ?_
  have hra : r ≠ a := fun z => by rw [← z, xset_same] at ha; cases ha
  refine ⟨⟨a, rfl⟩, ⟨nI i, by rw [xset_ne _ _ hra]; exact xset_same _ _ _⟩, ?_⟩
  refine (fr.set _ _ _).put (Or.inr ?_)
  rw [xset_ne _ _ (Ne.symm hra)] at ha
  exact ha
theorem xfail {l : Launch} {D : xD} {P : xO → xH → Prop} {K : Nat → xK} {ls : xL} {rest : List Value} {n rc rs r b i : Nat} {br w0 : Int32} {t : List Nat} {h : xH} (H : rdr h r b t i br) (w : Nat) (hw : w0 = nI w) (hb : Nat.ble (rest.map fun v => v.category).sum 8 = true) (h1 : 1 ≤ rc) (h2 : 6 ≤ rs) (hk : ∀ e h', xEr r b w [] h (.inr (16, e)) h' → P (.inr (16, e)) h') : o_callV l D P 1 6 2 y_Rd_failAt n K ls (.int w0 :: .ref r :: rest) h rc rs := by
  subst hw
  refine xcV H.1 (c_failAt H w) rfl rfl hb h1 h2 ?_
  intro o h' q
  obtain ⟨⟨e, rfl⟩, q2⟩ := q
  exact hk e h' ⟨⟨e, rfl⟩, q2⟩
set_option maxRecDepth 20000 in
theorem c_Sl_init {l : Launch} {D : xD} {a b : Nat} {f n : Int32} {fs : List Value} {h : xH} (ha : h a = some (2, fs)) (hf : fs.length = 3) : xMet l D 1 y_Sl_init [.ref a, .ref b, .int f, .int n] h 0 0 (fun o h' => h' = xset h a (2, [.ref b, .int f, .int n]) ∧ o = .inl none) := by
  obtain ⟨v0, v1, v2, rfl⟩ : ∃ v0 v1 v2, fs = [v0, v1, v2] := by
    match fs, hf with
    | [v0, v1, v2], _ => exact ⟨v0, v1, v2, rfl⟩
  refine m_Sl_init (Nat.le_of_ble_eq_true rfl) fun X hl hD hP hA => ?_
  refine xgo [] 20 hA ?_
  refine xp (by first | assumption | exact xset_same _ _ _ | exact xst2 (by first | assumption | exact Ne.symm (by assumption)) (by first | assumption | exact xset_same _ _ _ | exact xst2 (by first | assumption | exact Ne.symm (by assumption)) (by first | assumption | exact xset_same _ _ _ | exact xst2 (by first | assumption | exact Ne.symm (by assumption)) (by first | assumption | exact xset_same _ _ _ | exact xst2 (by first | assumption | exact Ne.symm (by assumption)) (by first | assumption | exact xset_same _ _ _))))) rfl rfl ?_ -- 6 f2.0
  refine xp (by first | assumption | exact xset_same _ _ _ | exact xst2 (by first | assumption | exact Ne.symm (by assumption)) (by first | assumption | exact xset_same _ _ _ | exact xst2 (by first | assumption | exact Ne.symm (by assumption)) (by first | assumption | exact xset_same _ _ _ | exact xst2 (by first | assumption | exact Ne.symm (by assumption)) (by first | assumption | exact xset_same _ _ _ | exact xst2 (by first | assumption | exact Ne.symm (by assumption)) (by first | assumption | exact xset_same _ _ _))))) rfl rfl ?_ -- 11 f2.1
  refine xp (by first | assumption | exact xset_same _ _ _ | exact xst2 (by first | assumption | exact Ne.symm (by assumption)) (by first | assumption | exact xset_same _ _ _ | exact xst2 (by first | assumption | exact Ne.symm (by assumption)) (by first | assumption | exact xset_same _ _ _ | exact xst2 (by first | assumption | exact Ne.symm (by assumption)) (by first | assumption | exact xset_same _ _ _ | exact xst2 (by first | assumption | exact Ne.symm (by assumption)) (by first | assumption | exact xset_same _ _ _))))) rfl rfl ?_ -- 16 f2.2
  exact xP hP ⟨by rw [xset_set, xset_set]; rfl, rfl⟩
set_option maxRecDepth 20000 in
theorem c_expect {l : Launch} {D : xD} {r b i : Nat} {t : List Nat} {h : xH} (H : rdr h r b t i (-1)) {c0 : Int32} {c : Nat} (hc0 : c0 = nI c) (hc : c < 256) : xMet l D 7 y_Rd_expect [.ref r, .int c0] h 1 6 (xRes r b t [] h (pExp c t i) (fun _ o _ => o = .inl none)) := by
  have H' := H
  obtain ⟨hr, hb, hi, ht, hB⟩ := H
  refine m_Rd_expect (Nat.le_of_ble_eq_true rfl) fun X hl hD hP hA => ?_
  refine xgo [] 20 hA ?_
  refine xcV (by first | assumption | exact xset_same _ _ _ | exact xst2 (by first | assumption | exact Ne.symm (by assumption)) (by first | assumption | exact xset_same _ _ _ | exact xst2 (by first | assumption | exact Ne.symm (by assumption)) (by first | assumption | exact xset_same _ _ _ | exact xst2 (by first | assumption | exact Ne.symm (by assumption)) (by first | assumption | exact xset_same _ _ _ | exact xst2 (by first | assumption | exact Ne.symm (by assumption)) (by first | assumption | exact xset_same _ _ _))))) (c_here H') (by rfl) (by rfl) (by rfl) (Nat.zero_le _) (Nat.zero_le _) ?_
  rintro o h1 ⟨rfl, rfl⟩
  refine xb (fun z => ?_) (fun z => ?_)
  · have z1 : ch t i = c := (cI_lit (hB.le i) hc).mp (by rw [z, hc0])
    refine xg (by first | assumption | exact xset_same _ _ _ | exact xst2 (by first | assumption | exact Ne.symm (by assumption)) (by first | assumption | exact xset_same _ _ _ | exact xst2 (by first | assumption | exact Ne.symm (by assumption)) (by first | assumption | exact xset_same _ _ _ | exact xst2 (by first | assumption | exact Ne.symm (by assumption)) (by first | assumption | exact xset_same _ _ _ | exact xst2 (by first | assumption | exact Ne.symm (by assumption)) (by first | assumption | exact xset_same _ _ _))))) (by rfl) ?_ -- 18 f1.1
    refine xp (by first | assumption | exact xset_same _ _ _ | exact xst2 (by first | assumption | exact Ne.symm (by assumption)) (by first | assumption | exact xset_same _ _ _ | exact xst2 (by first | assumption | exact Ne.symm (by assumption)) (by first | assumption | exact xset_same _ _ _ | exact xst2 (by first | assumption | exact Ne.symm (by assumption)) (by first | assumption | exact xset_same _ _ _ | exact xst2 (by first | assumption | exact Ne.symm (by assumption)) (by first | assumption | exact xset_same _ _ _))))) rfl rfl ?_ -- 23 f1.1
    refine xP hP (xRes.ok (by rw [pExp, if_pos z1]) ?_ ?_ rfl)
    · rw [nI_1]
      exact H'.mv (Nat.lt_of_not_le fun q => by rw [ch_out q] at z1; omega)
    · exact fr.set _ _ _
  · have z1 : ¬ ch t i = c := fun q => z (by rw [hc0, q]; unfold cI; rw [if_pos hc])
    refine xg (by first | assumption | exact xset_same _ _ _ | exact xst2 (by first | assumption | exact Ne.symm (by assumption)) (by first | assumption | exact xset_same _ _ _ | exact xst2 (by first | assumption | exact Ne.symm (by assumption)) (by first | assumption | exact xset_same _ _ _ | exact xst2 (by first | assumption | exact Ne.symm (by assumption)) (by first | assumption | exact xset_same _ _ _ | exact xst2 (by first | assumption | exact Ne.symm (by assumption)) (by first | assumption | exact xset_same _ _ _))))) (by rfl) ?_ -- 10 f1.1
    refine xfail H' i (by rfl) rfl (by omega) (by omega) fun e h1 q => xP hP ?_
    exact xRes.er (by rw [pExp, if_neg z1]) q
set_option maxRecDepth 20000 in
theorem c_expectSign {l : Launch} {D : xD} {r b i : Nat} {t : List Nat} {h : xH} (H : rdr h r b t i (-1)) {c0 : Int32} {c : Nat} (hc0 : c0 = nI c) (hc : c < 256) : xMet l D 7 y_Rd_expectSign [.ref r, .int c0] h 1 6 (xRes r b t [] h (pSig c t i) (fun _ o _ => o = .inl none)) := by
  have H' := H
  obtain ⟨hr, hb, hi, ht, hB⟩ := H
  refine m_Rd_expectSign (Nat.le_of_ble_eq_true rfl) fun X hl hD hP hA => ?_
  refine xgo [] 20 hA ?_
  refine xcV (by first | assumption | exact xset_same _ _ _ | exact xst2 (by first | assumption | exact Ne.symm (by assumption)) (by first | assumption | exact xset_same _ _ _ | exact xst2 (by first | assumption | exact Ne.symm (by assumption)) (by first | assumption | exact xset_same _ _ _ | exact xst2 (by first | assumption | exact Ne.symm (by assumption)) (by first | assumption | exact xset_same _ _ _ | exact xst2 (by first | assumption | exact Ne.symm (by assumption)) (by first | assumption | exact xset_same _ _ _))))) (c_nextSign H') (by rfl) (by rfl) (by rfl) (Nat.zero_le _) (Nat.zero_le _) ?_
  rintro o h1 ⟨rfl, rfl⟩
  have H2 := H'.mv (br' := -1) (scan_le hi (p := bl))
  refine xb (fun z => ?_) (fun z => ?_)
  · have z1 : ch t (scan bl t i) = c := (cI_lit (hB.le _) hc).mp (by rw [z, hc0])
    refine xg (by first | assumption | exact xset_same _ _ _ | exact xst2 (by first | assumption | exact Ne.symm (by assumption)) (by first | assumption | exact xset_same _ _ _ | exact xst2 (by first | assumption | exact Ne.symm (by assumption)) (by first | assumption | exact xset_same _ _ _ | exact xst2 (by first | assumption | exact Ne.symm (by assumption)) (by first | assumption | exact xset_same _ _ _ | exact xst2 (by first | assumption | exact Ne.symm (by assumption)) (by first | assumption | exact xset_same _ _ _))))) (by rfl) ?_ -- 18 f1.1
    refine xp (by first | assumption | exact xset_same _ _ _ | exact xst2 (by first | assumption | exact Ne.symm (by assumption)) (by first | assumption | exact xset_same _ _ _ | exact xst2 (by first | assumption | exact Ne.symm (by assumption)) (by first | assumption | exact xset_same _ _ _ | exact xst2 (by first | assumption | exact Ne.symm (by assumption)) (by first | assumption | exact xset_same _ _ _ | exact xst2 (by first | assumption | exact Ne.symm (by assumption)) (by first | assumption | exact xset_same _ _ _))))) rfl rfl ?_ -- 23 f1.1
    refine xP hP (xRes.ok (by rw [pSig, pExp, if_pos z1]) ?_ ?_ rfl)
    · rw [nI_1]
      exact H2.mv (Nat.lt_of_not_le fun q => by rw [ch_out q] at z1; omega)
    · exact (fr.set _ _ _).tr (fr.set _ _ _)
  · have z1 : ¬ ch t (scan bl t i) = c := fun q => z (by rw [hc0, q]; unfold cI; rw [if_pos hc])
    refine xg (by first | assumption | exact xset_same _ _ _ | exact xst2 (by first | assumption | exact Ne.symm (by assumption)) (by first | assumption | exact xset_same _ _ _ | exact xst2 (by first | assumption | exact Ne.symm (by assumption)) (by first | assumption | exact xset_same _ _ _ | exact xst2 (by first | assumption | exact Ne.symm (by assumption)) (by first | assumption | exact xset_same _ _ _ | exact xst2 (by first | assumption | exact Ne.symm (by assumption)) (by first | assumption | exact xset_same _ _ _))))) (by rfl) ?_ -- 10 f1.1
    refine xfail H2 (scan bl t i) (by rfl) rfl (by omega) (by omega) fun e h1 q => xP hP ?_
    exact xRes.er (by rw [pSig, pExp, if_neg z1]) (q.tr (fr.set _ _ _) (fun _ z => absurd z List.not_mem_nil))

theorem nmc_c {c : Nat} : nmc c = (sm c || dg c) := rfl
set_option maxRecDepth 20000 in
theorem c_readName {l : Launch} {D : xD} {r b i : Nat} {t : List Nat} {h : xH} (H : rdr h r b t i (-1)) : xMet l D 7 y_Rd_readName [.ref r] h 1 6 (xRes r b t [] h (pName t i) (fun a o h' => ∃ s, o = .inl (some (.ref s)) ∧ h s = none ∧ h' s = some (slc b a))) := by
  have H' := H
  obtain ⟨hr, hb, hi, ht, hB⟩ := H
  have hbr := H'.ne
  refine m_Rd_readName (Nat.le_of_ble_eq_true rfl) fun X hl hD hP hA => ?_
  have tail : ∀ s : Nat, s ≤ t.length → scan nmc t i = s → sm (ch t i) = true → xG X 75 [(1, .int (nI i)), (0, .ref r)] [] (xset h r (rdc b s (-1))) 1 6 := by
    intro s hs he h0
    have H2 := H'.mv (br' := -1) hs
    have hge : i ≤ s := he ▸ scan_ge _ _ _
    refine xgo [] 40 hA ?_
    refine xg (by first | assumption | exact xset_same _ _ _ | exact xst2 (by first | assumption | exact Ne.symm (by assumption)) (by first | assumption | exact xset_same _ _ _ | exact xst2 (by first | assumption | exact Ne.symm (by assumption)) (by first | assumption | exact xset_same _ _ _ | exact xst2 (by first | assumption | exact Ne.symm (by assumption)) (by first | assumption | exact xset_same _ _ _ | exact xst2 (by first | assumption | exact Ne.symm (by assumption)) (by first | assumption | exact xset_same _ _ _))))) (by rfl) ?_
    refine xb (fun c => ?_) (fun c => ?_)
    · have c1 : s - i ≤ 12 := (nI_leI (by omega) (by omega)).mp (nI_sub hge ▸ c)
      refine xn (Nat.le_refl _) (by decide) fun a ha => ?_
      have hra : r ≠ a := xnn H2.1 ha
      have hba : b ≠ a := xnn H2.2.1 ha
      refine xg (by first | assumption | exact xset_same _ _ _ | exact xst2 (by first | assumption | exact Ne.symm (by assumption)) (by first | assumption | exact xset_same _ _ _ | exact xst2 (by first | assumption | exact Ne.symm (by assumption)) (by first | assumption | exact xset_same _ _ _ | exact xst2 (by first | assumption | exact Ne.symm (by assumption)) (by first | assumption | exact xset_same _ _ _ | exact xst2 (by first | assumption | exact Ne.symm (by assumption)) (by first | assumption | exact xset_same _ _ _))))) (by rfl) ?_
      refine xg (by first | assumption | exact xset_same _ _ _ | exact xst2 (by first | assumption | exact Ne.symm (by assumption)) (by first | assumption | exact xset_same _ _ _ | exact xst2 (by first | assumption | exact Ne.symm (by assumption)) (by first | assumption | exact xset_same _ _ _ | exact xst2 (by first | assumption | exact Ne.symm (by assumption)) (by first | assumption | exact xset_same _ _ _ | exact xst2 (by first | assumption | exact Ne.symm (by assumption)) (by first | assumption | exact xset_same _ _ _))))) (by rfl) ?_
      refine xcI (c_Sl_init (xset_same _ _ _) rfl) (by rfl) (by rfl) (by rfl) (Nat.zero_le _) (Nat.zero_le _) ?_
      rintro o h1 ⟨rfl, rfl⟩
      have hn : h a = none := by rw [xset_ne _ _ (Ne.symm hra)] at ha; exact ha
      refine xP hP (xRes.ok (by rw [pName, he, if_pos ⟨h0, c1⟩]) ?_ ?_ ⟨a, rfl, hn, by rw [xset_same, nI_sub hge]⟩)
      · rw [xset_set]; exact H2.new ha
      · rw [xset_set]; exact (fr.set _ _ _).put (Or.inr hn)
    · have c1 : ¬ s - i ≤ 12 := fun z => c (by rw [nI_sub hge]; exact (nI_leI (b := 12) (by omega) (by omega)).mpr z)
      refine xfail H2 i (by rfl) rfl (Nat.le_refl _) (Nat.le_refl _) fun e h1 q => xP hP ?_
      exact xRes.er (by rw [pName, he, if_neg (fun z => c1 z.2)]) (q.tr (fr.set _ _ _) (fun _ z => absurd z List.not_mem_nil))
  have key : ∀ s : Nat, (s ≤ t.length ∧ scan nmc t i = scan nmc t s ∧ sm (ch t i) = true) → xG X 20 [(1, .int (nI i)), (0, .ref r)] [] (xset h r (rdc b s (-1))) 1 6 := by
    refine xind _ _ (fun s => t.length - s) (fun s hs ih => ?_)
    obtain ⟨hs, he, h0⟩ := hs
    have hb1 : xset h r (rdc b s (-1)) b = some (101, txv t) := xst2 hbr hb
    refine xgo [20, 75, 62] 40 hA ?_
    refine xg (by first | assumption | exact xset_same _ _ _ | exact xst2 (by first | assumption | exact Ne.symm (by assumption)) (by first | assumption | exact xset_same _ _ _ | exact xst2 (by first | assumption | exact Ne.symm (by assumption)) (by first | assumption | exact xset_same _ _ _ | exact xst2 (by first | assumption | exact Ne.symm (by assumption)) (by first | assumption | exact xset_same _ _ _ | exact xst2 (by first | assumption | exact Ne.symm (by assumption)) (by first | assumption | exact xset_same _ _ _))))) (by rfl) ?_
    refine xg (by first | assumption | exact xset_same _ _ _ | exact xst2 (by first | assumption | exact Ne.symm (by assumption)) (by first | assumption | exact xset_same _ _ _ | exact xst2 (by first | assumption | exact Ne.symm (by assumption)) (by first | assumption | exact xset_same _ _ _ | exact xst2 (by first | assumption | exact Ne.symm (by assumption)) (by first | assumption | exact xset_same _ _ _ | exact xst2 (by first | assumption | exact Ne.symm (by assumption)) (by first | assumption | exact xset_same _ _ _))))) (by rfl) ?_
    refine xln (t := 1) (Or.inl hb1) (by decide) ?_
    rw [txv_len]
    have next : s < t.length → nmc (ch t s) = true → xG X 62 [(1, .int (nI i)), (0, .ref r)] [] (xset h r (rdc b s (-1))) 1 6 := by
      intro hlt hp
      refine xgo [20] 40 hA ?_
      refine xg (by first | assumption | exact xset_same _ _ _ | exact xst2 (by first | assumption | exact Ne.symm (by assumption)) (by first | assumption | exact xset_same _ _ _ | exact xst2 (by first | assumption | exact Ne.symm (by assumption)) (by first | assumption | exact xset_same _ _ _ | exact xst2 (by first | assumption | exact Ne.symm (by assumption)) (by first | assumption | exact xset_same _ _ _ | exact xst2 (by first | assumption | exact Ne.symm (by assumption)) (by first | assumption | exact xset_same _ _ _))))) (by rfl) ?_
      refine xp (by first | assumption | exact xset_same _ _ _ | exact xst2 (by first | assumption | exact Ne.symm (by assumption)) (by first | assumption | exact xset_same _ _ _ | exact xst2 (by first | assumption | exact Ne.symm (by assumption)) (by first | assumption | exact xset_same _ _ _ | exact xst2 (by first | assumption | exact Ne.symm (by assumption)) (by first | assumption | exact xset_same _ _ _ | exact xst2 (by first | assumption | exact Ne.symm (by assumption)) (by first | assumption | exact xset_same _ _ _))))) rfl rfl ?_
      rw [xset_set, nI_1]
      exact ih (s + 1) ⟨hlt, by rw [he, scan_step hlt hp], h0⟩ (by omega)
    refine xb (fun c => ?_) (fun c => ?_)
    · exact tail s hs (by rw [he, scan_stop (fun z => absurd c (nI_ge z (by omega)))]) h0
    · have hlt : s < t.length := Nat.lt_of_not_le fun z => c (nI_le z (by omega))
      refine xg (by first | assumption | exact xset_same _ _ _ | exact xst2 (by first | assumption | exact Ne.symm (by assumption)) (by first | assumption | exact xset_same _ _ _ | exact xst2 (by first | assumption | exact Ne.symm (by assumption)) (by first | assumption | exact xset_same _ _ _ | exact xst2 (by first | assumption | exact Ne.symm (by assumption)) (by first | assumption | exact xset_same _ _ _ | exact xst2 (by first | assumption | exact Ne.symm (by assumption)) (by first | assumption | exact xset_same _ _ _))))) (by rfl) ?_
      refine xg (by first | assumption | exact xset_same _ _ _ | exact xst2 (by first | assumption | exact Ne.symm (by assumption)) (by first | assumption | exact xset_same _ _ _ | exact xst2 (by first | assumption | exact Ne.symm (by assumption)) (by first | assumption | exact xset_same _ _ _ | exact xst2 (by first | assumption | exact Ne.symm (by assumption)) (by first | assumption | exact xset_same _ _ _ | exact xst2 (by first | assumption | exact Ne.symm (by assumption)) (by first | assumption | exact xset_same _ _ _))))) (by rfl) ?_
      refine xld (Or.inl hb1) rfl (txv_at hlt) ?_
      refine xcS (c_isSmall (sm_b _ (hB.lt hlt)) _) (by rfl) (by rfl) (by rfl) (Nat.zero_le _) (Nat.zero_le _) ?_
      rintro o h' ⟨rfl, rfl⟩
      refine xb (fun c => ?_) (fun c => ?_)
      · exact next hlt (by rw [nmc, (bI_n0 _).mp c]; rfl)
      · have c0 : sm (ch t s) = false := (bI_0 _).mp c
        refine xg (by first | assumption | exact xset_same _ _ _ | exact xst2 (by first | assumption | exact Ne.symm (by assumption)) (by first | assumption | exact xset_same _ _ _ | exact xst2 (by first | assumption | exact Ne.symm (by assumption)) (by first | assumption | exact xset_same _ _ _ | exact xst2 (by first | assumption | exact Ne.symm (by assumption)) (by first | assumption | exact xset_same _ _ _ | exact xst2 (by first | assumption | exact Ne.symm (by assumption)) (by first | assumption | exact xset_same _ _ _))))) (by rfl) ?_
        refine xg (by first | assumption | exact xset_same _ _ _ | exact xst2 (by first | assumption | exact Ne.symm (by assumption)) (by first | assumption | exact xset_same _ _ _ | exact xst2 (by first | assumption | exact Ne.symm (by assumption)) (by first | assumption | exact xset_same _ _ _ | exact xst2 (by first | assumption | exact Ne.symm (by assumption)) (by first | assumption | exact xset_same _ _ _ | exact xst2 (by first | assumption | exact Ne.symm (by assumption)) (by first | assumption | exact xset_same _ _ _))))) (by rfl) ?_
        refine xld (Or.inl hb1) rfl (txv_at hlt) ?_
        refine xcS (c_isDigit (dg_b _ (hB.lt hlt)) _) (by rfl) (by rfl) (by rfl) (Nat.zero_le _) (Nat.zero_le _) ?_
        rintro o h' ⟨rfl, rfl⟩
        refine xb (fun c => ?_) (fun c => ?_)
        · exact tail s hs (by rw [he, scan_stop (fun _ => by rw [nmc, c0, (bI_0 _).mp c]; rfl)]) h0
        · exact next hlt (by rw [nmc, (bI_n0 _).mp c, Bool.or_true])
  refine xgo [20] 40 hA ?_
  refine xg (by first | assumption | exact xset_same _ _ _ | exact xst2 (by first | assumption | exact Ne.symm (by assumption)) (by first | assumption | exact xset_same _ _ _ | exact xst2 (by first | assumption | exact Ne.symm (by assumption)) (by first | assumption | exact xset_same _ _ _ | exact xst2 (by first | assumption | exact Ne.symm (by assumption)) (by first | assumption | exact xset_same _ _ _ | exact xst2 (by first | assumption | exact Ne.symm (by assumption)) (by first | assumption | exact xset_same _ _ _))))) (by rfl) ?_
  refine xcV (by first | assumption | exact xset_same _ _ _ | exact xst2 (by first | assumption | exact Ne.symm (by assumption)) (by first | assumption | exact xset_same _ _ _ | exact xst2 (by first | assumption | exact Ne.symm (by assumption)) (by first | assumption | exact xset_same _ _ _ | exact xst2 (by first | assumption | exact Ne.symm (by assumption)) (by first | assumption | exact xset_same _ _ _ | exact xst2 (by first | assumption | exact Ne.symm (by assumption)) (by first | assumption | exact xset_same _ _ _))))) (c_here H') (by rfl) (by rfl) (by rfl) (Nat.zero_le _) (Nat.zero_le _) ?_
  rintro o h1 ⟨rfl, rfl⟩
  refine xcS (c_isSmall (sm_c _ (Nat.lt_succ_of_le (hB.le i))) _) (by rfl) (by rfl) (by rfl) (Nat.zero_le _) (Nat.zero_le _) ?_
  rintro o h1 ⟨rfl, rfl⟩
  refine xb (fun c => ?_) (fun c => ?_)
  · have := key i ⟨hi, rfl, (bI_n0 _).mp c⟩
    rw [xset_self hr] at this
    exact this
  · have c0 : ¬ sm (ch t i) = true := fun e => by rw [(bI_0 _).mp c] at e; cases e
    refine xfail H' i (by rfl) rfl (Nat.le_refl _) (Nat.le_refl _) fun e h1 q => xP hP ?_
    exact xRes.er (by rw [pName, if_neg (fun z => c0 z.1)]) q
