/-! steps of a walk over a table -/
theorem xP {X : xX} {P : xO → xH → Prop} {o : xO} {h : xH} (hP : X.P = P) (q : P o h) : X.P o h := hP ▸ q
theorem xb {a b c d : Prop} (h1 : a → c) (h2 : b → d) : (a → c) ∧ (b → d) := ⟨h1, h2⟩
theorem xbt {a b c d : Prop} (h0 : a) (hn : ¬ b) (h1 : c) : (a → c) ∧ (b → d) := ⟨fun _ => h1, fun z => absurd z hn⟩
theorem xbf {a b c d : Prop} (h0 : b) (hn : ¬ a) (h1 : d) : (a → c) ∧ (b → d) := ⟨fun z => absurd z hn, fun _ => h1⟩
section XSTEPS
variable {K : Nat → xK} {ls : xL} {st r : List Value} {h : xH} {rc rs n : Nat}
theorem xg {ci k a : Nat} {fs : List Value} {v : Value} (e : h a = some (ci, fs)) (hv : fs[k]? = some v) (q : K n ls (v :: r) h rc rs) : o_get ci k n K ls (.ref a :: r) h rc rs := ⟨fs, v, e, hv, q⟩
theorem xp {ci k a : Nat} {ty : FieldType} {fs fs' : List Value} {v : Value} (e : h a = some (ci, fs)) (hfit : xfitb ty v = true) (hs : fs.set k v = fs') (q : K n ls r (xset h a (ci, fs')) rc rs) : o_put ci k ty n K ls (v :: .ref a :: r) h rc rs := ⟨fs, e, by unfold xfit; rw [hfit]; exact (xfo_iff _ _).mpr (by rw [hs]; exact q)⟩
theorem xpz {ci k a : Nat} {ty : FieldType} {fs fs' : List Value} {v : Value} (e : h a = some (ci, fs)) (hfit : narrow ty v = v ∧ fits ty v = true) (hs : fs.set k v = fs') (q : K n ls r (xset h a (ci, fs')) rc rs) : o_put ci k ty n K ls (v :: .ref a :: r) h rc rs := ⟨fs, e, by
  unfold xfit
  have q' : xfo (fs.set k v) (fun fs' => K n ls r (xset h a (ci, fs')) rc rs) := (xfo_iff _ _).mpr (by rw [hs]; exact q)
  split
  · exact q'
  · exact ⟨hfit, q'⟩⟩
theorem xn {ci N : Nat} {zs : List Value} (h1 : 1 ≤ rc) (h2 : N ≤ rs) (q : ∀ a : Nat, h a = none → K n ls (.ref a :: st) (xset h a (ci, zs)) (rc - 1) (rs - N)) : o_new ci N zs n K ls st h rc rs := ⟨h1, h2, q⟩
theorem xna {t N : Nat} {dv : Value} {c : Int32} (hc : c = nI N) (hN : N < 2 ^ 24) (h1 : 1 ≤ rc) (h2 : N ≤ rs) (q : ∀ a : Nat, h a = none → K n ls (.ref a :: r) (xset h a (100 + t, List.replicate N dv)) (rc - 1) (rs - N)) : o_newa t dv n K ls (.int c :: r) h rc rs := ⟨N, hc, hN, h1, h2, q⟩
theorem xnq {t N : Nat} {c : Int32} (hc : c = nI N) (hN : N < 2 ^ 24) (h1 : 1 ≤ rc) (h2 : N ≤ rs) (q : ∀ a : Nat, h a = none → K n ls (.ref a :: r) (xset h a (100 + t, List.replicate N .null)) (rc - 1) (rs - N)) : o_anew t n K ls (.int c :: r) h rc rs := ⟨N, hc, hN, h1, h2, q⟩
theorem xln {a t : Nat} {vs : List Value} (e : h a = some (100 + t, vs) ∨ h a = some (200 + t, vs)) (ht : t < 100) (q : K n ls (.int (nI vs.length) :: r) h rc rs) : o_len n K ls (.ref a :: r) h rc rs := ⟨t, vs, e, ht, q⟩
theorem xld {a t j : Nat} {i : Int32} {vs : List Value} {v : Value} (e : h a = some (100 + t, vs) ∨ h a = some (200 + t, vs)) (hi : i = nI j) (hv : vs[j]? = some v) (q : K n ls (v :: r) h rc rs) : o_ld t n K ls (.int i :: .ref a :: r) h rc rs := ⟨vs, j, v, e, hi, hv, q⟩
theorem xsi {a t j : Nat} {i x : Int32} {vs : List Value} (e : h a = some (100 + t, vs)) (hi : i = nI j) (hj : j < vs.length) (q : K n ls r (xset h a (100 + t, vs.set j (.int x))) rc rs) : o_iast t n K ls (.int x :: .int i :: .ref a :: r) h rc rs := ⟨vs, j, e, hi, hj, q⟩
theorem xsb {a t j : Nat} {i x : Int32} {vs : List Value} (e : h a = some (100 + t, vs)) (hi : i = nI j) (hj : j < vs.length) (q : K n ls r (xset h a (100 + t, vs.set j (.int x.toInt8.toInt32))) rc rs) : o_bast t n K ls (.int x :: .int i :: .ref a :: r) h rc rs := ⟨vs, j, e, hi, hj, q⟩
theorem xsz {a t j : Nat} {i x : Int32} {vs : List Value} (e : h a = some (100 + t, vs)) (hi : i = nI j) (hj : j < vs.length) (hx : x = 0 ∨ x = 1) (q : K n ls r (xset h a (100 + t, vs.set j (.int x))) rc rs) : o_zast t n K ls (.int x :: .int i :: .ref a :: r) h rc rs := ⟨vs, j, e, hi, hj, hx, q⟩
theorem xsl {a t j : Nat} {i : Int32} {x : Int64} {vs : List Value} (e : h a = some (100 + t, vs)) (hi : i = nI j) (hj : j < vs.length) (q : K n ls r (xset h a (100 + t, vs.set j (.long x))) rc rs) : o_last t n K ls (.long x :: .int i :: .ref a :: r) h rc rs := ⟨vs, j, e, hi, hj, q⟩
theorem xsq {a b t j ci : Nat} {ok : Nat → Bool} {i : Int32} {vs fs : List Value} (e : h a = some (100 + t, vs)) (hi : i = nI j) (hj : j < vs.length) (hb : h b = some (ci, fs)) (ho : ok ci = true) (q : K n ls r (xset h a (100 + t, vs.set j (.ref b))) rc rs) : o_aast t ok n K ls (.ref b :: .int i :: .ref a :: r) h rc rs := ⟨vs, j, ci, fs, e, hi, hj, hb, ho, q⟩
theorem xsn {a t j : Nat} {ok : Nat → Bool} {i : Int32} {vs : List Value} (e : h a = some (100 + t, vs)) (hi : i = nI j) (hj : j < vs.length) (q : K n ls r (xset h a (100 + t, vs.set j .null)) rc rs) : o_aast t ok n K ls (.null :: .int i :: .ref a :: r) h rc rs := ⟨vs, j, e, hi, hj, q⟩
theorem xct {a ci : Nat} {ok : Nat → Bool} {fs : List Value} (e : h a = some (ci, fs)) (ho : ok ci = true) (q : K n ls (.ref a :: r) h rc rs) : o_cast ok n K ls (.ref a :: r) h rc rs := ⟨ci, fs, e, ho, q⟩
theorem xcta {a t : Nat} {vs : List Value} (e : h a = some (100 + t, vs)) (q : K n ls (.ref a :: r) h rc rs) : o_castA t n K ls (.ref a :: r) h rc rs := ⟨vs, e, q⟩
theorem xth {P : xO → xH → Prop} {ci : Nat} (hst : Nat.ble (st.map fun v => v.category).sum 8 = true) (h1 : 1 ≤ rc) (h2 : 6 ≤ rs) (q : ∀ a : Nat, h a = none → P (.inr (ci, a)) (xset h a (ci, []))) : o_throw P ci K ls st h rc rs := by
  unfold o_throw; rw [hst]; exact ⟨h1, h2, q⟩
/-- calls -/
theorem xsp_mk : ∀ (ys : List Value) {acc rest : List Value} {k : List Value → List Value → Prop}, k (ys.reverse ++ acc) rest → xsp ys.length acc (ys ++ rest) k
  | [], _, _, _, h => h
  | y :: ys, acc, rest, k, h => by
    show xsp ys.length (y :: acc) (ys ++ rest) k
    refine xsp_mk ys ?_
    simpa using h
theorem xsp_av {av acc rest st : List Value} {na : Nat} {k : List Value → List Value → Prop} (hna : av.length = na) (hst : st = av.reverse ++ rest) (h : k av rest) : xsp na [] st k := by
  subst hna; subst hst
  have := xsp_mk av.reverse (acc := []) (rest := rest) (k := k) (by simpa using h)
  simpa using this
theorem xcl'_mk {l : Launch} {D : xD} {P Pc : xO → xH → Prop} {d mc ms : Nat} {y : MethodName} {av rest : List Value} (hM : xMet l D d y av h mc ms Pc) (h1 : mc ≤ rc) (h2 : ms ≤ rs) (hb : Nat.ble (rest.map fun v => v.category).sum 8 = true) (hk : ∀ o h', Pc o h' → xaf K P n ls rest (rc - mc) (rs - ms) o h') : xcl' l D P d y n K ls h rc rs av rest := by
  unfold xcl'; rw [hb]; exact ⟨mc, ms, Pc, hM, h1, h2, hk⟩
theorem xcS {l : Launch} {D : xD} {P Pc : xO → xH → Prop} {d mc ms na : Nat} {y : MethodName} {av rest : List Value} (hM : xMet l D d y av h mc ms Pc) (hna : av.length = na) (hst : st = av.reverse ++ rest) (hb : Nat.ble (rest.map fun v => v.category).sum 8 = true) (h1 : mc ≤ rc) (h2 : ms ≤ rs) (hk : ∀ o h', Pc o h' → xaf K P n ls rest (rc - mc) (rs - ms) o h') : o_callS l D P d na y n K ls st h rc rs :=
  xsp_av (acc := []) hna hst (xcl'_mk hM h1 h2 hb hk)
theorem xcV {l : Launch} {D : xD} {P Pc : xO → xH → Prop} {d mc ms na b ci : Nat} {y : MethodName} {as rest fs : List Value} (e : h b = some (ci, fs)) (hM : xMet l D d y (.ref b :: as) h mc ms Pc) (hna : (Value.ref b :: as).length = na) (hst : st = (Value.ref b :: as).reverse ++ rest) (hb : Nat.ble (rest.map fun v => v.category).sum 8 = true) (h1 : mc ≤ rc) (h2 : ms ≤ rs) (hk : ∀ o h', Pc o h' → xaf K P n ls rest (rc - mc) (rs - ms) o h') : o_callV l D P ci d na y n K ls st h rc rs :=
  xsp_av (acc := []) hna hst ⟨fs, e, xcl'_mk hM h1 h2 hb hk⟩
theorem xcI {l : Launch} {D : xD} {P Pc : xO → xH → Prop} {d mc ms na b : Nat} {y : MethodName} {as rest : List Value} (hM : xMet l D d y (.ref b :: as) h mc ms Pc) (hna : (Value.ref b :: as).length = na) (hst : st = (Value.ref b :: as).reverse ++ rest) (hb : Nat.ble (rest.map fun v => v.category).sum 8 = true) (h1 : mc ≤ rc) (h2 : ms ≤ rs) (hk : ∀ o h', Pc o h' → xaf K P n ls rest (rc - mc) (rs - ms) o h') : o_callI l D P d na y n K ls st h rc rs :=
  xsp_av (acc := []) hna hst (xcl'_mk hM h1 h2 hb hk)
end XSTEPS
theorem m_Sc_init {l : Launch} {D : xD} {av : List Value} {h : xH} {mc ms : Nat} {P : xO → xH → Prop} (hav : (lg_sl av).length ≤ 1) (body : ∀ X : xX, X.l = l → X.D = D → X.P = P → xAll X (tb_Sc_init X) → xG X 0 (lv_args 0 av) [] h mc ms) : xMet l D 8 y_Sc_init av h mc ms P :=
  xMet.of (by decide) w_104 hav (fun X h1 h2 h3 _ _ hC hr hnh hin => body X h1 h2 h3 (tk_Sc_init hC hr hnh hin))
theorem m_Rd_init {l : Launch} {D : xD} {av : List Value} {h : xH} {mc ms : Nat} {P : xO → xH → Prop} (hav : (lg_sl av).length ≤ 3) (body : ∀ X : xX, X.l = l → X.D = D → X.P = P → xAll X (tb_Rd_init X) → xG X 0 (lv_args 0 av) [] h mc ms) : xMet l D 2 y_Rd_init av h mc ms P :=
  xMet.of (by decide) w_114 hav (fun X h1 h2 h3 _ _ hC hr hnh hin => body X h1 h2 h3 (tk_Rd_init hC hr hnh hin))
theorem m_Ar_copyOf {l : Launch} {D : xD} {av : List Value} {h : xH} {mc ms : Nat} {P : xO → xH → Prop} (hav : (lg_sl av).length ≤ 3) (body : ∀ X : xX, X.l = l → X.D = D → X.P = P → xAll X (tb_Ar_copyOf X) → xG X 0 (lv_args 0 av) [] h mc ms) : xMet l D 1 y_Ar_copyOf av h mc ms P :=
  xMet.of (by decide) w_118 hav (fun X h1 h2 h3 _ _ hC hr hnh hin => body X h1 h2 h3 (tk_Ar_copyOf hC hr hnh hin))
theorem m_So_init {l : Launch} {D : xD} {av : List Value} {h : xH} {mc ms : Nat} {P : xO → xH → Prop} (hav : (lg_sl av).length ≤ 1) (body : ∀ X : xX, X.l = l → X.D = D → X.P = P → xAll X (tb_So_init X) → xG X 0 (lv_args 0 av) [] h mc ms) : xMet l D 7 y_So_init av h mc ms P :=
  xMet.of (by decide) w_158 hav (fun X h1 h2 h3 _ _ hC hr hnh hin => body X h1 h2 h3 (tk_So_init hC hr hnh hin))
theorem m_AL_init {l : Launch} {D : xD} {av : List Value} {h : xH} {mc ms : Nat} {P : xO → xH → Prop} (hav : (lg_sl av).length ≤ 1) (body : ∀ X : xX, X.l = l → X.D = D → X.P = P → xAll X (tb_AL_init X) → xG X 0 (lv_args 0 av) [] h mc ms) : xMet l D 3 y_AL_init av h mc ms P :=
  xMet.of (by decide) w_164 hav (fun X h1 h2 h3 _ _ hC hr hnh hin => body X h1 h2 h3 (tk_AL_init hC hr hnh hin))
theorem m_AB_init {l : Launch} {D : xD} {av : List Value} {h : xH} {mc ms : Nat} {P : xO → xH → Prop} (hav : (lg_sl av).length ≤ 1) (body : ∀ X : xX, X.l = l → X.D = D → X.P = P → xAll X (tb_AB_init X) → xG X 0 (lv_args 0 av) [] h mc ms) : xMet l D 2 y_AB_init av h mc ms P :=
  xMet.of (by decide) w_167 hav (fun X h1 h2 h3 _ _ hC hr hnh hin => body X h1 h2 h3 (tk_AB_init hC hr hnh hin))
theorem m_AC_init {l : Launch} {D : xD} {av : List Value} {h : xH} {mc ms : Nat} {P : xO → xH → Prop} (hav : (lg_sl av).length ≤ 1) (body : ∀ X : xX, X.l = l → X.D = D → X.P = P → xAll X (tb_AC_init X) → xG X 0 (lv_args 0 av) [] h mc ms) : xMet l D 1 y_AC_init av h mc ms P :=
  xMet.of (by decide) w_170 hav (fun X h1 h2 h3 _ _ hC hr hnh hin => body X h1 h2 h3 (tk_AC_init hC hr hnh hin))
theorem m_Sl_init {l : Launch} {D : xD} {av : List Value} {h : xH} {mc ms : Nat} {P : xO → xH → Prop} (hav : (lg_sl av).length ≤ 4) (body : ∀ X : xX, X.l = l → X.D = D → X.P = P → xAll X (tb_Sl_init X) → xG X 0 (lv_args 0 av) [] h mc ms) : xMet l D 1 y_Sl_init av h mc ms P :=
  xMet.of (by decide) w_193 hav (fun X h1 h2 h3 _ _ hC hr hnh hin => body X h1 h2 h3 (tk_Sl_init hC hr hnh hin))
theorem m_El_init {l : Launch} {D : xD} {av : List Value} {h : xH} {mc ms : Nat} {P : xO → xH → Prop} (hav : (lg_sl av).length ≤ 5) (body : ∀ X : xX, X.l = l → X.D = D → X.P = P → xAll X (tb_El_init X) → xG X 0 (lv_args 0 av) [] h mc ms) : xMet l D 4 y_El_init av h mc ms P :=
  xMet.of (by decide) w_212 hav (fun X h1 h2 h3 _ _ hC hr hnh hin => body X h1 h2 h3 (tk_El_init hC hr hnh hin))
theorem m_Nd_init {l : Launch} {D : xD} {av : List Value} {h : xH} {mc ms : Nat} {P : xO → xH → Prop} (hav : (lg_sl av).length ≤ 3) (body : ∀ X : xX, X.l = l → X.D = D → X.P = P → xAll X (tb_Nd_init X) → xG X 0 (lv_args 0 av) [] h mc ms) : xMet l D 1 y_Nd_init av h mc ms P :=
  xMet.of (by decide) w_299 hav (fun X h1 h2 h3 _ _ hC hr hnh hin => body X h1 h2 h3 (tk_Nd_init hC hr hnh hin))
theorem m_AL_add {l : Launch} {D : xD} {av : List Value} {h : xH} {mc ms : Nat} {P : xO → xH → Prop} (hav : (lg_sl av).length ≤ 2) (body : ∀ X : xX, X.l = l → X.D = D → X.P = P → xAll X (tb_AL_add X) → xG X 0 (lv_args 0 av) [] h mc ms) : xMet l D 6 y_AL_add av h mc ms P :=
  xMet.of (by decide) w_315 hav (fun X h1 h2 h3 _ _ hC hr hnh hin => body X h1 h2 h3 (tk_AL_add hC hr hnh hin))
theorem m_AL_add2 {l : Launch} {D : xD} {av : List Value} {h : xH} {mc ms : Nat} {P : xO → xH → Prop} (hav : (lg_sl av).length ≤ 4) (body : ∀ X : xX, X.l = l → X.D = D → X.P = P → xAll X (tb_AL_add2 X) → xG X 0 (lv_args 0 av) [] h mc ms) : xMet l D 5 y_AL_add2 av h mc ms P :=
  xMet.of (by decide) w_319 hav (fun X h1 h2 h3 _ _ hC hr hnh hin => body X h1 h2 h3 (tk_AL_add2 hC hr hnh hin))
theorem m_AL_grow {l : Launch} {D : xD} {av : List Value} {h : xH} {mc ms : Nat} {P : xO → xH → Prop} (hav : (lg_sl av).length ≤ 1) (body : ∀ X : xX, X.l = l → X.D = D → X.P = P → xAll X (tb_AL_grow X) → xG X 0 (lv_args 0 av) [] h mc ms) : xMet l D 4 y_AL_grow av h mc ms P :=
  xMet.of (by decide) w_323 hav (fun X h1 h2 h3 _ _ hC hr hnh hin => body X h1 h2 h3 (tk_AL_grow hC hr hnh hin))
theorem m_AL_grow2 {l : Launch} {D : xD} {av : List Value} {h : xH} {mc ms : Nat} {P : xO → xH → Prop} (hav : (lg_sl av).length ≤ 4) (body : ∀ X : xX, X.l = l → X.D = D → X.P = P → xAll X (tb_AL_grow2 X) → xG X 0 (lv_args 0 av) [] h mc ms) : xMet l D 3 y_AL_grow2 av h mc ms P :=
  xMet.of (by decide) w_327 hav (fun X h1 h2 h3 _ _ hC hr hnh hin => body X h1 h2 h3 (tk_AL_grow2 hC hr hnh hin))
theorem m_AS_newLength {l : Launch} {D : xD} {av : List Value} {h : xH} {mc ms : Nat} {P : xO → xH → Prop} (hav : (lg_sl av).length ≤ 4) (body : ∀ X : xX, X.l = l → X.D = D → X.P = P → xAll X (tb_AS_newLength X) → xG X 0 (lv_args 0 av) [] h mc ms) : xMet l D 1 y_AS_newLength av h mc ms P :=
  xMet.of (by decide) w_330 hav (fun X h1 h2 h3 _ _ hC hr hnh hin => body X h1 h2 h3 (tk_AS_newLength hC hr hnh hin))
theorem m_AS_hugeLength {l : Launch} {D : xD} {av : List Value} {h : xH} {mc ms : Nat} {P : xO → xH → Prop} (hav : (lg_sl av).length ≤ 3) (body : ∀ X : xX, X.l = l → X.D = D → X.P = P → xAll X (tb_AS_hugeLength X) → xG X 0 (lv_args 0 av) [] h mc ms) : xMet l D 0 y_AS_hugeLength av h mc ms P :=
  xMet.of (by decide) w_337 hav (fun X h1 h2 h3 _ _ hC hr hnh hin => body X h1 h2 h3 (tk_AS_hugeLength hC hr hnh hin))
theorem m_Ar_copyOf2 {l : Launch} {D : xD} {av : List Value} {h : xH} {mc ms : Nat} {P : xO → xH → Prop} (hav : (lg_sl av).length ≤ 2) (body : ∀ X : xX, X.l = l → X.D = D → X.P = P → xAll X (tb_Ar_copyOf2 X) → xG X 0 (lv_args 0 av) [] h mc ms) : xMet l D 2 y_Ar_copyOf2 av h mc ms P :=
  xMet.of (by decide) w_340 hav (fun X h1 h2 h3 _ _ hC hr hnh hin => body X h1 h2 h3 (tk_Ar_copyOf2 hC hr hnh hin))
theorem m_Ar_copyOf3 {l : Launch} {D : xD} {av : List Value} {h : xH} {mc ms : Nat} {P : xO → xH → Prop} (hav : (lg_sl av).length ≤ 4) (body : ∀ X : xX, X.l = l → X.D = D → X.P = P → xAll X (tb_Ar_copyOf3 X) → xG X 0 (lv_args 0 av) [] h mc ms) : xMet l D 1 y_Ar_copyOf3 av h mc ms P :=
  xMet.of (by decide) w_364 hav (fun X h1 h2 h3 _ _ hC hr hnh hin => body X h1 h2 h3 (tk_Ar_copyOf3 hC hr hnh hin))
theorem m_Sy_init {l : Launch} {D : xD} {av : List Value} {h : xH} {mc ms : Nat} {P : xO → xH → Prop} (hav : (lg_sl av).length ≤ 1) (body : ∀ X : xX, X.l = l → X.D = D → X.P = P → xAll X (tb_Sy_init X) → xG X 0 (lv_args 0 av) [] h mc ms) : xMet l D 4 y_Sy_init av h mc ms P :=
  xMet.of (by decide) w_394 hav (fun X h1 h2 h3 _ _ hC hr hnh hin => body X h1 h2 h3 (tk_Sy_init hC hr hnh hin))
theorem m_Sc_place {l : Launch} {D : xD} {av : List Value} {h : xH} {mc ms : Nat} {P : xO → xH → Prop} (hav : (lg_sl av).length ≤ 1) (body : ∀ X : xX, X.l = l → X.D = D → X.P = P → xAll X (tb_Sc_place X) → xG X 0 (lv_args 0 av) [] h mc ms) : xMet l D 0 y_Sc_place av h mc ms P :=
  xMet.of (by decide) w_455 hav (fun X h1 h2 h3 _ _ hC hr hnh hin => body X h1 h2 h3 (tk_Sc_place hC hr hnh hin))
theorem m_Sc_feed {l : Launch} {D : xD} {av : List Value} {h : xH} {mc ms : Nat} {P : xO → xH → Prop} (hav : (lg_sl av).length ≤ 6) (body : ∀ X : xX, X.l = l → X.D = D → X.P = P → xAll X (tb_Sc_feed X) → xG X 0 (lv_args 0 av) [] h mc ms) : xMet l D 6 y_Sc_feed av h mc ms P :=
  xMet.of (by decide) w_463 hav (fun X h1 h2 h3 _ _ hC hr hnh hin => body X h1 h2 h3 (tk_Sc_feed hC hr hnh hin))
theorem m_Sc_putOnTape {l : Launch} {D : xD} {av : List Value} {h : xH} {mc ms : Nat} {P : xO → xH → Prop} (hav : (lg_sl av).length ≤ 3) (body : ∀ X : xX, X.l = l → X.D = D → X.P = P → xAll X (tb_Sc_putOnTape X) → xG X 0 (lv_args 0 av) [] h mc ms) : xMet l D 0 y_Sc_putOnTape av h mc ms P :=
  xMet.of (by decide) w_534 hav (fun X h1 h2 h3 _ _ hC hr hnh hin => body X h1 h2 h3 (tk_Sc_putOnTape hC hr hnh hin))
theorem m_Sc_end {l : Launch} {D : xD} {av : List Value} {h : xH} {mc ms : Nat} {P : xO → xH → Prop} (hav : (lg_sl av).length ≤ 2) (body : ∀ X : xX, X.l = l → X.D = D → X.P = P → xAll X (tb_Sc_end X) → xG X 0 (lv_args 0 av) [] h mc ms) : xMet l D 6 y_Sc_end av h mc ms P :=
  xMet.of (by decide) w_542 hav (fun X h1 h2 h3 _ _ hC hr hnh hin => body X h1 h2 h3 (tk_Sc_end hC hr hnh hin))
theorem m_Sc_source {l : Launch} {D : xD} {av : List Value} {h : xH} {mc ms : Nat} {P : xO → xH → Prop} (hav : (lg_sl av).length ≤ 4) (body : ∀ X : xX, X.l = l → X.D = D → X.P = P → xAll X (tb_Sc_source X) → xG X 0 (lv_args 0 av) [] h mc ms) : xMet l D 12 y_Sc_source av h mc ms P :=
  xMet.of (by decide) w_566 hav (fun X h1 h2 h3 _ _ hC hr hnh hin => body X h1 h2 h3 (tk_Sc_source hC hr hnh hin))
theorem m_Sc_takeTape {l : Launch} {D : xD} {av : List Value} {h : xH} {mc ms : Nat} {P : xO → xH → Prop} (hav : (lg_sl av).length ≤ 1) (body : ∀ X : xX, X.l = l → X.D = D → X.P = P → xAll X (tb_Sc_takeTape X) → xG X 0 (lv_args 0 av) [] h mc ms) : xMet l D 3 y_Sc_takeTape av h mc ms P :=
  xMet.of (by decide) w_570 hav (fun X h1 h2 h3 _ _ hC hr hnh hin => body X h1 h2 h3 (tk_Sc_takeTape hC hr hnh hin))
theorem m_Rd_here {l : Launch} {D : xD} {av : List Value} {h : xH} {mc ms : Nat} {P : xO → xH → Prop} (hav : (lg_sl av).length ≤ 1) (body : ∀ X : xX, X.l = l → X.D = D → X.P = P → xAll X (tb_Rd_here X) → xG X 0 (lv_args 0 av) [] h mc ms) : xMet l D 0 y_Rd_here av h mc ms P :=
  xMet.of (by decide) w_574 hav (fun X h1 h2 h3 _ _ hC hr hnh hin => body X h1 h2 h3 (tk_Rd_here hC hr hnh hin))
theorem m_So_readPiece {l : Launch} {D : xD} {av : List Value} {h : xH} {mc ms : Nat} {P : xO → xH → Prop} (hav : (lg_sl av).length ≤ 4) (body : ∀ X : xX, X.l = l → X.D = D → X.P = P → xAll X (tb_So_readPiece X) → xG X 0 (lv_args 0 av) [] h mc ms) : xMet l D 11 y_So_readPiece av h mc ms P :=
  xMet.of (by decide) w_578 hav (fun X h1 h2 h3 _ _ hC hr hnh hin => body X h1 h2 h3 (tk_So_readPiece hC hr hnh hin))
theorem m_So_readMarkup {l : Launch} {D : xD} {av : List Value} {h : xH} {mc ms : Nat} {P : xO → xH → Prop} (hav : (lg_sl av).length ≤ 4) (body : ∀ X : xX, X.l = l → X.D = D → X.P = P → xAll X (tb_So_readMarkup X) → xG X 0 (lv_args 0 av) [] h mc ms) : xMet l D 10 y_So_readMarkup av h mc ms P :=
  xMet.of (by decide) w_583 hav (fun X h1 h2 h3 _ _ hC hr hnh hin => body X h1 h2 h3 (tk_So_readMarkup hC hr hnh hin))
theorem m_So_readEndOfElement {l : Launch} {D : xD} {av : List Value} {h : xH} {mc ms : Nat} {P : xO → xH → Prop} (hav : (lg_sl av).length ≤ 3) (body : ∀ X : xX, X.l = l → X.D = D → X.P = P → xAll X (tb_So_readEndOfElement X) → xG X 0 (lv_args 0 av) [] h mc ms) : xMet l D 8 y_So_readEndOfElement av h mc ms P :=
  xMet.of (by decide) w_587 hav (fun X h1 h2 h3 _ _ hC hr hnh hin => body X h1 h2 h3 (tk_So_readEndOfElement hC hr hnh hin))
theorem m_Rd_failAt {l : Launch} {D : xD} {av : List Value} {h : xH} {mc ms : Nat} {P : xO → xH → Prop} (hav : (lg_sl av).length ≤ 2) (body : ∀ X : xX, X.l = l → X.D = D → X.P = P → xAll X (tb_Rd_failAt X) → xG X 0 (lv_args 0 av) [] h mc ms) : xMet l D 6 y_Rd_failAt av h mc ms P :=
  xMet.of (by decide) w_591 hav (fun X h1 h2 h3 _ _ hC hr hnh hin => body X h1 h2 h3 (tk_Rd_failAt hC hr hnh hin))
theorem m_Rd_readName {l : Launch} {D : xD} {av : List Value} {h : xH} {mc ms : Nat} {P : xO → xH → Prop} (hav : (lg_sl av).length ≤ 2) (body : ∀ X : xX, X.l = l → X.D = D → X.P = P → xAll X (tb_Rd_readName X) → xG X 0 (lv_args 0 av) [] h mc ms) : xMet l D 7 y_Rd_readName av h mc ms P :=
  xMet.of (by decide) w_611 hav (fun X h1 h2 h3 _ _ hC hr hnh hin => body X h1 h2 h3 (tk_Rd_readName hC hr hnh hin))
theorem m_Sc_isSmall {l : Launch} {D : xD} {av : List Value} {h : xH} {mc ms : Nat} {P : xO → xH → Prop} (hav : (lg_sl av).length ≤ 1) (body : ∀ X : xX, X.l = l → X.D = D → X.P = P → xAll X (tb_Sc_isSmall X) → xG X 0 (lv_args 0 av) [] h mc ms) : xMet l D 0 y_Sc_isSmall av h mc ms P :=
  xMet.of (by decide) w_615 hav (fun X h1 h2 h3 _ _ hC hr hnh hin => body X h1 h2 h3 (tk_Sc_isSmall hC hr hnh hin))
theorem m_Sc_isDigit {l : Launch} {D : xD} {av : List Value} {h : xH} {mc ms : Nat} {P : xO → xH → Prop} (hav : (lg_sl av).length ≤ 1) (body : ∀ X : xX, X.l = l → X.D = D → X.P = P → xAll X (tb_Sc_isDigit X) → xG X 0 (lv_args 0 av) [] h mc ms) : xMet l D 0 y_Sc_isDigit av h mc ms P :=
  xMet.of (by decide) w_619 hav (fun X h1 h2 h3 _ _ hC hr hnh hin => body X h1 h2 h3 (tk_Sc_isDigit hC hr hnh hin))
theorem m_Sl_sameAs {l : Launch} {D : xD} {av : List Value} {h : xH} {mc ms : Nat} {P : xO → xH → Prop} (hav : (lg_sl av).length ≤ 3) (body : ∀ X : xX, X.l = l → X.D = D → X.P = P → xAll X (tb_Sl_sameAs X) → xG X 0 (lv_args 0 av) [] h mc ms) : xMet l D 0 y_Sl_sameAs av h mc ms P :=
  xMet.of (by decide) w_625 hav (fun X h1 h2 h3 _ _ hC hr hnh hin => body X h1 h2 h3 (tk_Sl_sameAs hC hr hnh hin))
theorem m_Rd_expectSign {l : Launch} {D : xD} {av : List Value} {h : xH} {mc ms : Nat} {P : xO → xH → Prop} (hav : (lg_sl av).length ≤ 2) (body : ∀ X : xX, X.l = l → X.D = D → X.P = P → xAll X (tb_Rd_expectSign X) → xG X 0 (lv_args 0 av) [] h mc ms) : xMet l D 7 y_Rd_expectSign av h mc ms P :=
  xMet.of (by decide) w_629 hav (fun X h1 h2 h3 _ _ hC hr hnh hin => body X h1 h2 h3 (tk_Rd_expectSign hC hr hnh hin))
theorem m_Rd_nextSign {l : Launch} {D : xD} {av : List Value} {h : xH} {mc ms : Nat} {P : xO → xH → Prop} (hav : (lg_sl av).length ≤ 1) (body : ∀ X : xX, X.l = l → X.D = D → X.P = P → xAll X (tb_Rd_nextSign X) → xG X 0 (lv_args 0 av) [] h mc ms) : xMet l D 1 y_Rd_nextSign av h mc ms P :=
  xMet.of (by decide) w_633 hav (fun X h1 h2 h3 _ _ hC hr hnh hin => body X h1 h2 h3 (tk_Rd_nextSign hC hr hnh hin))
theorem m_Sc_isBlank {l : Launch} {D : xD} {av : List Value} {h : xH} {mc ms : Nat} {P : xO → xH → Prop} (hav : (lg_sl av).length ≤ 1) (body : ∀ X : xX, X.l = l → X.D = D → X.P = P → xAll X (tb_Sc_isBlank X) → xG X 0 (lv_args 0 av) [] h mc ms) : xMet l D 0 y_Sc_isBlank av h mc ms P :=
  xMet.of (by decide) w_636 hav (fun X h1 h2 h3 _ _ hC hr hnh hin => body X h1 h2 h3 (tk_Sc_isBlank hC hr hnh hin))
theorem m_So_finish {l : Launch} {D : xD} {av : List Value} {h : xH} {mc ms : Nat} {P : xO → xH → Prop} (hav : (lg_sl av).length ≤ 3) (body : ∀ X : xX, X.l = l → X.D = D → X.P = P → xAll X (tb_So_finish X) → xG X 0 (lv_args 0 av) [] h mc ms) : xMet l D 1 y_So_finish av h mc ms P :=
  xMet.of (by decide) w_640 hav (fun X h1 h2 h3 _ _ hC hr hnh hin => body X h1 h2 h3 (tk_So_finish hC hr hnh hin))
theorem m_AL_size {l : Launch} {D : xD} {av : List Value} {h : xH} {mc ms : Nat} {P : xO → xH → Prop} (hav : (lg_sl av).length ≤ 1) (body : ∀ X : xX, X.l = l → X.D = D → X.P = P → xAll X (tb_AL_size X) → xG X 0 (lv_args 0 av) [] h mc ms) : xMet l D 0 y_AL_size av h mc ms P :=
  xMet.of (by decide) w_644 hav (fun X h1 h2 h3 _ _ hC hr hnh hin => body X h1 h2 h3 (tk_AL_size hC hr hnh hin))
theorem m_So_readBeginOfElement {l : Launch} {D : xD} {av : List Value} {h : xH} {mc ms : Nat} {P : xO → xH → Prop} (hav : (lg_sl av).length ≤ 5) (body : ∀ X : xX, X.l = l → X.D = D → X.P = P → xAll X (tb_So_readBeginOfElement X) → xG X 0 (lv_args 0 av) [] h mc ms) : xMet l D 9 y_So_readBeginOfElement av h mc ms P :=
  xMet.of (by decide) w_648 hav (fun X h1 h2 h3 _ _ hC hr hnh hin => body X h1 h2 h3 (tk_So_readBeginOfElement hC hr hnh hin))
theorem m_So_readFields {l : Launch} {D : xD} {av : List Value} {h : xH} {mc ms : Nat} {P : xO → xH → Prop} (hav : (lg_sl av).length ≤ 6) (body : ∀ X : xX, X.l = l → X.D = D → X.P = P → xAll X (tb_So_readFields X) → xG X 0 (lv_args 0 av) [] h mc ms) : xMet l D 8 y_So_readFields av h mc ms P :=
  xMet.of (by decide) w_652 hav (fun X h1 h2 h3 _ _ hC hr hnh hin => body X h1 h2 h3 (tk_So_readFields hC hr hnh hin))
theorem m_Sc_findNamed {l : Launch} {D : xD} {av : List Value} {h : xH} {mc ms : Nat} {P : xO → xH → Prop} (hav : (lg_sl av).length ≤ 3) (body : ∀ X : xX, X.l = l → X.D = D → X.P = P → xAll X (tb_Sc_findNamed X) → xG X 0 (lv_args 0 av) [] h mc ms) : xMet l D 3 y_Sc_findNamed av h mc ms P :=
  xMet.of (by decide) w_657 hav (fun X h1 h2 h3 _ _ hC hr hnh hin => body X h1 h2 h3 (tk_Sc_findNamed hC hr hnh hin))
theorem m_AL_get {l : Launch} {D : xD} {av : List Value} {h : xH} {mc ms : Nat} {P : xO → xH → Prop} (hav : (lg_sl av).length ≤ 2) (body : ∀ X : xX, X.l = l → X.D = D → X.P = P → xAll X (tb_AL_get X) → xG X 0 (lv_args 0 av) [] h mc ms) : xMet l D 2 y_AL_get av h mc ms P :=
  xMet.of (by decide) w_662 hav (fun X h1 h2 h3 _ _ hC hr hnh hin => body X h1 h2 h3 (tk_AL_get hC hr hnh hin))
theorem m_Ob_checkIndex {l : Launch} {D : xD} {av : List Value} {h : xH} {mc ms : Nat} {P : xO → xH → Prop} (hav : (lg_sl av).length ≤ 2) (body : ∀ X : xX, X.l = l → X.D = D → X.P = P → xAll X (tb_Ob_checkIndex X) → xG X 0 (lv_args 0 av) [] h mc ms) : xMet l D 1 y_Ob_checkIndex av h mc ms P :=
  xMet.of (by decide) w_665 hav (fun X h1 h2 h3 _ _ hC hr hnh hin => body X h1 h2 h3 (tk_Ob_checkIndex hC hr hnh hin))
theorem m_Pr_checkIndex {l : Launch} {D : xD} {av : List Value} {h : xH} {mc ms : Nat} {P : xO → xH → Prop} (hav : (lg_sl av).length ≤ 3) (body : ∀ X : xX, X.l = l → X.D = D → X.P = P → xAll X (tb_Pr_checkIndex X) → xG X 0 (lv_args 0 av) [] h mc ms) : xMet l D 0 y_Pr_checkIndex av h mc ms P :=
  xMet.of (by decide) w_668 hav (fun X h1 h2 h3 _ _ hC hr hnh hin => body X h1 h2 h3 (tk_Pr_checkIndex hC hr hnh hin))
theorem m_AL_elementData {l : Launch} {D : xD} {av : List Value} {h : xH} {mc ms : Nat} {P : xO → xH → Prop} (hav : (lg_sl av).length ≤ 2) (body : ∀ X : xX, X.l = l → X.D = D → X.P = P → xAll X (tb_AL_elementData X) → xG X 0 (lv_args 0 av) [] h mc ms) : xMet l D 0 y_AL_elementData av h mc ms P :=
  xMet.of (by decide) w_672 hav (fun X h1 h2 h3 _ _ hC hr hnh hin => body X h1 h2 h3 (tk_AL_elementData hC hr hnh hin))
theorem m_Rd_readString {l : Launch} {D : xD} {av : List Value} {h : xH} {mc ms : Nat} {P : xO → xH → Prop} (hav : (lg_sl av).length ≤ 2) (body : ∀ X : xX, X.l = l → X.D = D → X.P = P → xAll X (tb_Rd_readString X) → xG X 0 (lv_args 0 av) [] h mc ms) : xMet l D 7 y_Rd_readString av h mc ms P :=
  xMet.of (by decide) w_678 hav (fun X h1 h2 h3 _ _ hC hr hnh hin => body X h1 h2 h3 (tk_Rd_readString hC hr hnh hin))
theorem m_Sc_isPrinted {l : Launch} {D : xD} {av : List Value} {h : xH} {mc ms : Nat} {P : xO → xH → Prop} (hav : (lg_sl av).length ≤ 1) (body : ∀ X : xX, X.l = l → X.D = D → X.P = P → xAll X (tb_Sc_isPrinted X) → xG X 0 (lv_args 0 av) [] h mc ms) : xMet l D 0 y_Sc_isPrinted av h mc ms P :=
  xMet.of (by decide) w_681 hav (fun X h1 h2 h3 _ _ hC hr hnh hin => body X h1 h2 h3 (tk_Sc_isPrinted hC hr hnh hin))
theorem m_Rd_expect {l : Launch} {D : xD} {av : List Value} {h : xH} {mc ms : Nat} {P : xO → xH → Prop} (hav : (lg_sl av).length ≤ 2) (body : ∀ X : xX, X.l = l → X.D = D → X.P = P → xAll X (tb_Rd_expect X) → xG X 0 (lv_args 0 av) [] h mc ms) : xMet l D 7 y_Rd_expect av h mc ms P :=
  xMet.of (by decide) w_685 hav (fun X h1 h2 h3 _ _ hC hr hnh hin => body X h1 h2 h3 (tk_Rd_expect hC hr hnh hin))
theorem m_Rd_skipComment {l : Launch} {D : xD} {av : List Value} {h : xH} {mc ms : Nat} {P : xO → xH → Prop} (hav : (lg_sl av).length ≤ 1) (body : ∀ X : xX, X.l = l → X.D = D → X.P = P → xAll X (tb_Rd_skipComment X) → xG X 0 (lv_args 0 av) [] h mc ms) : xMet l D 7 y_Rd_skipComment av h mc ms P :=
  xMet.of (by decide) w_689 hav (fun X h1 h2 h3 _ _ hC hr hnh hin => body X h1 h2 h3 (tk_Rd_skipComment hC hr hnh hin))
theorem m_Rd_commentEndsHere {l : Launch} {D : xD} {av : List Value} {h : xH} {mc ms : Nat} {P : xO → xH → Prop} (hav : (lg_sl av).length ≤ 1) (body : ∀ X : xX, X.l = l → X.D = D → X.P = P → xAll X (tb_Rd_commentEndsHere X) → xG X 0 (lv_args 0 av) [] h mc ms) : xMet l D 0 y_Rd_commentEndsHere av h mc ms P :=
  xMet.of (by decide) w_693 hav (fun X h1 h2 h3 _ _ hC hr hnh hin => body X h1 h2 h3 (tk_Rd_commentEndsHere hC hr hnh hin))
theorem m_So_readEntity {l : Launch} {D : xD} {av : List Value} {h : xH} {mc ms : Nat} {P : xO → xH → Prop} (hav : (lg_sl av).length ≤ 6) (body : ∀ X : xX, X.l = l → X.D = D → X.P = P → xAll X (tb_So_readEntity X) → xG X 0 (lv_args 0 av) [] h mc ms) : xMet l D 8 y_So_readEntity av h mc ms P :=
  xMet.of (by decide) w_697 hav (fun X h1 h2 h3 _ _ hC hr hnh hin => body X h1 h2 h3 (tk_So_readEntity hC hr hnh hin))
theorem m_Sl_holds {l : Launch} {D : xD} {av : List Value} {h : xH} {mc ms : Nat} {P : xO → xH → Prop} (hav : (lg_sl av).length ≤ 3) (body : ∀ X : xX, X.l = l → X.D = D → X.P = P → xAll X (tb_Sl_holds X) → xG X 0 (lv_args 0 av) [] h mc ms) : xMet l D 0 y_Sl_holds av h mc ms P :=
  xMet.of (by decide) w_701 hav (fun X h1 h2 h3 _ _ hC hr hnh hin => body X h1 h2 h3 (tk_Sl_holds hC hr hnh hin))
theorem m_So_readReference {l : Launch} {D : xD} {av : List Value} {h : xH} {mc ms : Nat} {P : xO → xH → Prop} (hav : (lg_sl av).length ≤ 4) (body : ∀ X : xX, X.l = l → X.D = D → X.P = P → xAll X (tb_So_readReference X) → xG X 0 (lv_args 0 av) [] h mc ms) : xMet l D 8 y_So_readReference av h mc ms P :=
  xMet.of (by decide) w_705 hav (fun X h1 h2 h3 _ _ hC hr hnh hin => body X h1 h2 h3 (tk_So_readReference hC hr hnh hin))
theorem m_So_addText {l : Launch} {D : xD} {av : List Value} {h : xH} {mc ms : Nat} {P : xO → xH → Prop} (hav : (lg_sl av).length ≤ 2) (body : ∀ X : xX, X.l = l → X.D = D → X.P = P → xAll X (tb_So_addText X) → xG X 0 (lv_args 0 av) [] h mc ms) : xMet l D 7 y_So_addText av h mc ms P :=
  xMet.of (by decide) w_709 hav (fun X h1 h2 h3 _ _ hC hr hnh hin => body X h1 h2 h3 (tk_So_addText hC hr hnh hin))
theorem m_So_readText {l : Launch} {D : xD} {av : List Value} {h : xH} {mc ms : Nat} {P : xO → xH → Prop} (hav : (lg_sl av).length ≤ 3) (body : ∀ X : xX, X.l = l → X.D = D → X.P = P → xAll X (tb_So_readText X) → xG X 0 (lv_args 0 av) [] h mc ms) : xMet l D 8 y_So_readText av h mc ms P :=
  xMet.of (by decide) w_713 hav (fun X h1 h2 h3 _ _ hC hr hnh hin => body X h1 h2 h3 (tk_So_readText hC hr hnh hin))
theorem m_So_isText {l : Launch} {D : xD} {av : List Value} {h : xH} {mc ms : Nat} {P : xO → xH → Prop} (hav : (lg_sl av).length ≤ 1) (body : ∀ X : xX, X.l = l → X.D = D → X.P = P → xAll X (tb_So_isText X) → xG X 0 (lv_args 0 av) [] h mc ms) : xMet l D 1 y_So_isText av h mc ms P :=
  xMet.of (by decide) w_716 hav (fun X h1 h2 h3 _ _ hC hr hnh hin => body X h1 h2 h3 (tk_So_isText hC hr hnh hin))
theorem m_Sc_style {l : Launch} {D : xD} {av : List Value} {h : xH} {mc ms : Nat} {P : xO → xH → Prop} (hav : (lg_sl av).length ≤ 5) (body : ∀ X : xX, X.l = l → X.D = D → X.P = P → xAll X (tb_Sc_style X) → xG X 0 (lv_args 0 av) [] h mc ms) : xMet l D 12 y_Sc_style av h mc ms P :=
  xMet.of (by decide) w_725 hav (fun X h1 h2 h3 _ _ hC hr hnh hin => body X h1 h2 h3 (tk_Sc_style hC hr hnh hin))
theorem m_Ru_init {l : Launch} {D : xD} {av : List Value} {h : xH} {mc ms : Nat} {P : xO → xH → Prop} (hav : (lg_sl av).length ≤ 1) (body : ∀ X : xX, X.l = l → X.D = D → X.P = P → xAll X (tb_Ru_init X) → xG X 0 (lv_args 0 av) [] h mc ms) : xMet l D 4 y_Ru_init av h mc ms P :=
  xMet.of (by decide) w_731 hav (fun X h1 h2 h3 _ _ hC hr hnh hin => body X h1 h2 h3 (tk_Ru_init hC hr hnh hin))
theorem m_Sy_readSelectors {l : Launch} {D : xD} {av : List Value} {h : xH} {mc ms : Nat} {P : xO → xH → Prop} (hav : (lg_sl av).length ≤ 5) (body : ∀ X : xX, X.l = l → X.D = D → X.P = P → xAll X (tb_Sy_readSelectors X) → xG X 0 (lv_args 0 av) [] h mc ms) : xMet l D 11 y_Sy_readSelectors av h mc ms P :=
  xMet.of (by decide) w_747 hav (fun X h1 h2 h3 _ _ hC hr hnh hin => body X h1 h2 h3 (tk_Sy_readSelectors hC hr hnh hin))
theorem m_Se_init {l : Launch} {D : xD} {av : List Value} {h : xH} {mc ms : Nat} {P : xO → xH → Prop} (hav : (lg_sl av).length ≤ 1) (body : ∀ X : xX, X.l = l → X.D = D → X.P = P → xAll X (tb_Se_init X) → xG X 0 (lv_args 0 av) [] h mc ms) : xMet l D 4 y_Se_init av h mc ms P :=
  xMet.of (by decide) w_755 hav (fun X h1 h2 h3 _ _ hC hr hnh hin => body X h1 h2 h3 (tk_Se_init hC hr hnh hin))
theorem m_Se_readSteps {l : Launch} {D : xD} {av : List Value} {h : xH} {mc ms : Nat} {P : xO → xH → Prop} (hav : (lg_sl av).length ≤ 5) (body : ∀ X : xX, X.l = l → X.D = D → X.P = P → xAll X (tb_Se_readSteps X) → xG X 0 (lv_args 0 av) [] h mc ms) : xMet l D 10 y_Se_readSteps av h mc ms P :=
  xMet.of (by decide) w_771 hav (fun X h1 h2 h3 _ _ hC hr hnh hin => body X h1 h2 h3 (tk_Se_readSteps hC hr hnh hin))
theorem m_Sp_init {l : Launch} {D : xD} {av : List Value} {h : xH} {mc ms : Nat} {P : xO → xH → Prop} (hav : (lg_sl av).length ≤ 2) (body : ∀ X : xX, X.l = l → X.D = D → X.P = P → xAll X (tb_Sp_init X) → xG X 0 (lv_args 0 av) [] h mc ms) : xMet l D 4 y_Sp_init av h mc ms P :=
  xMet.of (by decide) w_778 hav (fun X h1 h2 h3 _ _ hC hr hnh hin => body X h1 h2 h3 (tk_Sp_init hC hr hnh hin))
theorem m_Sp_readFrom {l : Launch} {D : xD} {av : List Value} {h : xH} {mc ms : Nat} {P : xO → xH → Prop} (hav : (lg_sl av).length ≤ 5) (body : ∀ X : xX, X.l = l → X.D = D → X.P = P → xAll X (tb_Sp_readFrom X) → xG X 0 (lv_args 0 av) [] h mc ms) : xMet l D 9 y_Sp_readFrom av h mc ms P :=
  xMet.of (by decide) w_796 hav (fun X h1 h2 h3 _ _ hC hr hnh hin => body X h1 h2 h3 (tk_Sp_readFrom hC hr hnh hin))
theorem m_Co_init {l : Launch} {D : xD} {av : List Value} {h : xH} {mc ms : Nat} {P : xO → xH → Prop} (hav : (lg_sl av).length ≤ 1) (body : ∀ X : xX, X.l = l → X.D = D → X.P = P → xAll X (tb_Co_init X) → xG X 0 (lv_args 0 av) [] h mc ms) : xMet l D 1 y_Co_init av h mc ms P :=
  xMet.of (by decide) w_804 hav (fun X h1 h2 h3 _ _ hC hr hnh hin => body X h1 h2 h3 (tk_Co_init hC hr hnh hin))
theorem m_Co_readBracket {l : Launch} {D : xD} {av : List Value} {h : xH} {mc ms : Nat} {P : xO → xH → Prop} (hav : (lg_sl av).length ≤ 2) (body : ∀ X : xX, X.l = l → X.D = D → X.P = P → xAll X (tb_Co_readBracket X) → xG X 0 (lv_args 0 av) [] h mc ms) : xMet l D 8 y_Co_readBracket av h mc ms P :=
  xMet.of (by decide) w_822 hav (fun X h1 h2 h3 _ _ hC hr hnh hin => body X h1 h2 h3 (tk_Co_readBracket hC hr hnh hin))
theorem m_Co_readColon {l : Launch} {D : xD} {av : List Value} {h : xH} {mc ms : Nat} {P : xO → xH → Prop} (hav : (lg_sl av).length ≤ 3) (body : ∀ X : xX, X.l = l → X.D = D → X.P = P → xAll X (tb_Co_readColon X) → xG X 0 (lv_args 0 av) [] h mc ms) : xMet l D 8 y_Co_readColon av h mc ms P :=
  xMet.of (by decide) w_830 hav (fun X h1 h2 h3 _ _ hC hr hnh hin => body X h1 h2 h3 (tk_Co_readColon hC hr hnh hin))
theorem m_Sl_spells {l : Launch} {D : xD} {av : List Value} {h : xH} {mc ms : Nat} {P : xO → xH → Prop} (hav : (lg_sl av).length ≤ 3) (body : ∀ X : xX, X.l = l → X.D = D → X.P = P → xAll X (tb_Sl_spells X) → xG X 0 (lv_args 0 av) [] h mc ms) : xMet l D 5 y_Sl_spells av h mc ms P :=
  xMet.of (by decide) w_835 hav (fun X h1 h2 h3 _ _ hC hr hnh hin => body X h1 h2 h3 (tk_Sl_spells hC hr hnh hin))
theorem m_Sg_length {l : Launch} {D : xD} {av : List Value} {h : xH} {mc ms : Nat} {P : xO → xH → Prop} (hav : (lg_sl av).length ≤ 1) (body : ∀ X : xX, X.l = l → X.D = D → X.P = P → xAll X (tb_Sg_length X) → xG X 0 (lv_args 0 av) [] h mc ms) : xMet l D 1 y_Sg_length av h mc ms P :=
  xMet.of (by decide) w_839 hav (fun X h1 h2 h3 _ _ hC hr hnh hin => body X h1 h2 h3 (tk_Sg_length hC hr hnh hin))
theorem m_Sg_coder {l : Launch} {D : xD} {av : List Value} {h : xH} {mc ms : Nat} {P : xO → xH → Prop} (hav : (lg_sl av).length ≤ 1) (body : ∀ X : xX, X.l = l → X.D = D → X.P = P → xAll X (tb_Sg_coder X) → xG X 0 (lv_args 0 av) [] h mc ms) : xMet l D 0 y_Sg_coder av h mc ms P :=
  xMet.of (by decide) w_843 hav (fun X h1 h2 h3 _ _ hC hr hnh hin => body X h1 h2 h3 (tk_Sg_coder hC hr hnh hin))
theorem m_Sg_charAt {l : Launch} {D : xD} {av : List Value} {h : xH} {mc ms : Nat} {P : xO → xH → Prop} (hav : (lg_sl av).length ≤ 2) (body : ∀ X : xX, X.l = l → X.D = D → X.P = P → xAll X (tb_Sg_charAt X) → xG X 0 (lv_args 0 av) [] h mc ms) : xMet l D 4 y_Sg_charAt av h mc ms P :=
  xMet.of (by decide) w_849 hav (fun X h1 h2 h3 _ _ hC hr hnh hin => body X h1 h2 h3 (tk_Sg_charAt hC hr hnh hin))
theorem m_Sg_isLatin1 {l : Launch} {D : xD} {av : List Value} {h : xH} {mc ms : Nat} {P : xO → xH → Prop} (hav : (lg_sl av).length ≤ 1) (body : ∀ X : xX, X.l = l → X.D = D → X.P = P → xAll X (tb_Sg_isLatin1 X) → xG X 0 (lv_args 0 av) [] h mc ms) : xMet l D 0 y_Sg_isLatin1 av h mc ms P :=
  xMet.of (by decide) w_853 hav (fun X h1 h2 h3 _ _ hC hr hnh hin => body X h1 h2 h3 (tk_Sg_isLatin1 hC hr hnh hin))
theorem m_L1_charAt {l : Launch} {D : xD} {av : List Value} {h : xH} {mc ms : Nat} {P : xO → xH → Prop} (hav : (lg_sl av).length ≤ 2) (body : ∀ X : xX, X.l = l → X.D = D → X.P = P → xAll X (tb_L1_charAt X) → xG X 0 (lv_args 0 av) [] h mc ms) : xMet l D 2 y_L1_charAt av h mc ms P :=
  xMet.of (by decide) w_856 hav (fun X h1 h2 h3 _ _ hC hr hnh hin => body X h1 h2 h3 (tk_L1_charAt hC hr hnh hin))
theorem m_Sg_checkIndex {l : Launch} {D : xD} {av : List Value} {h : xH} {mc ms : Nat} {P : xO → xH → Prop} (hav : (lg_sl av).length ≤ 2) (body : ∀ X : xX, X.l = l → X.D = D → X.P = P → xAll X (tb_Sg_checkIndex X) → xG X 0 (lv_args 0 av) [] h mc ms) : xMet l D 1 y_Sg_checkIndex av h mc ms P :=
  xMet.of (by decide) w_859 hav (fun X h1 h2 h3 _ _ hC hr hnh hin => body X h1 h2 h3 (tk_Sg_checkIndex hC hr hnh hin))
theorem m_Rd_readNumber {l : Launch} {D : xD} {av : List Value} {h : xH} {mc ms : Nat} {P : xO → xH → Prop} (hav : (lg_sl av).length ≤ 3) (body : ∀ X : xX, X.l = l → X.D = D → X.P = P → xAll X (tb_Rd_readNumber X) → xG X 0 (lv_args 0 av) [] h mc ms) : xMet l D 7 y_Rd_readNumber av h mc ms P :=
  xMet.of (by decide) w_888 hav (fun X h1 h2 h3 _ _ hC hr hnh hin => body X h1 h2 h3 (tk_Rd_readNumber hC hr hnh hin))
theorem m_Sp_ownWeight {l : Launch} {D : xD} {av : List Value} {h : xH} {mc ms : Nat} {P : xO → xH → Prop} (hav : (lg_sl av).length ≤ 1) (body : ∀ X : xX, X.l = l → X.D = D → X.P = P → xAll X (tb_Sp_ownWeight X) → xG X 0 (lv_args 0 av) [] h mc ms) : xMet l D 1 y_Sp_ownWeight av h mc ms P :=
  xMet.of (by decide) w_896 hav (fun X h1 h2 h3 _ _ hC hr hnh hin => body X h1 h2 h3 (tk_Sp_ownWeight hC hr hnh hin))
theorem m_Sy_readBody {l : Launch} {D : xD} {av : List Value} {h : xH} {mc ms : Nat} {P : xO → xH → Prop} (hav : (lg_sl av).length ≤ 4) (body : ∀ X : xX, X.l = l → X.D = D → X.P = P → xAll X (tb_Sy_readBody X) → xG X 0 (lv_args 0 av) [] h mc ms) : xMet l D 11 y_Sy_readBody av h mc ms P :=
  xMet.of (by decide) w_902 hav (fun X h1 h2 h3 _ _ hC hr hnh hin => body X h1 h2 h3 (tk_Sy_readBody hC hr hnh hin))
theorem m_Sy_readTold {l : Launch} {D : xD} {av : List Value} {h : xH} {mc ms : Nat} {P : xO → xH → Prop} (hav : (lg_sl av).length ≤ 5) (body : ∀ X : xX, X.l = l → X.D = D → X.P = P → xAll X (tb_Sy_readTold X) → xG X 0 (lv_args 0 av) [] h mc ms) : xMet l D 10 y_Sy_readTold av h mc ms P :=
  xMet.of (by decide) w_907 hav (fun X h1 h2 h3 _ _ hC hr hnh hin => body X h1 h2 h3 (tk_Sy_readTold hC hr hnh hin))
theorem m_Sy_numberOfName {l : Launch} {D : xD} {av : List Value} {h : xH} {mc ms : Nat} {P : xO → xH → Prop} (hav : (lg_sl av).length ≤ 3) (body : ∀ X : xX, X.l = l → X.D = D → X.P = P → xAll X (tb_Sy_numberOfName X) → xG X 0 (lv_args 0 av) [] h mc ms) : xMet l D 3 y_Sy_numberOfName av h mc ms P :=
  xMet.of (by decide) w_912 hav (fun X h1 h2 h3 _ _ hC hr hnh hin => body X h1 h2 h3 (tk_Sy_numberOfName hC hr hnh hin))
theorem m_To_init {l : Launch} {D : xD} {av : List Value} {h : xH} {mc ms : Nat} {P : xO → xH → Prop} (hav : (lg_sl av).length ≤ 3) (body : ∀ X : xX, X.l = l → X.D = D → X.P = P → xAll X (tb_To_init X) → xG X 0 (lv_args 0 av) [] h mc ms) : xMet l D 1 y_To_init av h mc ms P :=
  xMet.of (by decide) w_920 hav (fun X h1 h2 h3 _ _ hC hr hnh hin => body X h1 h2 h3 (tk_To_init hC hr hnh hin))
theorem m_To_readValue {l : Launch} {D : xD} {av : List Value} {h : xH} {mc ms : Nat} {P : xO → xH → Prop} (hav : (lg_sl av).length ≤ 3) (body : ∀ X : xX, X.l = l → X.D = D → X.P = P → xAll X (tb_To_readValue X) → xG X 0 (lv_args 0 av) [] h mc ms) : xMet l D 9 y_To_readValue av h mc ms P :=
  xMet.of (by decide) w_955 hav (fun X h1 h2 h3 _ _ hC hr hnh hin => body X h1 h2 h3 (tk_To_readValue hC hr hnh hin))
theorem m_To_readAmount {l : Launch} {D : xD} {av : List Value} {h : xH} {mc ms : Nat} {P : xO → xH → Prop} (hav : (lg_sl av).length ≤ 3) (body : ∀ X : xX, X.l = l → X.D = D → X.P = P → xAll X (tb_To_readAmount X) → xG X 0 (lv_args 0 av) [] h mc ms) : xMet l D 8 y_To_readAmount av h mc ms P :=
  xMet.of (by decide) w_962 hav (fun X h1 h2 h3 _ _ hC hr hnh hin => body X h1 h2 h3 (tk_To_readAmount hC hr hnh hin))
theorem m_Sc_property {l : Launch} {D : xD} {av : List Value} {h : xH} {mc ms : Nat} {P : xO → xH → Prop} (hav : (lg_sl av).length ≤ 8) (body : ∀ X : xX, X.l = l → X.D = D → X.P = P → xAll X (tb_Sc_property X) → xG X 0 (lv_args 0 av) [] h mc ms) : xMet l D 9 y_Sc_property av h mc ms P :=
  xMet.of (by decide) w_972 hav (fun X h1 h2 h3 _ _ hC hr hnh hin => body X h1 h2 h3 (tk_Sc_property hC hr hnh hin))
theorem m_Sc_takeName {l : Launch} {D : xD} {av : List Value} {h : xH} {mc ms : Nat} {P : xO → xH → Prop} (hav : (lg_sl av).length ≤ 2) (body : ∀ X : xX, X.l = l → X.D = D → X.P = P → xAll X (tb_Sc_takeName X) → xG X 0 (lv_args 0 av) [] h mc ms) : xMet l D 2 y_Sc_takeName av h mc ms P :=
  xMet.of (by decide) w_976 hav (fun X h1 h2 h3 _ _ hC hr hnh hin => body X h1 h2 h3 (tk_Sc_takeName hC hr hnh hin))
theorem m_Sc_elementAt {l : Launch} {D : xD} {av : List Value} {h : xH} {mc ms : Nat} {P : xO → xH → Prop} (hav : (lg_sl av).length ≤ 2) (body : ∀ X : xX, X.l = l → X.D = D → X.P = P → xAll X (tb_Sc_elementAt X) → xG X 0 (lv_args 0 av) [] h mc ms) : xMet l D 6 y_Sc_elementAt av h mc ms P :=
  xMet.of (by decide) w_982 hav (fun X h1 h2 h3 _ _ hC hr hnh hin => body X h1 h2 h3 (tk_Sc_elementAt hC hr hnh hin))
theorem m_Sy_countingFor {l : Launch} {D : xD} {av : List Value} {h : xH} {mc ms : Nat} {P : xO → xH → Prop} (hav : (lg_sl av).length ≤ 9) (body : ∀ X : xX, X.l = l → X.D = D → X.P = P → xAll X (tb_Sy_countingFor X) → xG X 0 (lv_args 0 av) [] h mc ms) : xMet l D 8 y_Sy_countingFor av h mc ms P :=
  xMet.of (by decide) w_988 hav (fun X h1 h2 h3 _ _ hC hr hnh hin => body X h1 h2 h3 (tk_Sy_countingFor hC hr hnh hin))
theorem m_Ru_leading {l : Launch} {D : xD} {av : List Value} {h : xH} {mc ms : Nat} {P : xO → xH → Prop} (hav : (lg_sl av).length ≤ 5) (body : ∀ X : xX, X.l = l → X.D = D → X.P = P → xAll X (tb_Ru_leading X) → xG X 0 (lv_args 0 av) [] h mc ms) : xMet l D 3 y_Ru_leading av h mc ms P :=
  xMet.of (by decide) w_993 hav (fun X h1 h2 h3 _ _ hC hr hnh hin => body X h1 h2 h3 (tk_Ru_leading hC hr hnh hin))
theorem m_Ru_weightFor {l : Launch} {D : xD} {av : List Value} {h : xH} {mc ms : Nat} {P : xO → xH → Prop} (hav : (lg_sl av).length ≤ 6) (body : ∀ X : xX, X.l = l → X.D = D → X.P = P → xAll X (tb_Ru_weightFor X) → xG X 0 (lv_args 0 av) [] h mc ms) : xMet l D 7 y_Ru_weightFor av h mc ms P :=
  xMet.of (by decide) w_1000 hav (fun X h1 h2 h3 _ _ hC hr hnh hin => body X h1 h2 h3 (tk_Ru_weightFor hC hr hnh hin))
theorem m_Se_matches {l : Launch} {D : xD} {av : List Value} {h : xH} {mc ms : Nat} {P : xO → xH → Prop} (hav : (lg_sl av).length ≤ 8) (body : ∀ X : xX, X.l = l → X.D = D → X.P = P → xAll X (tb_Se_matches X) → xG X 0 (lv_args 0 av) [] h mc ms) : xMet l D 6 y_Se_matches av h mc ms P :=
  xMet.of (by decide) w_1005 hav (fun X h1 h2 h3 _ _ hC hr hnh hin => body X h1 h2 h3 (tk_Se_matches hC hr hnh hin))
theorem m_Sp_matches {l : Launch} {D : xD} {av : List Value} {h : xH} {mc ms : Nat} {P : xO → xH → Prop} (hav : (lg_sl av).length ≤ 3) (body : ∀ X : xX, X.l = l → X.D = D → X.P = P → xAll X (tb_Sp_matches X) → xG X 0 (lv_args 0 av) [] h mc ms) : xMet l D 5 y_Sp_matches av h mc ms P :=
  xMet.of (by decide) w_1011 hav (fun X h1 h2 h3 _ _ hC hr hnh hin => body X h1 h2 h3 (tk_Sp_matches hC hr hnh hin))
theorem m_Co_holdsFor {l : Launch} {D : xD} {av : List Value} {h : xH} {mc ms : Nat} {P : xO → xH → Prop} (hav : (lg_sl av).length ≤ 2) (body : ∀ X : xX, X.l = l → X.D = D → X.P = P → xAll X (tb_Co_holdsFor X) → xG X 0 (lv_args 0 av) [] h mc ms) : xMet l D 4 y_Co_holdsFor av h mc ms P :=
  xMet.of (by decide) w_1017 hav (fun X h1 h2 h3 _ _ hC hr hnh hin => body X h1 h2 h3 (tk_Co_holdsFor hC hr hnh hin))
theorem m_El_isEmpty {l : Launch} {D : xD} {av : List Value} {h : xH} {mc ms : Nat} {P : xO → xH → Prop} (hav : (lg_sl av).length ≤ 1) (body : ∀ X : xX, X.l = l → X.D = D → X.P = P → xAll X (tb_El_isEmpty X) → xG X 0 (lv_args 0 av) [] h mc ms) : xMet l D 0 y_El_isEmpty av h mc ms P :=
  xMet.of (by decide) w_1021 hav (fun X h1 h2 h3 _ _ hC hr hnh hin => body X h1 h2 h3 (tk_El_isEmpty hC hr hnh hin))
theorem m_Co_holdsForField {l : Launch} {D : xD} {av : List Value} {h : xH} {mc ms : Nat} {P : xO → xH → Prop} (hav : (lg_sl av).length ≤ 2) (body : ∀ X : xX, X.l = l → X.D = D → X.P = P → xAll X (tb_Co_holdsForField X) → xG X 0 (lv_args 0 av) [] h mc ms) : xMet l D 1 y_Co_holdsForField av h mc ms P :=
  xMet.of (by decide) w_1027 hav (fun X h1 h2 h3 _ _ hC hr hnh hin => body X h1 h2 h3 (tk_Co_holdsForField hC hr hnh hin))
theorem m_Se_moveBack {l : Launch} {D : xD} {av : List Value} {h : xH} {mc ms : Nat} {P : xO → xH → Prop} (hav : (lg_sl av).length ≤ 6) (body : ∀ X : xX, X.l = l → X.D = D → X.P = P → xAll X (tb_Se_moveBack X) → xG X 0 (lv_args 0 av) [] h mc ms) : xMet l D 0 y_Se_moveBack av h mc ms P :=
  xMet.of (by decide) w_1031 hav (fun X h1 h2 h3 _ _ hC hr hnh hin => body X h1 h2 h3 (tk_Se_moveBack hC hr hnh hin))
theorem m_Sy_isAhead {l : Launch} {D : xD} {av : List Value} {h : xH} {mc ms : Nat} {P : xO → xH → Prop} (hav : (lg_sl av).length ≤ 4) (body : ∀ X : xX, X.l = l → X.D = D → X.P = P → xAll X (tb_Sy_isAhead X) → xG X 0 (lv_args 0 av) [] h mc ms) : xMet l D 0 y_Sy_isAhead av h mc ms P :=
  xMet.of (by decide) w_1034 hav (fun X h1 h2 h3 _ _ hC hr hnh hin => body X h1 h2 h3 (tk_Sy_isAhead hC hr hnh hin))
theorem m_To_leansOnOuter {l : Launch} {D : xD} {av : List Value} {h : xH} {mc ms : Nat} {P : xO → xH → Prop} (hav : (lg_sl av).length ≤ 1) (body : ∀ X : xX, X.l = l → X.D = D → X.P = P → xAll X (tb_To_leansOnOuter X) → xG X 0 (lv_args 0 av) [] h mc ms) : xMet l D 6 y_To_leansOnOuter av h mc ms P :=
  xMet.of (by decide) w_1038 hav (fun X h1 h2 h3 _ _ hC hr hnh hin => body X h1 h2 h3 (tk_To_leansOnOuter hC hr hnh hin))
theorem m_Sc_putValue {l : Launch} {D : xD} {av : List Value} {h : xH} {mc ms : Nat} {P : xO → xH → Prop} (hav : (lg_sl av).length ≤ 6) (body : ∀ X : xX, X.l = l → X.D = D → X.P = P → xAll X (tb_Sc_putValue X) → xG X 0 (lv_args 0 av) [] h mc ms) : xMet l D 3 y_Sc_putValue av h mc ms P :=
  xMet.of (by decide) w_1044 hav (fun X h1 h2 h3 _ _ hC hr hnh hin => body X h1 h2 h3 (tk_Sc_putValue hC hr hnh hin))
theorem m_Sc_putSlice {l : Launch} {D : xD} {av : List Value} {h : xH} {mc ms : Nat} {P : xO → xH → Prop} (hav : (lg_sl av).length ≤ 2) (body : ∀ X : xX, X.l = l → X.D = D → X.P = P → xAll X (tb_Sc_putSlice X) → xG X 0 (lv_args 0 av) [] h mc ms) : xMet l D 2 y_Sc_putSlice av h mc ms P :=
  xMet.of (by decide) w_1048 hav (fun X h1 h2 h3 _ _ hC hr hnh hin => body X h1 h2 h3 (tk_Sc_putSlice hC hr hnh hin))
theorem m_Sl_copyTo {l : Launch} {D : xD} {av : List Value} {h : xH} {mc ms : Nat} {P : xO → xH → Prop} (hav : (lg_sl av).length ≤ 4) (body : ∀ X : xX, X.l = l → X.D = D → X.P = P → xAll X (tb_Sl_copyTo X) → xG X 0 (lv_args 0 av) [] h mc ms) : xMet l D 1 y_Sl_copyTo av h mc ms P :=
  xMet.of (by decide) w_1052 hav (fun X h1 h2 h3 _ _ hC hr hnh hin => body X h1 h2 h3 (tk_Sl_copyTo hC hr hnh hin))
theorem m_Sc_putNumber {l : Launch} {D : xD} {av : List Value} {h : xH} {mc ms : Nat} {P : xO → xH → Prop} (hav : (lg_sl av).length ≤ 4) (body : ∀ X : xX, X.l = l → X.D = D → X.P = P → xAll X (tb_Sc_putNumber X) → xG X 0 (lv_args 0 av) [] h mc ms) : xMet l D 0 y_Sc_putNumber av h mc ms P :=
  xMet.of (by decide) w_1064 hav (fun X h1 h2 h3 _ _ hC hr hnh hin => body X h1 h2 h3 (tk_Sc_putNumber hC hr hnh hin))
theorem m_Sc_by {l : Launch} {D : xD} {av : List Value} {h : xH} {mc ms : Nat} {P : xO → xH → Prop} (hav : (lg_sl av).length ≤ 5) (body : ∀ X : xX, X.l = l → X.D = D → X.P = P → xAll X (tb_Sc_by X) → xG X 0 (lv_args 0 av) [] h mc ms) : xMet l D 9 y_Sc_by av h mc ms P :=
  xMet.of (by decide) w_1071 hav (fun X h1 h2 h3 _ _ hC hr hnh hin => body X h1 h2 h3 (tk_Sc_by hC hr hnh hin))
theorem m_Sc_select {l : Launch} {D : xD} {av : List Value} {h : xH} {mc ms : Nat} {P : xO → xH → Prop} (hav : (lg_sl av).length ≤ 4) (body : ∀ X : xX, X.l = l → X.D = D → X.P = P → xAll X (tb_Sc_select X) → xG X 0 (lv_args 0 av) [] h mc ms) : xMet l D 11 y_Sc_select av h mc ms P :=
  xMet.of (by decide) w_1078 hav (fun X h1 h2 h3 _ _ hC hr hnh hin => body X h1 h2 h3 (tk_Sc_select hC hr hnh hin))
theorem m_Sc_found {l : Launch} {D : xD} {av : List Value} {h : xH} {mc ms : Nat} {P : xO → xH → Prop} (hav : (lg_sl av).length ≤ 2) (body : ∀ X : xX, X.l = l → X.D = D → X.P = P → xAll X (tb_Sc_found X) → xG X 0 (lv_args 0 av) [] h mc ms) : xMet l D 6 y_Sc_found av h mc ms P :=
  xMet.of (by decide) w_1089 hav (fun X h1 h2 h3 _ _ hC hr hnh hin => body X h1 h2 h3 (tk_Sc_found hC hr hnh hin))
theorem m_Sc_fits {l : Launch} {D : xD} {av : List Value} {h : xH} {mc ms : Nat} {P : xO → xH → Prop} (hav : (lg_sl av).length ≤ 4) (body : ∀ X : xX, X.l = l → X.D = D → X.P = P → xAll X (tb_Sc_fits X) → xG X 0 (lv_args 0 av) [] h mc ms) : xMet l D 7 y_Sc_fits av h mc ms P :=
  xMet.of (by decide) w_1097 hav (fun X h1 h2 h3 _ _ hC hr hnh hin => body X h1 h2 h3 (tk_Sc_fits hC hr hnh hin))
theorem m_Sc_element {l : Launch} {D : xD} {av : List Value} {h : xH} {mc ms : Nat} {P : xO → xH → Prop} (hav : (lg_sl av).length ≤ 4) (body : ∀ X : xX, X.l = l → X.D = D → X.P = P → xAll X (tb_Sc_element X) → xG X 0 (lv_args 0 av) [] h mc ms) : xMet l D 7 y_Sc_element av h mc ms P :=
  xMet.of (by decide) w_1105 hav (fun X h1 h2 h3 _ _ hC hr hnh hin => body X h1 h2 h3 (tk_Sc_element hC hr hnh hin))
theorem m_Sc_tell {l : Launch} {D : xD} {av : List Value} {h : xH} {mc ms : Nat} {P : xO → xH → Prop} (hav : (lg_sl av).length ≤ 5) (body : ∀ X : xX, X.l = l → X.D = D → X.P = P → xAll X (tb_Sc_tell X) → xG X 0 (lv_args 0 av) [] h mc ms) : xMet l D 7 y_Sc_tell av h mc ms P :=
  xMet.of (by decide) w_1114 hav (fun X h1 h2 h3 _ _ hC hr hnh hin => body X h1 h2 h3 (tk_Sc_tell hC hr hnh hin))
theorem m_Sc_putTexts {l : Launch} {D : xD} {av : List Value} {h : xH} {mc ms : Nat} {P : xO → xH → Prop} (hav : (lg_sl av).length ≤ 6) (body : ∀ X : xX, X.l = l → X.D = D → X.P = P → xAll X (tb_Sc_putTexts X) → xG X 0 (lv_args 0 av) [] h mc ms) : xMet l D 6 y_Sc_putTexts av h mc ms P :=
  xMet.of (by decide) w_1119 hav (fun X h1 h2 h3 _ _ hC hr hnh hin => body X h1 h2 h3 (tk_Sc_putTexts hC hr hnh hin))
theorem m_Sc_word {l : Launch} {D : xD} {av : List Value} {h : xH} {mc ms : Nat} {P : xO → xH → Prop} (hav : (lg_sl av).length ≤ 5) (body : ∀ X : xX, X.l = l → X.D = D → X.P = P → xAll X (tb_Sc_word X) → xG X 0 (lv_args 0 av) [] h mc ms) : xMet l D 6 y_Sc_word av h mc ms P :=
  xMet.of (by decide) w_1128 hav (fun X h1 h2 h3 _ _ hC hr hnh hin => body X h1 h2 h3 (tk_Sc_word hC hr hnh hin))
theorem m_Sc_count {l : Launch} {D : xD} {av : List Value} {h : xH} {mc ms : Nat} {P : xO → xH → Prop} (hav : (lg_sl av).length ≤ 3) (body : ∀ X : xX, X.l = l → X.D = D → X.P = P → xAll X (tb_Sc_count X) → xG X 0 (lv_args 0 av) [] h mc ms) : xMet l D 6 y_Sc_count av h mc ms P :=
  xMet.of (by decide) w_1136 hav (fun X h1 h2 h3 _ _ hC hr hnh hin => body X h1 h2 h3 (tk_Sc_count hC hr hnh hin))
theorem m_Mo_init {l : Launch} {D : xD} {av : List Value} {h : xH} {mc ms : Nat} {P : xO → xH → Prop} (hav : (lg_sl av).length ≤ 1) (body : ∀ X : xX, X.l = l → X.D = D → X.P = P → xAll X (tb_Mo_init X) → xG X 0 (lv_args 0 av) [] h mc ms) : xMet l D 1 y_Mo_init av h mc ms P :=
  xMet.of (by decide) w_1142 hav (fun X h1 h2 h3 _ _ hC hr hnh hin => body X h1 h2 h3 (tk_Mo_init hC hr hnh hin))
theorem m_Mo_thrown {l : Launch} {D : xD} {av : List Value} {h : xH} {mc ms : Nat} {P : xO → xH → Prop} (hav : (lg_sl av).length ≤ 1) (body : ∀ X : xX, X.l = l → X.D = D → X.P = P → xAll X (tb_Mo_thrown X) → xG X 0 (lv_args 0 av) [] h mc ms) : xMet l D 0 y_Mo_thrown av h mc ms P :=
  xMet.of (by decide) w_1405 hav (fun X h1 h2 h3 _ _ hC hr hnh hin => body X h1 h2 h3 (tk_Mo_thrown hC hr hnh hin))
theorem m_Mo_feed {l : Launch} {D : xD} {av : List Value} {h : xH} {mc ms : Nat} {P : xO → xH → Prop} (hav : (lg_sl av).length ≤ 6) (body : ∀ X : xX, X.l = l → X.D = D → X.P = P → xAll X (tb_Mo_feed X) → xG X 0 (lv_args 0 av) [] h mc ms) : xMet l D 1 y_Mo_feed av h mc ms P :=
  xMet.of (by decide) w_1409 hav (fun X h1 h2 h3 _ _ hC hr hnh hin => body X h1 h2 h3 (tk_Mo_feed hC hr hnh hin))
theorem m_Mo_refuse {l : Launch} {D : xD} {av : List Value} {h : xH} {mc ms : Nat} {P : xO → xH → Prop} (hav : (lg_sl av).length ≤ 2) (body : ∀ X : xX, X.l = l → X.D = D → X.P = P → xAll X (tb_Mo_refuse X) → xG X 0 (lv_args 0 av) [] h mc ms) : xMet l D 0 y_Mo_refuse av h mc ms P :=
  xMet.of (by decide) w_1413 hav (fun X h1 h2 h3 _ _ hC hr hnh hin => body X h1 h2 h3 (tk_Mo_refuse hC hr hnh hin))
theorem m_Mo_four {l : Launch} {D : xD} {av : List Value} {h : xH} {mc ms : Nat} {P : xO → xH → Prop} (hav : (lg_sl av).length ≤ 3) (body : ∀ X : xX, X.l = l → X.D = D → X.P = P → xAll X (tb_Mo_four X) → xG X 0 (lv_args 0 av) [] h mc ms) : xMet l D 0 y_Mo_four av h mc ms P :=
  xMet.of (by decide) w_1417 hav (fun X h1 h2 h3 _ _ hC hr hnh hin => body X h1 h2 h3 (tk_Mo_four hC hr hnh hin))
theorem m_Mo_end {l : Launch} {D : xD} {av : List Value} {h : xH} {mc ms : Nat} {P : xO → xH → Prop} (hav : (lg_sl av).length ≤ 2) (body : ∀ X : xX, X.l = l → X.D = D → X.P = P → xAll X (tb_Mo_end X) → xG X 0 (lv_args 0 av) [] h mc ms) : xMet l D 1 y_Mo_end av h mc ms P :=
  xMet.of (by decide) w_1421 hav (fun X h1 h2 h3 _ _ hC hr hnh hin => body X h1 h2 h3 (tk_Mo_end hC hr hnh hin))
theorem m_Mo_in {l : Launch} {D : xD} {av : List Value} {h : xH} {mc ms : Nat} {P : xO → xH → Prop} (hav : (lg_sl av).length ≤ 3) (body : ∀ X : xX, X.l = l → X.D = D → X.P = P → xAll X (tb_Mo_in X) → xG X 0 (lv_args 0 av) [] h mc ms) : xMet l D 0 y_Mo_in av h mc ms P :=
  xMet.of (by decide) w_1424 hav (fun X h1 h2 h3 _ _ hC hr hnh hin => body X h1 h2 h3 (tk_Mo_in hC hr hnh hin))
theorem m_Mo_source {l : Launch} {D : xD} {av : List Value} {h : xH} {mc ms : Nat} {P : xO → xH → Prop} (hav : (lg_sl av).length ≤ 3) (body : ∀ X : xX, X.l = l → X.D = D → X.P = P → xAll X (tb_Mo_source X) → xG X 0 (lv_args 0 av) [] h mc ms) : xMet l D 5 y_Mo_source av h mc ms P :=
  xMet.of (by decide) w_1428 hav (fun X h1 h2 h3 _ _ hC hr hnh hin => body X h1 h2 h3 (tk_Mo_source hC hr hnh hin))
theorem m_Mo_take {l : Launch} {D : xD} {av : List Value} {h : xH} {mc ms : Nat} {P : xO → xH → Prop} (hav : (lg_sl av).length ≤ 3) (body : ∀ X : xX, X.l = l → X.D = D → X.P = P → xAll X (tb_Mo_take X) → xG X 0 (lv_args 0 av) [] h mc ms) : xMet l D 0 y_Mo_take av h mc ms P :=
  xMet.of (by decide) w_1432 hav (fun X h1 h2 h3 _ _ hC hr hnh hin => body X h1 h2 h3 (tk_Mo_take hC hr hnh hin))
theorem m_Mo_readSource {l : Launch} {D : xD} {av : List Value} {h : xH} {mc ms : Nat} {P : xO → xH → Prop} (hav : (lg_sl av).length ≤ 4) (body : ∀ X : xX, X.l = l → X.D = D → X.P = P → xAll X (tb_Mo_readSource X) → xG X 0 (lv_args 0 av) [] h mc ms) : xMet l D 4 y_Mo_readSource av h mc ms P :=
  xMet.of (by decide) w_1436 hav (fun X h1 h2 h3 _ _ hC hr hnh hin => body X h1 h2 h3 (tk_Mo_readSource hC hr hnh hin))
theorem m_Mo_byteAt {l : Launch} {D : xD} {av : List Value} {h : xH} {mc ms : Nat} {P : xO → xH → Prop} (hav : (lg_sl av).length ≤ 2) (body : ∀ X : xX, X.l = l → X.D = D → X.P = P → xAll X (tb_Mo_byteAt X) → xG X 0 (lv_args 0 av) [] h mc ms) : xMet l D 0 y_Mo_byteAt av h mc ms P :=
  xMet.of (by decide) w_1440 hav (fun X h1 h2 h3 _ _ hC hr hnh hin => body X h1 h2 h3 (tk_Mo_byteAt hC hr hnh hin))
theorem m_Mo_closed {l : Launch} {D : xD} {av : List Value} {h : xH} {mc ms : Nat} {P : xO → xH → Prop} (hav : (lg_sl av).length ≤ 4) (body : ∀ X : xX, X.l = l → X.D = D → X.P = P → xAll X (tb_Mo_closed X) → xG X 0 (lv_args 0 av) [] h mc ms) : xMet l D 2 y_Mo_closed av h mc ms P :=
  xMet.of (by decide) w_1444 hav (fun X h1 h2 h3 _ _ hC hr hnh hin => body X h1 h2 h3 (tk_Mo_closed hC hr hnh hin))
theorem m_Mo_wrong {l : Launch} {D : xD} {av : List Value} {h : xH} {mc ms : Nat} {P : xO → xH → Prop} (hav : (lg_sl av).length ≤ 2) (body : ∀ X : xX, X.l = l → X.D = D → X.P = P → xAll X (tb_Mo_wrong X) → xG X 0 (lv_args 0 av) [] h mc ms) : xMet l D 0 y_Mo_wrong av h mc ms P :=
  xMet.of (by decide) w_1448 hav (fun X h1 h2 h3 _ _ hC hr hnh hin => body X h1 h2 h3 (tk_Mo_wrong hC hr hnh hin))
theorem m_Mo_nameFrom {l : Launch} {D : xD} {av : List Value} {h : xH} {mc ms : Nat} {P : xO → xH → Prop} (hav : (lg_sl av).length ≤ 3) (body : ∀ X : xX, X.l = l → X.D = D → X.P = P → xAll X (tb_Mo_nameFrom X) → xG X 0 (lv_args 0 av) [] h mc ms) : xMet l D 1 y_Mo_nameFrom av h mc ms P :=
  xMet.of (by decide) w_1452 hav (fun X h1 h2 h3 _ _ hC hr hnh hin => body X h1 h2 h3 (tk_Mo_nameFrom hC hr hnh hin))
theorem m_Mo_isSmall {l : Launch} {D : xD} {av : List Value} {h : xH} {mc ms : Nat} {P : xO → xH → Prop} (hav : (lg_sl av).length ≤ 1) (body : ∀ X : xX, X.l = l → X.D = D → X.P = P → xAll X (tb_Mo_isSmall X) → xG X 0 (lv_args 0 av) [] h mc ms) : xMet l D 0 y_Mo_isSmall av h mc ms P :=
  xMet.of (by decide) w_1455 hav (fun X h1 h2 h3 _ _ hC hr hnh hin => body X h1 h2 h3 (tk_Mo_isSmall hC hr hnh hin))
theorem m_Mo_isDigit {l : Launch} {D : xD} {av : List Value} {h : xH} {mc ms : Nat} {P : xO → xH → Prop} (hav : (lg_sl av).length ≤ 1) (body : ∀ X : xX, X.l = l → X.D = D → X.P = P → xAll X (tb_Mo_isDigit X) → xG X 0 (lv_args 0 av) [] h mc ms) : xMet l D 0 y_Mo_isDigit av h mc ms P :=
  xMet.of (by decide) w_1458 hav (fun X h1 h2 h3 _ _ hC hr hnh hin => body X h1 h2 h3 (tk_Mo_isDigit hC hr hnh hin))
theorem m_Mo_same {l : Launch} {D : xD} {av : List Value} {h : xH} {mc ms : Nat} {P : xO → xH → Prop} (hav : (lg_sl av).length ≤ 6) (body : ∀ X : xX, X.l = l → X.D = D → X.P = P → xAll X (tb_Mo_same X) → xG X 0 (lv_args 0 av) [] h mc ms) : xMet l D 0 y_Mo_same av h mc ms P :=
  xMet.of (by decide) w_1462 hav (fun X h1 h2 h3 _ _ hC hr hnh hin => body X h1 h2 h3 (tk_Mo_same hC hr hnh hin))
theorem m_Mo_blanks {l : Launch} {D : xD} {av : List Value} {h : xH} {mc ms : Nat} {P : xO → xH → Prop} (hav : (lg_sl av).length ≤ 1) (body : ∀ X : xX, X.l = l → X.D = D → X.P = P → xAll X (tb_Mo_blanks X) → xG X 0 (lv_args 0 av) [] h mc ms) : xMet l D 1 y_Mo_blanks av h mc ms P :=
  xMet.of (by decide) w_1466 hav (fun X h1 h2 h3 _ _ hC hr hnh hin => body X h1 h2 h3 (tk_Mo_blanks hC hr hnh hin))
theorem m_Mo_isBlank {l : Launch} {D : xD} {av : List Value} {h : xH} {mc ms : Nat} {P : xO → xH → Prop} (hav : (lg_sl av).length ≤ 1) (body : ∀ X : xX, X.l = l → X.D = D → X.P = P → xAll X (tb_Mo_isBlank X) → xG X 0 (lv_args 0 av) [] h mc ms) : xMet l D 0 y_Mo_isBlank av h mc ms P :=
  xMet.of (by decide) w_1469 hav (fun X h1 h2 h3 _ _ hC hr hnh hin => body X h1 h2 h3 (tk_Mo_isBlank hC hr hnh hin))
theorem m_Mo_comment {l : Launch} {D : xD} {av : List Value} {h : xH} {mc ms : Nat} {P : xO → xH → Prop} (hav : (lg_sl av).length ≤ 2) (body : ∀ X : xX, X.l = l → X.D = D → X.P = P → xAll X (tb_Mo_comment X) → xG X 0 (lv_args 0 av) [] h mc ms) : xMet l D 1 y_Mo_comment av h mc ms P :=
  xMet.of (by decide) w_1473 hav (fun X h1 h2 h3 _ _ hC hr hnh hin => body X h1 h2 h3 (tk_Mo_comment hC hr hnh hin))
theorem m_Mo_defined {l : Launch} {D : xD} {av : List Value} {h : xH} {mc ms : Nat} {P : xO → xH → Prop} (hav : (lg_sl av).length ≤ 5) (body : ∀ X : xX, X.l = l → X.D = D → X.P = P → xAll X (tb_Mo_defined X) → xG X 0 (lv_args 0 av) [] h mc ms) : xMet l D 2 y_Mo_defined av h mc ms P :=
  xMet.of (by decide) w_1477 hav (fun X h1 h2 h3 _ _ hC hr hnh hin => body X h1 h2 h3 (tk_Mo_defined hC hr hnh hin))
theorem m_Mo_isFixed {l : Launch} {D : xD} {av : List Value} {h : xH} {mc ms : Nat} {P : xO → xH → Prop} (hav : (lg_sl av).length ≤ 3) (body : ∀ X : xX, X.l = l → X.D = D → X.P = P → xAll X (tb_Mo_isFixed X) → xG X 0 (lv_args 0 av) [] h mc ms) : xMet l D 1 y_Mo_isFixed av h mc ms P :=
  xMet.of (by decide) w_1481 hav (fun X h1 h2 h3 _ _ hC hr hnh hin => body X h1 h2 h3 (tk_Mo_isFixed hC hr hnh hin))
theorem m_Mo_isWord {l : Launch} {D : xD} {av : List Value} {h : xH} {mc ms : Nat} {P : xO → xH → Prop} (hav : (lg_sl av).length ≤ 8) (body : ∀ X : xX, X.l = l → X.D = D → X.P = P → xAll X (tb_Mo_isWord X) → xG X 0 (lv_args 0 av) [] h mc ms) : xMet l D 0 y_Mo_isWord av h mc ms P :=
  xMet.of (by decide) w_1486 hav (fun X h1 h2 h3 _ _ hC hr hnh hin => body X h1 h2 h3 (tk_Mo_isWord hC hr hnh hin))
theorem m_Mo_entity {l : Launch} {D : xD} {av : List Value} {h : xH} {mc ms : Nat} {P : xO → xH → Prop} (hav : (lg_sl av).length ≤ 4) (body : ∀ X : xX, X.l = l → X.D = D → X.P = P → xAll X (tb_Mo_entity X) → xG X 0 (lv_args 0 av) [] h mc ms) : xMet l D 1 y_Mo_entity av h mc ms P :=
  xMet.of (by decide) w_1491 hav (fun X h1 h2 h3 _ _ hC hr hnh hin => body X h1 h2 h3 (tk_Mo_entity hC hr hnh hin))
theorem m_Mo_stringFrom {l : Launch} {D : xD} {av : List Value} {h : xH} {mc ms : Nat} {P : xO → xH → Prop} (hav : (lg_sl av).length ≤ 3) (body : ∀ X : xX, X.l = l → X.D = D → X.P = P → xAll X (tb_Mo_stringFrom X) → xG X 0 (lv_args 0 av) [] h mc ms) : xMet l D 1 y_Mo_stringFrom av h mc ms P :=
  xMet.of (by decide) w_1495 hav (fun X h1 h2 h3 _ _ hC hr hnh hin => body X h1 h2 h3 (tk_Mo_stringFrom hC hr hnh hin))
theorem m_Mo_behindString {l : Launch} {D : xD} {av : List Value} {h : xH} {mc ms : Nat} {P : xO → xH → Prop} (hav : (lg_sl av).length ≤ 3) (body : ∀ X : xX, X.l = l → X.D = D → X.P = P → xAll X (tb_Mo_behindString X) → xG X 0 (lv_args 0 av) [] h mc ms) : xMet l D 1 y_Mo_behindString av h mc ms P :=
  xMet.of (by decide) w_1499 hav (fun X h1 h2 h3 _ _ hC hr hnh hin => body X h1 h2 h3 (tk_Mo_behindString hC hr hnh hin))
theorem m_Mo_opened {l : Launch} {D : xD} {av : List Value} {h : xH} {mc ms : Nat} {P : xO → xH → Prop} (hav : (lg_sl av).length ≤ 8) (body : ∀ X : xX, X.l = l → X.D = D → X.P = P → xAll X (tb_Mo_opened X) → xG X 0 (lv_args 0 av) [] h mc ms) : xMet l D 3 y_Mo_opened av h mc ms P :=
  xMet.of (by decide) w_1503 hav (fun X h1 h2 h3 _ _ hC hr hnh hin => body X h1 h2 h3 (tk_Mo_opened hC hr hnh hin))
theorem m_Mo_field {l : Launch} {D : xD} {av : List Value} {h : xH} {mc ms : Nat} {P : xO → xH → Prop} (hav : (lg_sl av).length ≤ 6) (body : ∀ X : xX, X.l = l → X.D = D → X.P = P → xAll X (tb_Mo_field X) → xG X 0 (lv_args 0 av) [] h mc ms) : xMet l D 2 y_Mo_field av h mc ms P :=
  xMet.of (by decide) w_1507 hav (fun X h1 h2 h3 _ _ hC hr hnh hin => body X h1 h2 h3 (tk_Mo_field hC hr hnh hin))
theorem m_Mo_reference {l : Launch} {D : xD} {av : List Value} {h : xH} {mc ms : Nat} {P : xO → xH → Prop} (hav : (lg_sl av).length ≤ 7) (body : ∀ X : xX, X.l = l → X.D = D → X.P = P → xAll X (tb_Mo_reference X) → xG X 0 (lv_args 0 av) [] h mc ms) : xMet l D 2 y_Mo_reference av h mc ms P :=
  xMet.of (by decide) w_1511 hav (fun X h1 h2 h3 _ _ hC hr hnh hin => body X h1 h2 h3 (tk_Mo_reference hC hr hnh hin))
theorem m_Mo_piece {l : Launch} {D : xD} {av : List Value} {h : xH} {mc ms : Nat} {P : xO → xH → Prop} (hav : (lg_sl av).length ≤ 4) (body : ∀ X : xX, X.l = l → X.D = D → X.P = P → xAll X (tb_Mo_piece X) → xG X 0 (lv_args 0 av) [] h mc ms) : xMet l D 0 y_Mo_piece av h mc ms P :=
  xMet.of (by decide) w_1515 hav (fun X h1 h2 h3 _ _ hC hr hnh hin => body X h1 h2 h3 (tk_Mo_piece hC hr hnh hin))
theorem m_Mo_style {l : Launch} {D : xD} {av : List Value} {h : xH} {mc ms : Nat} {P : xO → xH → Prop} (hav : (lg_sl av).length ≤ 3) (body : ∀ X : xX, X.l = l → X.D = D → X.P = P → xAll X (tb_Mo_style X) → xG X 0 (lv_args 0 av) [] h mc ms) : xMet l D 7 y_Mo_style av h mc ms P :=
  xMet.of (by decide) w_1519 hav (fun X h1 h2 h3 _ _ hC hr hnh hin => body X h1 h2 h3 (tk_Mo_style hC hr hnh hin))
theorem m_Mo_readStyle {l : Launch} {D : xD} {av : List Value} {h : xH} {mc ms : Nat} {P : xO → xH → Prop} (hav : (lg_sl av).length ≤ 4) (body : ∀ X : xX, X.l = l → X.D = D → X.P = P → xAll X (tb_Mo_readStyle X) → xG X 0 (lv_args 0 av) [] h mc ms) : xMet l D 6 y_Mo_readStyle av h mc ms P :=
  xMet.of (by decide) w_1523 hav (fun X h1 h2 h3 _ _ hC hr hnh hin => body X h1 h2 h3 (tk_Mo_readStyle hC hr hnh hin))
theorem m_Mo_next {l : Launch} {D : xD} {av : List Value} {h : xH} {mc ms : Nat} {P : xO → xH → Prop} (hav : (lg_sl av).length ≤ 2) (body : ∀ X : xX, X.l = l → X.D = D → X.P = P → xAll X (tb_Mo_next X) → xG X 0 (lv_args 0 av) [] h mc ms) : xMet l D 1 y_Mo_next av h mc ms P :=
  xMet.of (by decide) w_1527 hav (fun X h1 h2 h3 _ _ hC hr hnh hin => body X h1 h2 h3 (tk_Mo_next hC hr hnh hin))
theorem m_Mo_selector {l : Launch} {D : xD} {av : List Value} {h : xH} {mc ms : Nat} {P : xO → xH → Prop} (hav : (lg_sl av).length ≤ 3) (body : ∀ X : xX, X.l = l → X.D = D → X.P = P → xAll X (tb_Mo_selector X) → xG X 0 (lv_args 0 av) [] h mc ms) : xMet l D 5 y_Mo_selector av h mc ms P :=
  xMet.of (by decide) w_1531 hav (fun X h1 h2 h3 _ _ hC hr hnh hin => body X h1 h2 h3 (tk_Mo_selector hC hr hnh hin))
theorem m_Mo_step {l : Launch} {D : xD} {av : List Value} {h : xH} {mc ms : Nat} {P : xO → xH → Prop} (hav : (lg_sl av).length ≤ 4) (body : ∀ X : xX, X.l = l → X.D = D → X.P = P → xAll X (tb_Mo_step X) → xG X 0 (lv_args 0 av) [] h mc ms) : xMet l D 4 y_Mo_step av h mc ms P :=
  xMet.of (by decide) w_1535 hav (fun X h1 h2 h3 _ _ hC hr hnh hin => body X h1 h2 h3 (tk_Mo_step hC hr hnh hin))
theorem m_Mo_isSign {l : Launch} {D : xD} {av : List Value} {h : xH} {mc ms : Nat} {P : xO → xH → Prop} (hav : (lg_sl av).length ≤ 2) (body : ∀ X : xX, X.l = l → X.D = D → X.P = P → xAll X (tb_Mo_isSign X) → xG X 0 (lv_args 0 av) [] h mc ms) : xMet l D 0 y_Mo_isSign av h mc ms P :=
  xMet.of (by decide) w_1539 hav (fun X h1 h2 h3 _ _ hC hr hnh hin => body X h1 h2 h3 (tk_Mo_isSign hC hr hnh hin))
theorem m_Mo_bracket {l : Launch} {D : xD} {av : List Value} {h : xH} {mc ms : Nat} {P : xO → xH → Prop} (hav : (lg_sl av).length ≤ 1) (body : ∀ X : xX, X.l = l → X.D = D → X.P = P → xAll X (tb_Mo_bracket X) → xG X 0 (lv_args 0 av) [] h mc ms) : xMet l D 3 y_Mo_bracket av h mc ms P :=
  xMet.of (by decide) w_1543 hav (fun X h1 h2 h3 _ _ hC hr hnh hin => body X h1 h2 h3 (tk_Mo_bracket hC hr hnh hin))
theorem m_Mo_needKind {l : Launch} {D : xD} {av : List Value} {h : xH} {mc ms : Nat} {P : xO → xH → Prop} (hav : (lg_sl av).length ≤ 2) (body : ∀ X : xX, X.l = l → X.D = D → X.P = P → xAll X (tb_Mo_needKind X) → xG X 0 (lv_args 0 av) [] h mc ms) : xMet l D 1 y_Mo_needKind av h mc ms P :=
  xMet.of (by decide) w_1547 hav (fun X h1 h2 h3 _ _ hC hr hnh hin => body X h1 h2 h3 (tk_Mo_needKind hC hr hnh hin))
theorem m_Mo_need {l : Launch} {D : xD} {av : List Value} {h : xH} {mc ms : Nat} {P : xO → xH → Prop} (hav : (lg_sl av).length ≤ 2) (body : ∀ X : xX, X.l = l → X.D = D → X.P = P → xAll X (tb_Mo_need X) → xG X 0 (lv_args 0 av) [] h mc ms) : xMet l D 2 y_Mo_need av h mc ms P :=
  xMet.of (by decide) w_1551 hav (fun X h1 h2 h3 _ _ hC hr hnh hin => body X h1 h2 h3 (tk_Mo_need hC hr hnh hin))
theorem m_Mo_colon {l : Launch} {D : xD} {av : List Value} {h : xH} {mc ms : Nat} {P : xO → xH → Prop} (hav : (lg_sl av).length ≤ 4) (body : ∀ X : xX, X.l = l → X.D = D → X.P = P → xAll X (tb_Mo_colon X) → xG X 0 (lv_args 0 av) [] h mc ms) : xMet l D 3 y_Mo_colon av h mc ms P :=
  xMet.of (by decide) w_1555 hav (fun X h1 h2 h3 _ _ hC hr hnh hin => body X h1 h2 h3 (tk_Mo_colon hC hr hnh hin))
theorem m_Mo_body {l : Launch} {D : xD} {av : List Value} {h : xH} {mc ms : Nat} {P : xO → xH → Prop} (hav : (lg_sl av).length ≤ 3) (body : ∀ X : xX, X.l = l → X.D = D → X.P = P → xAll X (tb_Mo_body X) → xG X 0 (lv_args 0 av) [] h mc ms) : xMet l D 3 y_Mo_body av h mc ms P :=
  xMet.of (by decide) w_1564 hav (fun X h1 h2 h3 _ _ hC hr hnh hin => body X h1 h2 h3 (tk_Mo_body hC hr hnh hin))
theorem m_Mo_known {l : Launch} {D : xD} {av : List Value} {h : xH} {mc ms : Nat} {P : xO → xH → Prop} (hav : (lg_sl av).length ≤ 4) (body : ∀ X : xX, X.l = l → X.D = D → X.P = P → xAll X (tb_Mo_known X) → xG X 0 (lv_args 0 av) [] h mc ms) : xMet l D 1 y_Mo_known av h mc ms P :=
  xMet.of (by decide) w_1568 hav (fun X h1 h2 h3 _ _ hC hr hnh hin => body X h1 h2 h3 (tk_Mo_known hC hr hnh hin))
theorem m_Mo_oneValue {l : Launch} {D : xD} {av : List Value} {h : xH} {mc ms : Nat} {P : xO → xH → Prop} (hav : (lg_sl av).length ≤ 4) (body : ∀ X : xX, X.l = l → X.D = D → X.P = P → xAll X (tb_Mo_oneValue X) → xG X 0 (lv_args 0 av) [] h mc ms) : xMet l D 2 y_Mo_oneValue av h mc ms P :=
  xMet.of (by decide) w_1572 hav (fun X h1 h2 h3 _ _ hC hr hnh hin => body X h1 h2 h3 (tk_Mo_oneValue hC hr hnh hin))
theorem m_Mo_place {l : Launch} {D : xD} {av : List Value} {h : xH} {mc ms : Nat} {P : xO → xH → Prop} (hav : (lg_sl av).length ≤ 1) (body : ∀ X : xX, X.l = l → X.D = D → X.P = P → xAll X (tb_Mo_place X) → xG X 0 (lv_args 0 av) [] h mc ms) : xMet l D 0 y_Mo_place av h mc ms P :=
  xMet.of (by decide) w_1576 hav (fun X h1 h2 h3 _ _ hC hr hnh hin => body X h1 h2 h3 (tk_Mo_place hC hr hnh hin))
theorem m_Mo_by {l : Launch} {D : xD} {av : List Value} {h : xH} {mc ms : Nat} {P : xO → xH → Prop} (hav : (lg_sl av).length ≤ 3) (body : ∀ X : xX, X.l = l → X.D = D → X.P = P → xAll X (tb_Mo_by X) → xG X 0 (lv_args 0 av) [] h mc ms) : xMet l D 6 y_Mo_by av h mc ms P :=
  xMet.of (by decide) w_1580 hav (fun X h1 h2 h3 _ _ hC hr hnh hin => body X h1 h2 h3 (tk_Mo_by hC hr hnh hin))
theorem m_Mo_asked {l : Launch} {D : xD} {av : List Value} {h : xH} {mc ms : Nat} {P : xO → xH → Prop} (hav : (lg_sl av).length ≤ 1) (body : ∀ X : xX, X.l = l → X.D = D → X.P = P → xAll X (tb_Mo_asked X) → xG X 0 (lv_args 0 av) [] h mc ms) : xMet l D 2 y_Mo_asked av h mc ms P :=
  xMet.of (by decide) w_1584 hav (fun X h1 h2 h3 _ _ hC hr hnh hin => body X h1 h2 h3 (tk_Mo_asked hC hr hnh hin))
theorem m_Mo_isThere {l : Launch} {D : xD} {av : List Value} {h : xH} {mc ms : Nat} {P : xO → xH → Prop} (hav : (lg_sl av).length ≤ 2) (body : ∀ X : xX, X.l = l → X.D = D → X.P = P → xAll X (tb_Mo_isThere X) → xG X 0 (lv_args 0 av) [] h mc ms) : xMet l D 1 y_Mo_isThere av h mc ms P :=
  xMet.of (by decide) w_1589 hav (fun X h1 h2 h3 _ _ hC hr hnh hin => body X h1 h2 h3 (tk_Mo_isThere hC hr hnh hin))
theorem m_Mo_counts {l : Launch} {D : xD} {av : List Value} {h : xH} {mc ms : Nat} {P : xO → xH → Prop} (hav : (lg_sl av).length ≤ 8) (body : ∀ X : xX, X.l = l → X.D = D → X.P = P → xAll X (tb_Mo_counts X) → xG X 0 (lv_args 0 av) [] h mc ms) : xMet l D 5 y_Mo_counts av h mc ms P :=
  xMet.of (by decide) w_1593 hav (fun X h1 h2 h3 _ _ hC hr hnh hin => body X h1 h2 h3 (tk_Mo_counts hC hr hnh hin))
theorem m_Mo_selectorFits {l : Launch} {D : xD} {av : List Value} {h : xH} {mc ms : Nat} {P : xO → xH → Prop} (hav : (lg_sl av).length ≤ 8) (body : ∀ X : xX, X.l = l → X.D = D → X.P = P → xAll X (tb_Mo_selectorFits X) → xG X 0 (lv_args 0 av) [] h mc ms) : xMet l D 4 y_Mo_selectorFits av h mc ms P :=
  xMet.of (by decide) w_1597 hav (fun X h1 h2 h3 _ _ hC hr hnh hin => body X h1 h2 h3 (tk_Mo_selectorFits hC hr hnh hin))
theorem m_Mo_stepFits {l : Launch} {D : xD} {av : List Value} {h : xH} {mc ms : Nat} {P : xO → xH → Prop} (hav : (lg_sl av).length ≤ 4) (body : ∀ X : xX, X.l = l → X.D = D → X.P = P → xAll X (tb_Mo_stepFits X) → xG X 0 (lv_args 0 av) [] h mc ms) : xMet l D 3 y_Mo_stepFits av h mc ms P :=
  xMet.of (by decide) w_1601 hav (fun X h1 h2 h3 _ _ hC hr hnh hin => body X h1 h2 h3 (tk_Mo_stepFits hC hr hnh hin))
theorem m_Mo_isSo {l : Launch} {D : xD} {av : List Value} {h : xH} {mc ms : Nat} {P : xO → xH → Prop} (hav : (lg_sl av).length ≤ 5) (body : ∀ X : xX, X.l = l → X.D = D → X.P = P → xAll X (tb_Mo_isSo X) → xG X 0 (lv_args 0 av) [] h mc ms) : xMet l D 2 y_Mo_isSo av h mc ms P :=
  xMet.of (by decide) w_1605 hav (fun X h1 h2 h3 _ _ hC hr hnh hin => body X h1 h2 h3 (tk_Mo_isSo hC hr hnh hin))
theorem m_Mo_fieldOf {l : Launch} {D : xD} {av : List Value} {h : xH} {mc ms : Nat} {P : xO → xH → Prop} (hav : (lg_sl av).length ≤ 5) (body : ∀ X : xX, X.l = l → X.D = D → X.P = P → xAll X (tb_Mo_fieldOf X) → xG X 0 (lv_args 0 av) [] h mc ms) : xMet l D 1 y_Mo_fieldOf av h mc ms P :=
  xMet.of (by decide) w_1609 hav (fun X h1 h2 h3 _ _ hC hr hnh hin => body X h1 h2 h3 (tk_Mo_fieldOf hC hr hnh hin))
theorem m_Mo_among {l : Launch} {D : xD} {av : List Value} {h : xH} {mc ms : Nat} {P : xO → xH → Prop} (hav : (lg_sl av).length ≤ 2) (body : ∀ X : xX, X.l = l → X.D = D → X.P = P → xAll X (tb_Mo_among X) → xG X 0 (lv_args 0 av) [] h mc ms) : xMet l D 0 y_Mo_among av h mc ms P :=
  xMet.of (by decide) w_1613 hav (fun X h1 h2 h3 _ _ hC hr hnh hin => body X h1 h2 h3 (tk_Mo_among hC hr hnh hin))
theorem m_Mo_property {l : Launch} {D : xD} {av : List Value} {h : xH} {mc ms : Nat} {P : xO → xH → Prop} (hav : (lg_sl av).length ≤ 10) (body : ∀ X : xX, X.l = l → X.D = D → X.P = P → xAll X (tb_Mo_property X) → xG X 0 (lv_args 0 av) [] h mc ms) : xMet l D 6 y_Mo_property av h mc ms P :=
  xMet.of (by decide) w_1617 hav (fun X h1 h2 h3 _ _ hC hr hnh hin => body X h1 h2 h3 (tk_Mo_property hC hr hnh hin))
theorem m_Mo_sayNumber {l : Launch} {D : xD} {av : List Value} {h : xH} {mc ms : Nat} {P : xO → xH → Prop} (hav : (lg_sl av).length ≤ 5) (body : ∀ X : xX, X.l = l → X.D = D → X.P = P → xAll X (tb_Mo_sayNumber X) → xG X 0 (lv_args 0 av) [] h mc ms) : xMet l D 0 y_Mo_sayNumber av h mc ms P :=
  xMet.of (by decide) w_1624 hav (fun X h1 h2 h3 _ _ hC hr hnh hin => body X h1 h2 h3 (tk_Mo_sayNumber hC hr hnh hin))
theorem m_Mo_say {l : Launch} {D : xD} {av : List Value} {h : xH} {mc ms : Nat} {P : xO → xH → Prop} (hav : (lg_sl av).length ≤ 4) (body : ∀ X : xX, X.l = l → X.D = D → X.P = P → xAll X (tb_Mo_say X) → xG X 0 (lv_args 0 av) [] h mc ms) : xMet l D 0 y_Mo_say av h mc ms P :=
  xMet.of (by decide) w_1631 hav (fun X h1 h2 h3 _ _ hC hr hnh hin => body X h1 h2 h3 (tk_Mo_say hC hr hnh hin))
theorem m_Mo_select {l : Launch} {D : xD} {av : List Value} {h : xH} {mc ms : Nat} {P : xO → xH → Prop} (hav : (lg_sl av).length ≤ 4) (body : ∀ X : xX, X.l = l → X.D = D → X.P = P → xAll X (tb_Mo_select X) → xG X 0 (lv_args 0 av) [] h mc ms) : xMet l D 6 y_Mo_select av h mc ms P :=
  xMet.of (by decide) w_1635 hav (fun X h1 h2 h3 _ _ hC hr hnh hin => body X h1 h2 h3 (tk_Mo_select hC hr hnh hin))
theorem m_Mo_found {l : Launch} {D : xD} {av : List Value} {h : xH} {mc ms : Nat} {P : xO → xH → Prop} (hav : (lg_sl av).length ≤ 2) (body : ∀ X : xX, X.l = l → X.D = D → X.P = P → xAll X (tb_Mo_found X) → xG X 0 (lv_args 0 av) [] h mc ms) : xMet l D 1 y_Mo_found av h mc ms P :=
  xMet.of (by decide) w_1639 hav (fun X h1 h2 h3 _ _ hC hr hnh hin => body X h1 h2 h3 (tk_Mo_found hC hr hnh hin))
theorem m_Mo_fits {l : Launch} {D : xD} {av : List Value} {h : xH} {mc ms : Nat} {P : xO → xH → Prop} (hav : (lg_sl av).length ≤ 3) (body : ∀ X : xX, X.l = l → X.D = D → X.P = P → xAll X (tb_Mo_fits X) → xG X 0 (lv_args 0 av) [] h mc ms) : xMet l D 5 y_Mo_fits av h mc ms P :=
  xMet.of (by decide) w_1643 hav (fun X h1 h2 h3 _ _ hC hr hnh hin => body X h1 h2 h3 (tk_Mo_fits hC hr hnh hin))
theorem m_Mo_element {l : Launch} {D : xD} {av : List Value} {h : xH} {mc ms : Nat} {P : xO → xH → Prop} (hav : (lg_sl av).length ≤ 3) (body : ∀ X : xX, X.l = l → X.D = D → X.P = P → xAll X (tb_Mo_element X) → xG X 0 (lv_args 0 av) [] h mc ms) : xMet l D 2 y_Mo_element av h mc ms P :=
  xMet.of (by decide) w_1647 hav (fun X h1 h2 h3 _ _ hC hr hnh hin => body X h1 h2 h3 (tk_Mo_element hC hr hnh hin))
theorem m_Mo_tell {l : Launch} {D : xD} {av : List Value} {h : xH} {mc ms : Nat} {P : xO → xH → Prop} (hav : (lg_sl av).length ≤ 6) (body : ∀ X : xX, X.l = l → X.D = D → X.P = P → xAll X (tb_Mo_tell X) → xG X 0 (lv_args 0 av) [] h mc ms) : xMet l D 2 y_Mo_tell av h mc ms P :=
  xMet.of (by decide) w_1651 hav (fun X h1 h2 h3 _ _ hC hr hnh hin => body X h1 h2 h3 (tk_Mo_tell hC hr hnh hin))
theorem m_Mo_word {l : Launch} {D : xD} {av : List Value} {h : xH} {mc ms : Nat} {P : xO → xH → Prop} (hav : (lg_sl av).length ≤ 5) (body : ∀ X : xX, X.l = l → X.D = D → X.P = P → xAll X (tb_Mo_word X) → xG X 0 (lv_args 0 av) [] h mc ms) : xMet l D 1 y_Mo_word av h mc ms P :=
  xMet.of (by decide) w_1656 hav (fun X h1 h2 h3 _ _ hC hr hnh hin => body X h1 h2 h3 (tk_Mo_word hC hr hnh hin))
theorem m_Mo_count {l : Launch} {D : xD} {av : List Value} {h : xH} {mc ms : Nat} {P : xO → xH → Prop} (hav : (lg_sl av).length ≤ 2) (body : ∀ X : xX, X.l = l → X.D = D → X.P = P → xAll X (tb_Mo_count X) → xG X 0 (lv_args 0 av) [] h mc ms) : xMet l D 1 y_Mo_count av h mc ms P :=
  xMet.of (by decide) w_1660 hav (fun X h1 h2 h3 _ _ hC hr hnh hin => body X h1 h2 h3 (tk_Mo_count hC hr hnh hin))
