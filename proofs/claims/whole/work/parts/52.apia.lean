/-! THE CLASS, 1: what its object holds -/
/-- cells that no source and no style is made of are: the object's own, readers, rows -/
def gd (B : Nat → Prop) (q : Nat) (c : xC) : Prop := c.1 ≠ 0 ∧ c.1 ≠ 1 ∧ (c.1 = 100 → B q) ∧ c.1 ≠ 105 ∧ (c.1 = 101 → B q)
def gk (B : Nat → Prop) (h h' : xH) : Prop := ∀ q c, h q = some c → gd B q c → h' q = some c
theorem gk.refl (B : Nat → Prop) (h : xH) : gk B h h := fun _ _ e _ => e
theorem gk.tr {B : Nat → Prop} {h h1 h2 : xH} (a : gk B h h1) (b : gk B h1 h2) : gk B h h2 := fun q c e g => b q c (a q c e g) g
theorem gk.put {B : Nat → Prop} {h h' : xH} (a : gk B h h') {q : Nat} {c d : xC} (e : h q = some d) (hd : ¬ gd B q d) : gk B h (xset h' q c) := fun p x y z => by
  rw [xset_ne]
  · exact a p x y z
  · intro w; subst w; rw [e] at y; cases y; exact hd z
theorem gk.new {B : Nat → Prop} {h h' : xH} (a : gk B h h') {q : Nat} {c : xC} (e : h q = none) : gk B h (xset h' q c) := fun p x y z => by
  rw [xset_ne]
  · exact a p x y z
  · intro w; subst w; rw [e] at y; cases y
theorem fr.gk {B : Nat → Prop} {M : List Nat} {h h' : xH} (f : fr M h h') (hM : ∀ q ∈ M, ∀ c, h q = some c → ¬ gd B q c) : gk B h h' := fun q c e g => f q c e fun z => hM q z c e g
def badk (k : Nat) : Bool := k == 0 || k == 1 || k == 100 || k == 105 || k == 101
theorem gd.k {B : Nat → Prop} {q k : Nat} {v : List Value} (h : badk k = false) : gd B q (k, v) := by
  unfold badk at h
  simp only [Bool.or_eq_false_iff, beq_eq_false_iff_ne] at h
  exact ⟨h.1.1.1.1, h.1.1.1.2, fun z => absurd z h.1.1.2, h.1.2, fun z => absurd z h.2⟩
theorem gd.b {B : Nat → Prop} {q : Nat} {v : List Value} (h : B q) : gd B q (101, v) := ⟨fun z => (by cases z), fun z => (by cases z), fun _ => h, fun z => (by cases z), fun _ => h⟩
theorem isS.gd {B : Nat → Prop} {h h' : xH} {s : Nat} {w : List Nat} (H : isS B h s w) (k : gk B h h') : isS B h' s w := by
  obtain ⟨a, f, T, h1, h2, h3, h4, h5, h6, h7⟩ := H
  refine ⟨a, f, T, k _ _ h1 (gd.k rfl), ?_, h3, h4, h5, h6, h7⟩
  rcases h2 with z | z
  · exact Or.inl (k _ _ z (gd.b h7))
  · exact Or.inr (k _ _ z (gd.k rfl))
theorem isL.gd {B : Nat → Prop} {D : xD} {h h' : xH} {A e : Nat} {xs : List Nat} (H : isL D h A e xs) (k : gk B h h') : isL D h' A e xs := by
  obtain ⟨q1, q2, ⟨m, q3⟩, q4⟩ := H
  refine ⟨q1, q2, ⟨m, k _ _ q3 (gd.k rfl)⟩, ?_⟩
  rcases q4 with ⟨z1, z2, z3⟩ | ⟨z1, z2, z3⟩
  · exact Or.inl ⟨z1, z2, k _ _ z3 (gd.k rfl)⟩
  · exact Or.inr ⟨z1, z2, k _ _ z3 (gd.k rfl)⟩
theorem isNm.gd {B : Nat → Prop} {h h' : xH} {x : Nat} {q : List Nat × List Nat} (H : isNm B h x q) (k : gk B h h') : isNm B h' x q := by
  obtain ⟨s1, s2, h1, h2, h3⟩ := H
  exact ⟨s1, s2, k _ _ h1 (gd.k rfl), h2.gd k, h3.gd k⟩
theorem opS.gd {B : Nat → Prop} {h h' : xH} {v : Value} {w : Option (List Nat)} (H : opS B h v w) (k : gk B h h') : opS B h' v w := by
  cases w with
  | none => exact H
  | some u =>
    obtain ⟨s, h1, h2⟩ := H
    exact ⟨s, h1, h2.gd k⟩
theorem isCn.gd {B : Nat → Prop} {h h' : xH} {t : List Nat} {x : Nat} {c : CN} (H : isCn B h t x c) (k : gk B h h') : isCn B h' t x c := by
  obtain ⟨nv, tv, h1, h2, h3, h4⟩ := H
  exact ⟨nv, tv, k _ _ h1 (gd.k rfl), h2.gd k, h3.gd k, h4⟩
theorem isSt.gd {B : Nat → Prop} {D : xD} {h h' : xH} {t : List Nat} {x : Nat} {s : ST} (H : isSt D B h t x s) (k : gk B h h') : isSt D B h' t x s := by
  obtain ⟨nv, cl, e, xs, h1, h2, h3, h4, h5⟩ := H
  exact ⟨nv, cl, e, xs, k _ _ h1 (gd.k rfl), h2.gd k, h3.gd k, h4.mono fun a b q => q.gd k, h5⟩
theorem isSl.gd {B : Nat → Prop} {D : xD} {h h' : xH} {t : List Nat} {x : Nat} {s : List ST} (H : isSl D B h t x s) (k : gk B h h') : isSl D B h' t x s := by
  obtain ⟨cl, e, xs, h1, h3, h4, h5⟩ := H
  exact ⟨cl, e, xs, k _ _ h1 (gd.k rfl), h3.gd k, h4.mono fun a b q => q.gd k, h5⟩
theorem isTd.gd {B : Nat → Prop} {h h' : xH} {t : List Nat} {x ix : Nat} {d : TD} (H : isTd B h t x ix d) (k : gk B h h') : isTd B h' t x ix d := by
  obtain ⟨tv, h1, h2, h3⟩ := H
  exact ⟨tv, k _ _ h1 (gd.k rfl), h2.gd k, h3⟩
theorem isRu.gd {B : Nat → Prop} {D : xD} {h h' : xH} {t : List Nat} {x ix : Nat} {d : RU} (H : isRu D B h t x ix d) (k : gk B h h') : isRu D B h' t x ix d := by
  obtain ⟨l1, e1, l2, e2, x1, x2, h1, h2, h3, h4, h5⟩ := H
  exact ⟨l1, e1, l2, e2, x1, x2, k _ _ h1 (gd.k rfl), h2.gd k, h3.gd k, h4.mono fun a b q => q.gd k, h5.mono fun a b q => q.gd k⟩
theorem styR.gd {B : Nat → Prop} {D : xD} {h h' : xH} {sy : Nat} {t : List Nat} {rs : List RU} {ss : List (List ST)} {ns : List (Nat × Nat)} (H : styR D B h sy t rs ss ns) (k : gk B h h') : styR D B h' sy t rs ss ns := by
  obtain ⟨lr, er, ls, es, ln, en, xr, xs, xn, h1, h2, h3, h4, h5, h6, h7⟩ := H
  exact ⟨lr, er, ls, es, ln, en, xr, xs, xn, k _ _ h1 (gd.k rfl), h2.gd k, h3.gd k, h4.gd k, h5.mono fun a b q => q.gd k, h6.mono fun a b q => q.gd k, h7.mono fun a b q => q.gd k⟩
theorem elI.gd {B : Nat → Prop} {D : xD} {h h' : xH} {ts : List Nat} {S : SS} {G : SG} {i : Nat} (E : elI D B h ts S G i) (k : gk B h h') : elI D B h' ts S G i :=
  ⟨k _ _ E.1 (gd.k rfl), E.2.1.gd k, E.2.2.1.gd k, E.2.2.2.mono fun a b q => q.gd k⟩
theorem srcR.gd {B : Nat → Prop} {D : xD} {h h' : xH} {so : Nat} {t : List Nat} {S : SS} {G : SG} (R : srcR D B h so t S G) (k : gk B h h') : srcR D B h' so t S G := by
  obtain ⟨r1, r2, r3, r4, r5, r6, r7, r8⟩ := R
  exact ⟨k _ _ r1 (gd.k rfl), k _ _ r2 (gd.k rfl), r3.gd k, r4.gd k, r5.gd k, r6.mono fun a b q => q.gd k, r7.mono fun a b q => q.gd k, fun i hi => (r8 i hi).gd k⟩
/-- h without one cell -/
def hwo (h : xH) (q : Nat) : xH := fun p => if p = q then none else h p
theorem hwo_le (h : xH) (q : Nat) : fr [] (hwo h q) h := fun p c e _ => by
  unfold hwo at e
  split at e
  · cases e
  · exact e
theorem hwo_no (h : xH) (q : Nat) : hwo h q q = none := if_pos rfl
theorem hwo_gk {B : Nat → Prop} {h : xH} {q : Nat} {c : xC} (e : h q = some c) (hc : ¬ gd B q c) : gk B h (hwo h q) := fun p d e' g => by
  unfold hwo
  rw [if_neg]
  · exact e'
  · intro z; subst z; rw [e] at e'; cases e'; exact hc g
/-- THE STATE: tape, what is out, found ones, asked weight, place; the source's text and itself; the style's text, rules, selectors, names -/
abbrev AS : Type := (List Nat × List Nat × List Nat × Nat × Option Nat) × (List Nat × SS) × (List Nat × List RU × List (List ST) × List (Nat × Nat))
abbrev AS.tp (A : AS) : List Nat := A.1.1
abbrev AS.ou (A : AS) : List Nat := A.1.2.1
abbrev AS.fo (A : AS) : List Nat := A.1.2.2.1
abbrev AS.aw (A : AS) : Nat := A.1.2.2.2.1
abbrev AS.pl (A : AS) : Option Nat := A.1.2.2.2.2
abbrev AS.ts (A : AS) : List Nat := A.2.1.1
abbrev AS.S (A : AS) : SS := A.2.1.2
abbrev AS.ty (A : AS) : List Nat := A.2.2.1
abbrev AS.rs (A : AS) : List RU := A.2.2.2.1
abbrev AS.ss (A : AS) : List (List ST) := A.2.2.2.2.1
abbrev AS.ns (A : AS) : List (Nat × Nat) := A.2.2.2.2.2
def plI (p : Option Nat) : Int32 := match p with
  | none => -1
  | some w => nI w
/-- what a style keeps to -/
def styW (rs : List RU) (ss : List (List ST)) (ns : List (Nat × Nat)) : Prop := (∀ R ∈ rs, ruOk ns.length R ∧ ∀ d ∈ R.2, 1 ≤ d.2.1 ∧ d.2.1 ≤ 3) ∧ rs.length ≤ 120 ∧ (∀ l ∈ ss, selOk l) ∧ ss.length ≤ 120 ∧ ns.length ≤ 30 ∧ tcs rs ≤ 600
/-- what a source keeps to -/
def srcW (ts : List Nat) (S : SS) : Prop := SW S ∧ S.op = 0 ∧ ts.length ≤ 8192 ∧ S.pc.length ≤ 8192 ∧ ∀ k, k < S.n → S.F 15 k ≤ S.F 16 k ∧ S.F 16 k ≤ S.pc.length ∧ (S.fd k).length ≤ 6 ∧ S.F 6 k ≤ 8192 ∧ S.F 12 k ≤ 8192 ∧ S.F 0 k + S.F 1 k ≤ ts.length
def AOk (A : AS) : Prop := (A.tp.length ≤ 8192 ∧ bytesOk A.tp) ∧ (A.ou.length ≤ 16384 ∧ bytesOk A.ou) ∧ (A.fo.length ≤ 500 ∧ ∀ k ∈ A.fo, k < 500) ∧ (A.aw ≤ 3208 ∧ A.ty.length ≤ 8192) ∧ srcW A.ts A.S ∧ styW A.rs A.ss A.ns
/-- the object's rows: tape, out, found ones, reach, shares -/
abbrev CK : Type := Nat × Nat × Nat × Nat × Nat
abbrev bK (K : CK) : Nat → Prop := fun a => a ≠ K.1 ∧ a ≠ K.2.1 ∧ a ≠ K.2.2.1 ∧ a ≠ K.2.2.2.2
/-- what stands ready, and what is beside the object: Z -/
def envZ (D : xD) (Zh : xH) (K : CK) (h : xH) : Prop := env D h ∧ ∀ q c, Zh q = some c → h q = some c ∧ gd (bK K) q c
abbrev scW (K : CK) (a b c d : Int32) (rd so sy : Nat) : List Value := [.ref K.1, .int a, .ref K.2.1, .int b, .ref K.2.2.1, .int c, .int d, .ref rd, .ref so, .ref sy, .ref K.2.2.2.1, .ref K.2.2.2.2]
abbrev scV (K : CK) (A : AS) (rd so sy : Nat) : List Value := scW K (nI A.tp.length) (nI A.ou.length) (nI A.fo.length) (nI A.aw) rd so sy
def scQ (Zh : xH) (D : xD) (h : xH) (sc : Nat) (K : CK) (A : AS) (rd so sy : Nat) (G : SG) : Prop := ∃ (T O : List Nat) (fv rv hv : List Value) (v0 v1 : Value),
  h sc = some (0, scV K A rd so sy) ∧ (h K.1 = some (101, txv (A.tp ++ T)) ∧ (A.tp ++ T).length = 8192 ∧ bytesOk T) ∧ (h K.2.1 = some (101, txv (A.ou ++ O)) ∧ (A.ou ++ O).length = 16384 ∧ bytesOk O) ∧
  (h K.2.2.1 = some (100, A.fo.map (fun k => .int (nI k)) ++ fv) ∧ A.fo.length + fv.length = 500) ∧ h rd = some (1, [v0, v1, .int (plI A.pl)]) ∧ (h K.2.2.2.1 = some (105, rv) ∧ rv.length = 20) ∧ (h K.2.2.2.2 = some (100, hv) ∧ hv.length = 20) ∧ (K.1 ≠ K.2.1 ∧ K.2.2.1 ≠ K.2.2.2.2) ∧ envZ D Zh K h ∧ srcR D (bK K) h so A.ts A.S G ∧ styR D (bK K) h sy A.ty A.rs A.ss A.ns ∧ AOk A
def scR (Zh : xH) (D : xD) (h : xH) (sc : Nat) (K : CK) (A : AS) : Prop := ∃ (rd so sy : Nat) (G : SG), scQ Zh D h sc K A rd so sy G
/-- which cells of the object may change, and their kinds -/
theorem ng0 {B : Nat → Prop} {q k : Nat} {v : List Value} (hk : k = 0 ∨ k = 1 ∨ (k = 100 ∧ ¬ B q) ∨ k = 105 ∨ (k = 101 ∧ ¬ B q)) : ¬ gd B q (k, v) := fun g => by
  rcases hk with z | z | ⟨z, w⟩ | z | ⟨z, w⟩
  · exact g.1 z
  · exact g.2.1 z
  · exact w (g.2.2.1 z)
  · exact g.2.2.2.1 z
  · exact w (g.2.2.2.2 z)
def byB (y : Int32) : Nat := (y &&& 255).toNatClampNeg
theorem and255 (y : Int32) : ∃ b : Nat, b < 256 ∧ y &&& 255 = nI b ∧ y.toInt8 = (nI b).toInt8 := by
  refine ⟨y.toBitVec.toNat % 256, Nat.mod_lt _ (by decide), ?_, ?_⟩
  · apply Int32.toBitVec_inj.mp
    apply BitVec.eq_of_toNat_eq
    rw [Int32.toBitVec_and, BitVec.toNat_and]
    show y.toBitVec.toNat &&& (2 ^ 8 - 1) = _
    rw [Nat.and_two_pow_sub_one_eq_mod]
    show _ = (BitVec.ofNat 32 (y.toBitVec.toNat % 256)).toNat
    rw [BitVec.toNat_ofNat, Nat.mod_eq_of_lt (a := _ % 256)]
    have := Nat.mod_lt y.toBitVec.toNat (show 0 < 256 by decide)
    omega
  · apply Int8.toBitVec_inj.mp
    apply BitVec.eq_of_toNat_eq
    show (y.toBitVec.signExtend 8).toNat = ((BitVec.ofNat 32 (y.toBitVec.toNat % 256)).signExtend 8).toNat
    rw [BitVec.signExtend_eq_setWidth_of_le _ (by decide), BitVec.signExtend_eq_setWidth_of_le _ (by decide), BitVec.toNat_setWidth, BitVec.toNat_setWidth, BitVec.toNat_ofNat]
    have := Nat.mod_lt y.toBitVec.toNat (show 0 < 256 by decide)
    rw [Nat.mod_eq_of_lt (a := y.toBitVec.toNat % 256) (b := 2 ^ 32) (by omega)]
    show _ % 256 = _ % 256 % 256
    rw [Nat.mod_mod]
theorem byB_ok (y : Int32) : byB y < 256 ∧ y &&& 255 = nI (byB y) ∧ y.toInt8.toInt32 = sb_b (byB y) := by
  obtain ⟨b, h1, h2, h3⟩ := and255 y
  have e : byB y = b := by unfold byB; rw [h2, nI_clamp (by omega)]
  rw [e]
  exact ⟨h1, h2, by rw [h3]; rfl⟩
theorem sb_again (b : Nat) : (sb_b b).toInt8.toInt32 = sb_b b := by unfold sb_b; rw [Int8.toInt8_toInt32]
def by4 (x : Int32) : List Nat := [byB (x >>> 24), byB (x >>> 16), byB (x >>> 8), byB (x >>> 0)]
theorem by4_len (x : Int32) : (by4 x).length = 4 := rfl
theorem by4_ok (x : Int32) : bytesOk (by4 x) := fun b hb => by
  simp only [by4, List.mem_cons, List.not_mem_nil, or_false] at hb
  rcases hb with rfl | rfl | rfl | rfl <;> exact (byB_ok _).1
