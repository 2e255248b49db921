/-! THE LAW, 1: the class beside the reference -/
def gd2 (B : Nat → Prop) (q : Nat) (c : xC) : Prop := c.1 ≠ 0 ∧ c.1 ≠ 1 ∧ c.1 ≠ 100 ∧ c.1 ≠ 105 ∧ (c.1 = 101 → B q) ∧ c.1 ≠ 13 ∧ c.1 ≠ 103 ∧ c.1 ≠ 102
def gk2 (B : Nat → Prop) (h h' : xH) : Prop := ∀ q c, h q = some c → gd2 B q c → h' q = some c
def badk2 (k : Nat) : Bool := k == 0 || k == 1 || k == 100 || k == 105 || k == 101 || k == 13 || k == 103 || k == 102
theorem gd2.k {B : Nat → Prop} {q k : Nat} {v : List Value} (h : badk2 k = false) : gd2 B q (k, v) := by
  unfold badk2 at h
  simp only [Bool.or_eq_false_iff, beq_eq_false_iff_ne] at h
  exact ⟨h.1.1.1.1.1.1.1, h.1.1.1.1.1.1.2, h.1.1.1.1.1.2, h.1.1.1.1.2, fun z => absurd z h.1.1.1.2, h.1.1.2, h.1.2, h.2⟩
theorem gd2.b {B : Nat → Prop} {q : Nat} {v : List Value} (h : B q) : gd2 B q (101, v) := ⟨fun z => (by cases z), fun z => (by cases z), fun z => (by cases z), fun z => (by cases z), fun _ => h, fun z => (by cases z), fun z => (by cases z), fun z => (by cases z)⟩
theorem isS.gd2 {B : Nat → Prop} {h h' : xH} {s : Nat} {w : List Nat} (H : isS B h s w) (k : gk2 B h h') : isS B h' s w := by
  obtain ⟨a, f, T, h1, h2, h3, h4, h5, h6, h7⟩ := H
  refine ⟨a, f, T, k _ _ h1 (gd2.k rfl), ?_, h3, h4, h5, h6, h7⟩
  rcases h2 with z | z
  · exact Or.inl (k _ _ z (gd2.b h7))
  · exact Or.inr (k _ _ z (gd2.k rfl))
theorem isL.gd2 {B : Nat → Prop} {D : xD} {h h' : xH} {A e : Nat} {xs : List Nat} (H : isL D h A e xs) (k : gk2 B h h') : isL D h' A e xs := by
  obtain ⟨q1, q2, ⟨m, q3⟩, q4⟩ := H
  refine ⟨q1, q2, ⟨m, k _ _ q3 (gd2.k rfl)⟩, ?_⟩
  rcases q4 with ⟨z1, z2, z3⟩ | ⟨z1, z2, z3⟩
  · exact Or.inl ⟨z1, z2, k _ _ z3 (gd2.k rfl)⟩
  · exact Or.inr ⟨z1, z2, k _ _ z3 (gd2.k rfl)⟩
theorem isNm.gd2 {B : Nat → Prop} {h h' : xH} {x : Nat} {q : List Nat × List Nat} (H : isNm B h x q) (k : gk2 B h h') : isNm B h' x q := by
  obtain ⟨s1, s2, h1, h2, h3⟩ := H
  exact ⟨s1, s2, k _ _ h1 (gd2.k rfl), h2.gd2 k, h3.gd2 k⟩
theorem opS.gd2 {B : Nat → Prop} {h h' : xH} {v : Value} {w : Option (List Nat)} (H : opS B h v w) (k : gk2 B h h') : opS B h' v w := by
  cases w with
  | none => exact H
  | some u =>
    obtain ⟨s, h1, h2⟩ := H
    exact ⟨s, h1, h2.gd2 k⟩
theorem isCn.gd2 {B : Nat → Prop} {h h' : xH} {t : List Nat} {x : Nat} {c : CN} (H : isCn B h t x c) (k : gk2 B h h') : isCn B h' t x c := by
  obtain ⟨nv, tv, h1, h2, h3, h4⟩ := H
  exact ⟨nv, tv, k _ _ h1 (gd2.k rfl), h2.gd2 k, h3.gd2 k, h4⟩
theorem isSt.gd2 {B : Nat → Prop} {D : xD} {h h' : xH} {t : List Nat} {x : Nat} {s : ST} (H : isSt D B h t x s) (k : gk2 B h h') : isSt D B h' t x s := by
  obtain ⟨nv, cl, e, xs, h1, h2, h3, h4, h5⟩ := H
  exact ⟨nv, cl, e, xs, k _ _ h1 (gd2.k rfl), h2.gd2 k, h3.gd2 k, h4.mono fun a b q => q.gd2 k, h5⟩
theorem isSl.gd2 {B : Nat → Prop} {D : xD} {h h' : xH} {t : List Nat} {x : Nat} {s : List ST} (H : isSl D B h t x s) (k : gk2 B h h') : isSl D B h' t x s := by
  obtain ⟨cl, e, xs, h1, h3, h4, h5⟩ := H
  exact ⟨cl, e, xs, k _ _ h1 (gd2.k rfl), h3.gd2 k, h4.mono fun a b q => q.gd2 k, h5⟩
theorem isTd.gd2 {B : Nat → Prop} {h h' : xH} {t : List Nat} {x ix : Nat} {d : TD} (H : isTd B h t x ix d) (k : gk2 B h h') : isTd B h' t x ix d := by
  obtain ⟨tv, h1, h2, h3⟩ := H
  exact ⟨tv, k _ _ h1 (gd2.k rfl), h2.gd2 k, h3⟩
theorem isRu.gd2 {B : Nat → Prop} {D : xD} {h h' : xH} {t : List Nat} {x ix : Nat} {d : RU} (H : isRu D B h t x ix d) (k : gk2 B h h') : isRu D B h' t x ix d := by
  obtain ⟨l1, e1, l2, e2, x1, x2, h1, h2, h3, h4, h5⟩ := H
  exact ⟨l1, e1, l2, e2, x1, x2, k _ _ h1 (gd2.k rfl), h2.gd2 k, h3.gd2 k, h4.mono fun a b q => q.gd2 k, h5.mono fun a b q => q.gd2 k⟩
theorem styR.gd2 {B : Nat → Prop} {D : xD} {h h' : xH} {sy : Nat} {t : List Nat} {rs : List RU} {ss : List (List ST)} {ns : List (Nat × Nat)} (H : styR D B h sy t rs ss ns) (k : gk2 B h h') : styR D B h' sy t rs ss ns := by
  obtain ⟨lr, er, ls, es, ln, en, xr, xs, xn, h1, h2, h3, h4, h5, h6, h7⟩ := H
  exact ⟨lr, er, ls, es, ln, en, xr, xs, xn, k _ _ h1 (gd2.k rfl), h2.gd2 k, h3.gd2 k, h4.gd2 k, h5.mono fun a b q => q.gd2 k, h6.mono fun a b q => q.gd2 k, h7.mono fun a b q => q.gd2 k⟩
theorem elI.gd2 {B : Nat → Prop} {D : xD} {h h' : xH} {ts : List Nat} {S : SS} {G : SG} {i : Nat} (E : elI D B h ts S G i) (k : gk2 B h h') : elI D B h' ts S G i :=
  ⟨k _ _ E.1 (gd2.k rfl), E.2.1.gd2 k, E.2.2.1.gd2 k, E.2.2.2.mono fun a b q => q.gd2 k⟩
theorem srcR.gd2 {B : Nat → Prop} {D : xD} {h h' : xH} {so : Nat} {t : List Nat} {S : SS} {G : SG} (R : srcR D B h so t S G) (k : gk2 B h h') : srcR D B h' so t S G := by
  obtain ⟨r1, r2, r3, r4, r5, r6, r7, r8⟩ := R
  exact ⟨k _ _ r1 (gd2.k rfl), k _ _ r2 (gd2.k rfl), r3.gd2 k, r4.gd2 k, r5.gd2 k, r6.mono fun a b q => q.gd2 k, r7.mono fun a b q => q.gd2 k, fun i hi => (r8 i hi).gd2 k⟩
/-- cells beside the class's: the reference's, the law's answer -/
def bes (K : CK) (q : Nat) (c : xC) : Prop := c.1 = 13 ∨ c.1 = 103 ∨ c.1 = 102 ∨ (c.1 = 100 ∧ bK K q)
theorem scR.mv {Zh Zh' : xH} {D : xD} {h h' : xH} {sc : Nat} {K : CK} {A : AS} (R : scR Zh D h sc K A) (H : ∀ q c, h q = some c → h' q = some c ∨ bes K q c) (hZ : ∀ q c, Zh' q = some c → h' q = some c ∧ gd (bK K) q c) : scR Zh' D h' sc K A := by
  obtain ⟨rd, so, sy, G, T, O, fv, rv, hv, v0, v1, r1, ⟨r2, r3⟩, ⟨r4, r5⟩, ⟨r6, r7⟩, r8, ⟨r9, r10⟩, ⟨r11, r12⟩, r13, r14, r15, r16, r17⟩ := R
  have k2 : gk2 (bK K) h h' := fun q c e g => (H q c e).resolve_right (by
    rintro (z | z | z | ⟨z, -⟩)
    · exact g.2.2.2.2.2.1 z
    · exact g.2.2.2.2.2.2.1 z
    · exact g.2.2.2.2.2.2.2 z
    · exact g.2.2.1 z)
  have kk : kp h h' := fun q c e g => (H q c e).resolve_right (by
    rintro (z | z | z | ⟨z, -⟩) <;> rw [z] at g <;> cases g)
  have n : ∀ {q k v}, k ≠ 13 → k ≠ 103 → k ≠ 102 → k ≠ 100 → ¬ bes K q (k, v) := fun a b c d z => by
    rcases z with z | z | z | ⟨z, -⟩
    · exact a z
    · exact b z
    · exact c z
    · exact d z
  refine ⟨rd, so, sy, G, T, O, fv, rv, hv, v0, v1, (H _ _ r1).resolve_right (n (by decide) (by decide) (by decide) (by decide)), ⟨(H _ _ r2).resolve_right (n (by decide) (by decide) (by decide) (by decide)), r3⟩, ⟨(H _ _ r4).resolve_right (n (by decide) (by decide) (by decide) (by decide)), r5⟩, ⟨(H _ _ r6).resolve_right ?_, r7⟩, (H _ _ r8).resolve_right (n (by decide) (by decide) (by decide) (by decide)), ⟨(H _ _ r9).resolve_right (n (by decide) (by decide) (by decide) (by decide)), r10⟩, ⟨(H _ _ r11).resolve_right ?_, r12⟩, r13, ⟨r14.1.kept kk, hZ⟩, r15.gd2 k2, r16.gd2 k2, r17⟩
  · rintro (z | z | z | ⟨-, z⟩)
    · cases z
    · cases z
    · cases z
    · exact z.2.2.1 rfl
  · rintro (z | z | z | ⟨-, z⟩)
    · cases z
    · cases z
    · cases z
    · exact z.2.2.2 rfl
theorem scR.in {Zh : xH} {D : xD} {h : xH} {sc : Nat} {K : CK} {A : AS} (R : scR Zh D h sc K A) {q : Nat} {c : xC} (e : Zh q = some c) : h q = some c ∧ gd (bK K) q c := by
  obtain ⟨rd, so, sy, G, T, O, fv, rv, hv, v0, v1, -, -, -, -, -, -, -, -, r14, -⟩ := R
  exact r14.2 q c e
theorem scR.ok {Zh : xH} {D : xD} {h : xH} {sc : Nat} {K : CK} {A : AS} (R : scR Zh D h sc K A) : AOk A := by
  obtain ⟨rd, so, sy, G, T, O, fv, rv, hv, v0, v1, -, -, -, -, -, -, -, -, -, -, -, r17⟩ := R
  exact r17
theorem scR.at {Zh : xH} {D : xD} {h : xH} {sc : Nat} {K : CK} {A : AS} (R : scR Zh D h sc K A) : ∃ vs, h sc = some (0, vs) := by
  obtain ⟨rd, so, sy, G, T, O, fv, rv, hv, v0, v1, r1, -⟩ := R
  exact ⟨_, r1⟩
