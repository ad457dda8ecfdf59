/-! one instruction, both: calls and loads -/
section
variable {cd : Nat → Nat × Nat × Nat} {n nco sz f : Nat} {fre kc lc rc tk km lm rm cons cn : Nat → Int32} {π : Nat → Nat} {G : Nat → Prop} {s e d pc x y : Nat}
theorem HP.addr (h : HP sz f fre kc lc rc tk km lm rm π G) {c : Nat} (hc : US sz f fre c) (hk : kc c = 3 ∨ kc c = 4) {post : Int32 → Prop} (hp : post (lc c)) : wp_Memory_addressOf sz sz kc lc (nI c) post := by
  obtain ⟨l1, l2, l3⟩ := h.lt hc
  have v : vp_in (nI c) sz := vp_in_nI l1 (by omega)
  unfold wp_Memory_addressOf wp_Memory_hasAddress
  rw [nI_clamp (n := c) (by omega)]
  rcases hk with hk | hk
  · exact ⟨v, fun _ => ⟨fun z => absurd z (by decide), fun _ => ⟨v, hp⟩⟩, fun z => absurd hk z⟩
  · exact ⟨v, fun _ => ⟨fun z => absurd z (by decide), fun _ => ⟨v, hp⟩⟩, fun _ => ⟨v, fun _ => ⟨fun z => absurd z (by decide), fun _ => ⟨v, hp⟩⟩, fun z => absurd hk z⟩⟩
theorem HP.cell (h : HP sz f fre kc lc rc tk km lm rm π G) {c : Nat} (hc : US sz f fre c) (hk : kc c = 3 ∨ kc c = 4) {post : Int32 → Prop} (hp : post (rc c)) : wp_Memory_cellOf sz sz kc rc (nI c) post := by
  obtain ⟨l1, l2, l3⟩ := h.lt hc
  have v : vp_in (nI c) sz := vp_in_nI l1 (by omega)
  unfold wp_Memory_cellOf wp_Memory_hasAddress
  rw [nI_clamp (n := c) (by omega)]
  rcases hk with hk | hk
  · exact ⟨v, fun _ => ⟨fun z => absurd z (by decide), fun _ => ⟨v, hp⟩⟩, fun z => absurd hk z⟩
  · exact ⟨v, fun _ => ⟨fun z => absurd z (by decide), fun _ => ⟨v, hp⟩⟩, fun _ => ⟨v, fun _ => ⟨fun z => absurd z (by decide), fun _ => ⟨v, hp⟩⟩, fun z => absurd hk z⟩⟩
/-- the head of a pair is set, on both sides -/
theorem HP.setl (h : HP sz f fre kc lc rc tk km lm rm π G) {c v : Nat} (hc : US sz f fre c) (hk : kc c = 2) (hv : US sz f fre v) : HP sz f fre kc (upd lc c (nI v)) rc tk km (upd lm (π c) (nI (π v))) rm π G := by
  obtain ⟨h1, h2, h3, h4, h5, h6, h7, h8, h9⟩ := h
  refine ⟨h1, h2, h3, h4, h5, fun x hx => ?_, h7, h8, h9⟩
  obtain ⟨a1, a2, a3⟩ := h6 x hx
  refine ⟨a1, a2, ?_⟩
  by_cases e : x = c
  · subst e
    rcases a3 with z | z | z | z | z
    · exact absurd (hk.symm.trans z.1) (by decide)
    · exact absurd (hk.symm.trans z.1) (by decide)
    · obtain ⟨z1, z2, a, b, z3, z4, z5, z6, z7, z8⟩ := z
      exact Or.inr (Or.inr (Or.inl ⟨z1, z2, v, b, pk_us, z4, pk_us, z6, hv, z8⟩))
    · exact absurd (hk.symm.trans z.1) (by decide)
    · exact absurd (hk.symm.trans z.1) (by decide)
  · have e2 : π x ≠ π c := fun z => e (h7 x c hx hc z)
    exact a3.to (fun y hy => ⟨hy, rfl⟩) hx ⟨rfl, pk_un e, rfl⟩ ⟨rfl, pk_un e2, rfl⟩
theorem x_ap {ρ : Nat → Prop} {h q kk : Nat} {js : List Nat} {fn rap : Bool} (H : HP sz (f + 4) fre kc lc rc tk km lm rm π G) (Us : US sz (f + 4) fre s) (Ue : US sz (f + 4) fre e) (Ud : US sz (f + 4) fre d) (g : STEP cd n nco (GOOD cd n nco) pc h q js fn rap) (hcd : cd pc = (3, x, y)) (hn : n ≤ 512) (sh : SH (US sz (f + 4) fre) kc rc s h) (eh : EH (US sz (f + 4) fre) ρ kc rc e q) (dd : DD cd n nco (US sz (f + 4) fre) ρ kc lc rc kk d js fn) (hG : ∀ a, G a → GOOD cd n nco a 0 0 [] true false) : EXR cd n nco sz (f + 4) fre kc lc rc tk km lm rm cons cn π G s e d pc 3 x y := by
  unfold STEP at g
  rw [hcd] at g
  simp only at g
  obtain ⟨g1, g2, g3, g4, t0, t1, t2, t3, t4, t5, t6, t7, t8, t9, t12, t20⟩ := g
  have lsz := H.2.1
  have lf := H.2.2.1
  obtain ⟨lt1, lt2, lt3⟩ := H.lt Us
  have vs : vp_in (nI (π s)) 200 := vp_in_nI (by omega) (by decide)
  have es : (nI (π s)).toNatClampNeg = π s := nI_clamp (by omega)
  obtain ⟨hh, g'⟩ := t3 trivial
  obtain ⟨h0, rfl⟩ : ∃ h0, h = h0 + 1 + 1 := ⟨h - 2, by omega⟩
  obtain ⟨top, und, ta, ua, ks, tb, ub, tm, um, shu, td, ud⟩ := SH.top H Us sh
  obtain ⟨sec, rst, sa, ra, ku, sb, rb, sm, rm', shr, sd, rd⟩ := SH.top H ua shu
  have lu := H.lt ua
  have vu : vp_in (nI (π und)) 200 := vp_in_nI (by omega) (by decide)
  have eu : (nI (π und)).toNatClampNeg = π und := nI_clamp (by omega)
  have ltp := H.lt ta
  have vt : vp_in (nI (π top)) 200 := vp_in_nI (by omega) (by decide)
  have et : (nI (π top)).toNatClampNeg = π top := nI_clamp (by omega)
  have hpc : pc + 1 < 512 := by have := (GOOD.elim g').1; omega
  by_cases hk : kc top = 3
  · obtain ⟨mk, ad, env, q1, q2, q3, q4, q5, q6, q7⟩ := H.cl ta hk
    obtain ⟨c1, kc1, lc1, rc1, tk1, km1, lm1, rm1, π1, h1, h2, h3, h4, h5, h6, h7, h8, h9⟩ := H.mark hpc Ud
    obtain ⟨c2, kc2, lc2, rc2, tk2, km2, lm2, rm2, π2, i1, i2, i3, i4, i5, i6, i7, i8, i9⟩ := h1.pair (h2 e Ue).1 h3
    have E2 := h2.trans i2
    obtain ⟨c3, kc3, lc3, rc3, tk3, km3, lm3, rm3, π3, j1, j2, j3, j4, j5, j6, j7, j8, j9⟩ := i1.pair (E2 rst ra).1 i3
    have E3 := E2.trans j2
    obtain ⟨c4, kc4, lc4, rc4, tk4, km4, lm4, rm4, π4, l1, l2, l3, l4, l5, l6, l7, l8, l9⟩ := j1.pair (E3 sec sa).1 (E3 env q6).1
    have E4 := E3.trans l2
    have s1 : STAY (US sz (f + 4) fre) (US sz (f + 3) fre) ρ ρ kc lc rc kc1 lc1 rc1 := STAY.ext h2
    have s2 : STAY (US sz (f + 3) fre) (US sz (f + 2) fre) ρ (fun x => ρ x ∨ x = c2) kc1 lc1 rc1 kc2 lc2 rc2 := STAY.add i2 i4
    have s3 : STAY (US sz (f + 2) fre) (US sz (f + 1) fre) (fun x => ρ x ∨ x = c2) (fun x => (ρ x ∨ x = c2) ∨ x = c3) kc2 lc2 rc2 kc3 lc3 rc3 := STAY.add j2 j4
    have s4 : STAY (US sz (f + 1) fre) (US sz f fre) (fun x => (ρ x ∨ x = c2) ∨ x = c3) (fun x => (ρ x ∨ x = c2) ∨ x = c3) kc3 lc3 rc3 kc4 lc4 rc4 := STAY.ext l2
    have S4 := ((s1.trans s2).trans s3).trans s4
    have X1 := ((i2.trans j2).trans l2) c1 h3
    have X2 := (j2.trans l2) c2 i3
    have X3 := l2 c3 j3
    have lr := H.lt ra
    have ld := H.lt Ud
    have lee := H.lt Ue
    have lc2' := (i1.lt i3)
    have lc1' := (h1.lt h3)
    have dd2 : DD cd n nco (US sz f fre) (fun x => (ρ x ∨ x = c2) ∨ x = c3) kc4 lc4 rc4 (kk + 1) c3 [] true := by
      refine ⟨X3.1, X3.2.2.1.trans j5, Or.inr rfl, rst, c2, by omega, by omega, X3.2.2.2.1.trans j6, X3.2.2.2.2.1.trans j7, X2.1, X2.2.2.1.trans i5, Or.inl (Or.inr rfl), e, c1, by omega, by omega, X2.2.2.2.1.trans i6, X2.2.2.2.2.1.trans i7, X1.1, X1.2.2.1.trans h5, pc + 1, d, hpc, by omega, X1.2.2.2.1.trans h6, X1.2.2.2.2.1.trans h7, h0, q, js, fn, g', shr.to S4, eh.to S4, dd.to S4⟩
    have n0 := l1.nil (c := 0) (by omega)
    have tE := E4 top ta
    have tE3 := E3 top ta
    refine ⟨1, f, 0, c4, c3, ad, nI ad, kc4, lc4, rc4, tk4, km4, lm4, rm4, π4, l1, n0.1, l3, X3.1, fun x hx => ⟨(E4 x hx).1, (E4 x hx).2.1⟩, by omega, by omega, by omega, fun _ => ⟨rfl, fun x => (ρ x ∨ x = c2) ∨ x = c3, 0, 0, [], true, false, kk + 1, hG ad q7, trivial, trivial, dd2, fun z => absurd z (by decide)⟩, fun z => absurd rfl z, fun post hp => td _ (ud _ (sd _ (rd _ (word_op g2 g3 g4 (⟨fun z => absurd z (by decide), fun _ => ⟨fun z => absurd z (by decide), fun _ => ⟨fun z => absurd z (by decide), fun _ => ⟨fun _ => H.kindOf ta ⟨fun _ => h8 _ (i8 _ (j8 _ (j1.cell tE3.1 (Or.inl (tE3.2.2.1.trans hk)) ?_))), fun z => absurd hk z⟩, fun z => absurd rfl z⟩⟩⟩⟩))))), fun post hp => ⟨vs, vs, ⟨fun z => absurd z (by decide), fun _ => ⟨fun z => absurd z (by decide), fun _ => ⟨fun z => absurd z (by decide), fun _ => ⟨fun z => absurd z (by decide), fun _ => ⟨fun z => absurd z (by decide), fun _ => ⟨fun z => absurd z (by decide), fun _ => ⟨fun z => absurd z (by decide), fun _ => ⟨fun _ => ⟨fun z => absurd z (by decide), fun _ => ⟨fun z => absurd z (by decide), fun _ => ⟨vs, vs, fun z => absurd z (by decide), fun _ => ⟨fun z => absurd z (by decide), fun _ => ⟨fun z => absurd z (by decide), fun _ => ?_⟩⟩⟩⟩⟩, fun z => absurd (by decide) z⟩⟩⟩⟩⟩⟩⟩⟩⟩⟩
    · rw [tE3.2.2.2.2.1, q4]
      refine l8 _ (l1.addr tE.1 (Or.inl (tE.2.2.1.trans hk)) ?_)
      rw [tE.2.2.2.1, q2]
      exact hp
    · rw [es, tm, um, et, eu, mk, sm]
      refine ⟨vt, fun _ => ⟨vu, ?_⟩, fun z => absurd rfl z⟩
      rw [nI_1]
      refine h9 _ _ ⟨fun _ => ?_, fun z => absurd rfl z⟩
      unfold wp_Model_leap_J247
      rw [used_up (by omega), eu, et, ← (h2 e Ue).2.1]
      refine i9 _ _ ⟨vu, ?_⟩
      rw [used_up (by omega), (E2 und ua).2.2.2.2.2.2.2, rm', ← (E2 rst ra).2.1]
      refine j9 _ _ ⟨vt, fun _ => ?_, fun z => absurd rfl z⟩
      rw [used_up (by omega), tE3.2.2.2.2.2.2.2, q5, ← (E3 sec sa).2.1, ← (E3 env q6).2.1]
      refine l9 _ _ ⟨vt, ?_⟩
      rw [used_up (by omega), tE.2.2.2.2.2.2.1, q3, ← X3.2.1]
      rw [n0.2.1] at hp
      exact hp
  · have nk : ¬ km (π top) = 4 := by
      rcases (H.2.2.2.2.2.1 top ta).2.2 with z | z | z | z | z
      · rw [z.2.1]; decide
      · rw [z.2.1]; decide
      · rw [z.2.1]; decide
      · exact absurd z.1 hk
      · rw [z.2.1]; decide
    refine ⟨9, f + 4, s, e, d, pc, nI (pc + 1), kc, lc, rc, tk, km, lm, rm, π, H, Us, Ue, Ud, fun x hx => ⟨hx, rfl⟩, by omega, by omega, by omega, fun z => absurd z (by decide), fun _ => rfl, fun post hp => td _ (ud _ (sd _ (rd _ (word_op g2 g3 g4 (⟨fun z => absurd z (by decide), fun _ => ⟨fun z => absurd z (by decide), fun _ => ⟨fun z => absurd z (by decide), fun _ => ⟨fun _ => H.kindOf ta ⟨fun z => absurd z hk, fun _ => hp⟩, fun z => absurd rfl z⟩⟩⟩⟩))))), fun post hp => ⟨vs, vs, ⟨fun z => absurd z (by decide), fun _ => ⟨fun z => absurd z (by decide), fun _ => ⟨fun z => absurd z (by decide), fun _ => ⟨fun z => absurd z (by decide), fun _ => ⟨fun z => absurd z (by decide), fun _ => ⟨fun z => absurd z (by decide), fun _ => ⟨fun z => absurd z (by decide), fun _ => ⟨fun _ => ⟨fun z => absurd z (by decide), fun _ => ⟨fun z => absurd z (by decide), fun _ => ⟨vs, vs, fun z => absurd z (by decide), fun _ => ⟨fun z => absurd z (by decide), fun _ => ⟨fun z => absurd z (by decide), fun _ => ?_⟩⟩⟩⟩⟩, fun z => absurd (by decide) z⟩⟩⟩⟩⟩⟩⟩⟩⟩⟩
    rw [es, tm, et]
    exact ⟨vt, fun z => absurd z nk, fun _ => hp⟩
theorem x_rap {ρ : Nat → Prop} {h q kk : Nat} {js : List Nat} {fn rap : Bool} (H : HP sz (f + 3) fre kc lc rc tk km lm rm π G) (Us : US sz (f + 3) fre s) (Ue : US sz (f + 3) fre e) (Ud : US sz (f + 3) fre d) (g : STEP cd n nco (GOOD cd n nco) pc h q js fn rap) (hcd : cd pc = (6, x, y)) (hn : n ≤ 512) (sh : SH (US sz (f + 3) fre) kc rc s h) (eh : EH (US sz (f + 3) fre) ρ kc rc e q) (dd : DD cd n nco (US sz (f + 3) fre) ρ kc lc rc kk d js fn) (hG : ∀ a, G a → GOOD cd n nco a 0 0 [] true false) (hr : rap = true → ∃ c, c < 200 ∧ lc s = nI c ∧ US sz (f + 3) fre c ∧ kc c = 3 ∧ rc c = nI e) : EXR cd n nco sz (f + 3) fre kc lc rc tk km lm rm cons cn π G s e d pc 6 x y := by
  unfold STEP at g
  rw [hcd] at g
  simp only at g
  obtain ⟨g1, g2, g3, g4, t0, t1, t2, t3, t4, t5, t6, t7, t8, t9, t12, t20⟩ := g
  have lsz := H.2.1
  have lf := H.2.2.1
  obtain ⟨lt1, lt2, lt3⟩ := H.lt Us
  have vs : vp_in (nI (π s)) 200 := vp_in_nI (by omega) (by decide)
  have es : (nI (π s)).toNatClampNeg = π s := nI_clamp (by omega)
  obtain ⟨hrp, hh, hq, g'⟩ := t6 trivial
  obtain ⟨h0, rfl⟩ : ∃ h0, h = h0 + 1 + 1 := ⟨h - 2, by omega⟩
  obtain ⟨top, und, ta, ua, ks, tb, ub, tm, um, shu, td, ud⟩ := SH.top H Us sh
  obtain ⟨sec, rst, sa, ra, ku, sb, rb, sm, rm', shr, sd, rd⟩ := SH.top H ua shu
  have lu := H.lt ua
  have vu : vp_in (nI (π und)) 200 := vp_in_nI (by omega) (by decide)
  have eu : (nI (π und)).toNatClampNeg = π und := nI_clamp (by omega)
  obtain ⟨q0, rfl⟩ : ∃ q0, q = q0 + 1 := ⟨q - 1, by omega⟩
  have ltp := H.lt ta
  have vt : vp_in (nI (π top)) 200 := vp_in_nI (by omega) (by decide)
  have et : (nI (π top)).toNatClampNeg = π top := nI_clamp (by omega)
  have hpc : pc + 1 < 512 := by have := (GOOD.elim g').1; omega
  obtain ⟨c, r1, r2, r3, hk, r5⟩ := hr hrp
  have ec : c = top := (nI_eq (by omega) (by omega)).mp (r2.symm.trans tb)
  subst ec
  obtain ⟨mk, ad, env, q1, q2, q3, q4, q5, q6, q7⟩ := H.cl ta hk
  have le := H.lt Ue
  have lenv := H.lt q6
  have ee : env = e := (nI_eq (by omega) (by omega)).mp (q4.symm.trans r5)
  subst ee
  obtain ⟨e1, e2, e3, b0, e4, e5, e6⟩ := eh
  obtain ⟨out_, o1, o2, o3, o4⟩ := H.tail Ue
  have lo := H.lt o1
  have eo : out_ = b0 := (nI_eq (by omega) (by omega)).mp ((o2 e3).1.symm.trans e5)
  subst eo
  obtain ⟨c1, kc1, lc1, rc1, tk1, km1, lm1, rm1, π1, h1, h2, h3, h4, h5, h6, h7, h8, h9⟩ := H.mark hpc Ud
  obtain ⟨c2, kc2, lc2, rc2, tk2, km2, lm2, rm2, π2, i1, i2, i3, i4, i5, i6, i7, i8, i9⟩ := h1.pair (h2 out_ o1).1 h3
  have E2 := h2.trans i2
  obtain ⟨c3, kc3, lc3, rc3, tk3, km3, lm3, rm3, π3, j1, j2, j3, j4, j5, j6, j7, j8, j9⟩ := i1.pair (E2 rst ra).1 i3
  have E3 := E2.trans j2
  have s1 : STAY (US sz (f + 3) fre) (US sz (f + 2) fre) ρ ρ kc lc rc kc1 lc1 rc1 := STAY.ext h2
  have s2 : STAY (US sz (f + 2) fre) (US sz (f + 1) fre) ρ (fun x => ρ x ∨ x = c2) kc1 lc1 rc1 kc2 lc2 rc2 := STAY.add i2 i4
  have s3 : STAY (US sz (f + 1) fre) (US sz f fre) (fun x => ρ x ∨ x = c2) (fun x => (ρ x ∨ x = c2) ∨ x = c3) kc2 lc2 rc2 kc3 lc3 rc3 := STAY.add j2 j4
  have S3 := (s1.trans s2).trans s3
  have eE := E3 env Ue
  have ke : kc3 env = 2 := eE.2.2.1.trans e3
  have ne : ¬ ((ρ env ∨ env = c2) ∨ env = c3) := fun z => e2 ((S3 env Ue).2.1.mp z)
  have s4 : STAY (US sz f fre) (US sz f fre) (fun x => (ρ x ∨ x = c2) ∨ x = c3) (fun x => (ρ x ∨ x = c2) ∨ x = c3) kc3 lc3 rc3 kc3 (upd lc3 env (nI sec)) rc3 := fun x hx => ⟨hx, Iff.rfl, rfl, rfl, fun z => pk_un (fun y => by
    subst y
    rcases z with z | z
    · exact ne z
    · exact z ke)⟩
  have S4 := S3.trans s4
  have X1 := (i2.trans j2) c1 h3
  have X2 := j2 c2 i3
  have HF := j1.setl eE.1 ke (E3 sec sa).1
  have lr := H.lt ra
  have ld := H.lt Ud
  have lc2' := (i1.lt i3)
  have lc1' := (h1.lt h3)
  have n23 : c2 ≠ env := fun z => ne (Or.inl (Or.inr z.symm))
  have n33 : c3 ≠ env := fun z => ne (Or.inr z.symm)
  have n13 : c1 ≠ env := fun z => by
    have := X1.2.2.1.trans h5
    rw [z, ke] at this
    exact absurd this (by decide)
  have dd2 : DD cd n nco (US sz f fre) (fun x => (ρ x ∨ x = c2) ∨ x = c3) kc3 (upd lc3 env (nI sec)) rc3 (kk + 1) c3 [] true := by
    refine ⟨j3, j5, Or.inr rfl, rst, c2, by omega, by omega, (pk_un n33).trans j6, j7, X2.1, X2.2.2.1.trans i5, Or.inl (Or.inr rfl), out_, c1, by omega, by omega, (pk_un n23).trans (X2.2.2.2.1.trans i6), X2.2.2.2.2.1.trans i7, X1.1, X1.2.2.1.trans h5, pc + 1, d, hpc, by omega, (pk_un n13).trans (X1.2.2.2.1.trans h6), X1.2.2.2.2.1.trans h7, h0, q0, js, fn, g', shr.to S4, e6.to S4, dd.to S4⟩
  have n0 := j1.nil (c := 0) (by omega)
  have tE := E3 c ta
  have ntop : c ≠ env := fun z => by rw [z, e3] at hk; exact absurd hk (by decide)
  have npt : π3 c ≠ π3 env := fun z => ntop (j1.inj tE.1 eE.1 z)
  have lenv3 := j1.lt eE.1
  have venv : vp_in (nI env) sz := vp_in_nI (by omega) (by omega)
  have ven2 : vp_in (nI (π env)) 200 := vp_in_nI (by omega) (by decide)
  have een : (nI (π env)).toNatClampNeg = π env := nI_clamp (by omega)
  refine ⟨1, f, 0, env, c3, ad, nI ad, kc3, upd lc3 env (nI sec), rc3, tk3, km3, upd lm3 (π3 env) (nI (π3 sec)), rm3, π3, HF, n0.1, eE.1, j3, fun x hx => ⟨(E3 x hx).1, (E3 x hx).2.1⟩, by omega, by omega, by omega, fun _ => ⟨rfl, fun x => (ρ x ∨ x = c2) ∨ x = c3, 0, 0, [], true, false, kk + 1, hG ad q7, trivial, trivial, dd2, fun z => absurd z (by decide)⟩, fun z => absurd rfl z, fun post hp => td _ (ud _ (sd _ (rd _ (word_op g2 g3 g4 (⟨fun z => absurd z (by decide), fun _ => ⟨fun z => absurd z (by decide), fun _ => ⟨fun z => absurd z (by decide), fun _ => ⟨fun z => absurd z (by decide), fun _ => ⟨fun z => absurd z (by decide), fun _ => ⟨fun z => absurd z (by decide), fun _ => ⟨fun _ => o4 _ (h8 _ (i8 _ (j8 _ (j1.cell tE.1 (Or.inl (tE.2.2.1.trans hk)) ?_)))), fun z => absurd rfl z⟩⟩⟩⟩⟩⟩⟩))))), fun post hp => ⟨vs, vs, ⟨fun z => absurd z (by decide), fun _ => ⟨fun z => absurd z (by decide), fun _ => ⟨fun z => absurd z (by decide), fun _ => ⟨fun z => absurd z (by decide), fun _ => ⟨fun z => absurd z (by decide), fun _ => ⟨fun z => absurd z (by decide), fun _ => ⟨fun z => absurd z (by decide), fun _ => ⟨fun _ => ⟨fun z => absurd z (by decide), fun _ => ⟨fun z => absurd z (by decide), fun _ => ⟨vs, vs, fun z => absurd z (by decide), fun _ => ⟨fun z => absurd z (by decide), fun _ => ⟨fun z => absurd z (by decide), fun _ => ?_⟩⟩⟩⟩⟩, fun z => absurd (by decide) z⟩⟩⟩⟩⟩⟩⟩⟩⟩⟩
  · rw [tE.2.2.2.2.1, q4]
    refine j1.isPair eE.1 (fun _ => ⟨fun z => absurd z (by decide), fun _ => ⟨venv, ?_⟩⟩) (fun z => absurd ke z)
    rw [nI_clamp (n := env) (by omega)]
    refine HF.addr tE.1 (Or.inl (tE.2.2.1.trans hk)) ?_
    rw [pk_un ntop, tE.2.2.2.1, q2]
    exact hp
  · rw [es, tm, um, et, eu, mk, sm]
    refine ⟨vt, fun _ => ⟨vu, ?_⟩, fun z => absurd rfl z⟩
    rw [nI_1]
    refine h9 _ _ ⟨fun z => absurd z (by decide), fun _ => ⟨ven2, ?_⟩⟩
    unfold wp_Model_leap_J247
    rw [used_up (by omega), eu, et, een, (h2 env Ue).2.2.2.2.2.2.2, (o2 e3).2, ← (h2 out_ o1).2.1]
    refine i9 _ _ ⟨vu, ?_⟩
    rw [used_up (by omega), (E2 und ua).2.2.2.2.2.2.2, rm', ← (E2 rst ra).2.1]
    refine j9 _ _ ⟨vt, fun z => absurd z (by decide), fun _ => ?_⟩
    rw [tE.2.2.2.2.2.2.2, q5, een]
    refine ⟨ven2, vt, ?_⟩
    rw [used_up (by omega), ← eE.2.1, ← (E3 sec sa).2.1, pk_un (by rw [← tE.2.1]; exact npt), tE.2.2.2.2.2.2.1, q3]
    rw [n0.2.1] at hp
    exact hp
theorem x_rtn {ρ : Nat → Prop} {h q kk : Nat} {js : List Nat} {fn rap : Bool} (H : HP sz (f + 1) fre kc lc rc tk km lm rm π G) (Us : US sz (f + 1) fre s) (Ue : US sz (f + 1) fre e) (Ud : US sz (f + 1) fre d) (g : STEP cd n nco (GOOD cd n nco) pc h q js fn rap) (hcd : cd pc = (4, x, y)) (hn : n ≤ 512) (sh : SH (US sz (f + 1) fre) kc rc s h) (eh : EH (US sz (f + 1) fre) ρ kc rc e q) (dd : DD cd n nco (US sz (f + 1) fre) ρ kc lc rc kk d js fn) : EXR cd n nco sz (f + 1) fre kc lc rc tk km lm rm cons cn π G s e d pc 4 x y := by
  unfold STEP at g
  rw [hcd] at g
  simp only at g
  obtain ⟨g1, g2, g3, g4, t0, t1, t2, t3, t4, t5, t6, t7, t8, t9, t12, t20⟩ := g
  have lsz := H.2.1
  have lf := H.2.2.1
  obtain ⟨lt1, lt2, lt3⟩ := H.lt Us
  have vs : vp_in (nI (π s)) 200 := vp_in_nI (by omega) (by decide)
  have es : (nI (π s)).toNatClampNeg = π s := nI_clamp (by omega)
  obtain ⟨hfn, hjs, hh⟩ := t4 trivial
  subst hfn hjs
  obtain ⟨h0, rfl⟩ : ∃ h0, h = h0 + 1 := ⟨h - 1, by omega⟩
  obtain ⟨top, und, ta, ua, ks, tb, ub, tm, um, shu, td, ud⟩ := SH.top H Us sh
  obtain ⟨sec, sa, sb, sc, sd⟩ := H.head ua
  obtain ⟨rst, ra, rb, rc', rd⟩ := H.tail ua
  have ltp := H.lt ta
  have vt : vp_in (nI (π top)) 200 := vp_in_nI (by omega) (by decide)
  have et : (nI (π top)).toNatClampNeg = π top := nI_clamp (by omega)
  cases kk with
  | zero => exact (dd : False).elim
  | succ kk =>
    obtain ⟨d1, d2, d3, a, b, d4, d5, d6, d7, d8, d9, d10, a2, b2, d11, d12, d13, d14, d15, d16, ret, d0, d17, d18, d19, d20, h', q', js', fn', d21, d22, d23, d24⟩ := dd
    obtain ⟨-, A, B, p1, p2, p3, p4, p5, p6⟩ := H.pr Ud d2
    have lA := H.lt p5
    have lB := H.lt p6
    have eA : A = a := (nI_eq (by omega) (by omega)).mp (p1.symm.trans d6)
    have eB : B = b := (nI_eq (by omega) (by omega)).mp (p2.symm.trans d7)
    subst eA eB
    obtain ⟨-, A2, B2, r1, r2, r3, r4, r5, r6⟩ := H.pr p6 d9
    have lA2 := H.lt r5
    have lB2 := H.lt r6
    have eA2 : A2 = a2 := (nI_eq (by omega) (by omega)).mp (r1.symm.trans d13)
    have eB2 : B2 = b2 := (nI_eq (by omega) (by omega)).mp (r2.symm.trans d14)
    subst eA2 eB2
    obtain ⟨-, A3, B3, u1, u2, u3, u4, u5, u6⟩ := H.mk r6 d16
    have lB3 := H.lt u6
    have eA3 : A3 = ret := (nI_eq (by omega) (by omega)).mp (u2.symm.trans d19)
    have eB3 : B3 = d0 := (nI_eq (by omega) (by omega)).mp (u4.symm.trans d20)
    subst eA3 eB3
    obtain ⟨hd, w1, w2, w3, w4⟩ := H.head Ud
    obtain ⟨tl, x1, x2, x3, x4⟩ := H.tail Ud
    obtain ⟨tl2, y1, y2, y3, y4⟩ := H.tail p6
    have lhd := H.lt w1
    have ltl := H.lt x1
    have ltl2 := H.lt y1
    have f1 : hd = A := (nI_eq (by omega) (by omega)).mp ((w2 d2).1.symm.trans p1)
    have f2 : tl = B := (nI_eq (by omega) (by omega)).mp ((x2 d2).1.symm.trans p2)
    have f3 : tl2 = B2 := (nI_eq (by omega) (by omega)).mp ((y2 d9).1.symm.trans r2)
    subst f1 f2 f3
    obtain ⟨c, kc1, lc1, rc1, tk1, km1, lm1, rm1, π1, h1, h2, h3, h4, h5, h6⟩ := PUSH (e := A2) (d := B3) H ta w1 d22 d21 d23 d24
    have ld := H.lt Ud
    have vd2 : vp_in (nI (π d)) 200 := vp_in_nI (by omega) (by decide)
    have ed2 : (nI (π d)).toNatClampNeg = π d := nI_clamp (by omega)
    have vb2 : vp_in (nI (π tl)) 200 := vp_in_nI (by omega) (by decide)
    have eb2 : (nI (π tl)).toNatClampNeg = π tl := nI_clamp (by omega)
    have vc2 : vp_in (nI (π tl2)) 200 := vp_in_nI (by omega) (by decide)
    have ec2 : (nI (π tl2)).toNatClampNeg = π tl2 := nI_clamp (by omega)
    have X := h2 tl p6
    have Y := h2 tl2 r6
    obtain ⟨hb, v1, v2, v3, v4⟩ := h1.head X.1
    have lhb := h1.lt v1
    have f4 : hb = A2 := (nI_eq (by omega) (by omega)).mp ((v2 (X.2.2.1.trans d9)).1.symm.trans (X.2.2.2.1.trans r1))
    subst f4
    refine ⟨1, f, c, hb, B3, A3, nI A3, kc1, lc1, rc1, tk1, km1, lm1, rm1, π1, h1, h3, v1, (h2 B3 u6).1, fun x hx => ⟨(h2 x hx).1, (h2 x hx).2.1⟩, by omega, by omega, by omega, fun _ => ⟨rfl, h4⟩, fun z => absurd rfl z, fun post hp => td _ (ud _ (sd _ (rd _ (word_op g2 g3 g4 (⟨fun z => absurd z (by decide), fun _ => ⟨fun z => absurd z (by decide), fun _ => ⟨fun z => absurd z (by decide), fun _ => ⟨fun z => absurd z (by decide), fun _ => ⟨fun _ => x4 _ (y4 _ (w4 _ (h5 _ (v4 _ (h1.addr Y.1 (Or.inr (Y.2.2.1.trans d16)) (h1.cell Y.1 (Or.inr (Y.2.2.1.trans d16)) ?_)))))), fun z => absurd rfl z⟩⟩⟩⟩⟩))))), fun post hp => ⟨vs, vs, ⟨fun z => absurd z (by decide), fun _ => ⟨fun z => absurd z (by decide), fun _ => ⟨fun z => absurd z (by decide), fun _ => ⟨fun z => absurd z (by decide), fun _ => ⟨fun z => absurd z (by decide), fun _ => ⟨fun z => absurd z (by decide), fun _ => ⟨fun z => absurd z (by decide), fun _ => ⟨fun _ => ⟨fun z => absurd z (by decide), fun _ => ⟨fun z => absurd z (by decide), fun _ => ⟨vs, vs, fun z => absurd z (by decide), fun _ => ⟨fun z => absurd z (by decide), fun _ => ⟨fun _ => ?_, fun z => absurd rfl z⟩⟩⟩⟩⟩, fun z => absurd (by decide) z⟩⟩⟩⟩⟩⟩⟩⟩⟩⟩
    · rw [Y.2.2.2.1, u2, Y.2.2.2.2.1, u4]
      exact hp
    · rw [es, tm, ed2, p4, eb2]
      refine ⟨vd2, vb2, fun x7 hx7 => ?_⟩
      rw [r4] at hx7
      subst hx7
      rw [p3, ec2]
      refine ⟨vd2, h6 _ _ ⟨vb2, vc2, vc2, ?_⟩⟩
      rw [used_up (by omega), Y.2.2.2.2.2.2.1, u3, Y.2.2.2.2.2.2.2, u5, X.2.2.2.2.2.2.1, r3, ← (h2 hb r5).2.1, ← (h2 B3 u6).2.1]
      exact hp
end
