/-! one instruction, both: the rest of them -/
section
variable {cd : Nat → Nat × Nat × Nat} {n nco sz f : Nat} {fre kc lc rc tk km lm rm cons cn : Nat → Int32} {π : Nat → Nat} {G : Nat → Prop} {s e d pc x y : Nat}
theorem x_car {ρ : Nat → Prop} {h q kk : Nat} {js : List Nat} {fn rap : Bool} (H : HP sz (f + 1) fre kc lc rc tk km lm rm π G) (Us : US sz (f + 1) fre s) (Ue : US sz (f + 1) fre e) (Ud : US sz (f + 1) fre d) (g : STEP cd n nco (GOOD cd n nco) pc h q js fn rap) (hcd : cd pc = (9, x, y)) (hn : n ≤ 512) (sh : SH (US sz (f + 1) fre) kc rc s h) (eh : EH (US sz (f + 1) fre) ρ kc rc e q) (dd : DD cd n nco (US sz (f + 1) fre) ρ kc lc rc kk d js fn) : EXR cd n nco sz (f + 1) fre kc lc rc tk km lm rm cons cn π G s e d pc 9 x y := by
  unfold STEP at g
  rw [hcd] at g
  simp only at g
  obtain ⟨g1, g2, g3, g4, t0, t1, t2, t3, t4, t5, t6, t7, t8, t9, t12, t20⟩ := g
  have lsz := H.2.1
  have lf := H.2.2.1
  obtain ⟨lt1, lt2, lt3⟩ := H.lt Us
  have vs : vp_in (nI (π s)) 200 := vp_in_nI (by omega) (by decide)
  have es : (nI (π s)).toNatClampNeg = π s := nI_clamp (by omega)
  obtain ⟨hh, g'⟩ := t9 (by decide)
  obtain ⟨h0, rfl⟩ : ∃ h0, h = h0 + 1 := ⟨h - 1, by omega⟩
  obtain ⟨top, und, ta, ua, ks, tb, ub, tm, um, shu, td, ud⟩ := SH.top H Us sh
  obtain ⟨sec, sa, sb, sc, sd⟩ := H.head ua
  obtain ⟨rst, ra, rb, rc', rd⟩ := H.tail ua
  have ltp := H.lt ta
  have vt : vp_in (nI (π top)) 200 := vp_in_nI (by omega) (by decide)
  have et : (nI (π top)).toNatClampNeg = π top := nI_clamp (by omega)
  by_cases hk : kc top = 2
  · obtain ⟨v, v1, v2, v3, v4⟩ := H.head ta
    obtain ⟨c, kc1, lc1, rc1, tk1, km1, lm1, rm1, π1, h1, h2, h3, h4, h5, h6⟩ := PUSH H v1 ua shu g' eh dd
    refine ⟨1, f, c, e, d, pc + 1, nI (pc + 1), kc1, lc1, rc1, tk1, km1, lm1, rm1, π1, h1, h3, (h2 e Ue).1, (h2 d Ud).1, fun x hx => ⟨(h2 x hx).1, (h2 x hx).2.1⟩, by omega, by omega, by omega, fun _ => ⟨rfl, h4⟩, fun z => absurd rfl z, fun post hp => td _ (ud _ (sd _ (rd _ (word_op g2 g3 g4 (⟨fun z => absurd z (by decide), fun _ => ⟨fun z => absurd z (by decide), fun _ => ⟨fun z => absurd z (by decide), fun _ => ⟨fun z => absurd z (by decide), fun _ => ⟨fun z => absurd z (by decide), fun _ => ⟨fun z => absurd z (by decide), fun _ => ⟨fun z => absurd z (by decide), fun _ => ⟨fun z => absurd z (by decide), fun _ => ⟨fun z => absurd z (by decide), fun _ => ⟨fun _ => H.isPair ta (fun _ => ⟨fun z => absurd z (by decide), fun _ => ⟨fun _ => v4 _ (h5 _ hp), fun z => absurd rfl z⟩⟩) (fun z => absurd hk z), fun z => absurd rfl z⟩⟩⟩⟩⟩⟩⟩⟩⟩⟩))))), fun post hp => ⟨vs, vs, ⟨fun z => absurd z (by decide), fun _ => ⟨fun z => absurd z (by decide), fun _ => ⟨fun z => absurd z (by decide), fun _ => ⟨fun z => absurd z (by decide), fun _ => ⟨fun _ => ?_, fun z => absurd rfl z⟩⟩⟩⟩⟩⟩⟩
    rw [es, tm, um]
    refine H.mpair ta (fun _ => ⟨fun z => absurd z (by decide), fun _ => ⟨fun _ => ⟨vt, ?_⟩, fun z => absurd rfl z⟩⟩) (fun z => absurd hk z)
    rw [et, (v2 hk).2]
    refine h6 _ _ ?_
    rw [used_up (by omega), nI_1, ← (h2 e Ue).2.1, ← (h2 d Ud).2.1]
    exact hp
  · refine ⟨6, f + 1, s, e, d, pc, nI (pc + 1), kc, lc, rc, tk, km, lm, rm, π, H, Us, Ue, Ud, fun x hx => ⟨hx, rfl⟩, by omega, by omega, by omega, fun z => absurd z (by decide), fun _ => rfl, fun post hp => td _ (ud _ (sd _ (rd _ (word_op g2 g3 g4 (⟨fun z => absurd z (by decide), fun _ => ⟨fun z => absurd z (by decide), fun _ => ⟨fun z => absurd z (by decide), fun _ => ⟨fun z => absurd z (by decide), fun _ => ⟨fun z => absurd z (by decide), fun _ => ⟨fun z => absurd z (by decide), fun _ => ⟨fun z => absurd z (by decide), fun _ => ⟨fun z => absurd z (by decide), fun _ => ⟨fun z => absurd z (by decide), fun _ => ⟨fun _ => H.isPair ta (fun z => absurd z hk) (fun _ => ⟨fun _ => hp, fun z => absurd rfl z⟩), fun z => absurd rfl z⟩⟩⟩⟩⟩⟩⟩⟩⟩⟩))))), fun post hp => ⟨vs, vs, ⟨fun z => absurd z (by decide), fun _ => ⟨fun z => absurd z (by decide), fun _ => ⟨fun z => absurd z (by decide), fun _ => ⟨fun z => absurd z (by decide), fun _ => ⟨fun _ => ?_, fun z => absurd rfl z⟩⟩⟩⟩⟩⟩⟩
    rw [es, tm, um]
    exact H.mpair ta (fun z => absurd z hk) (fun _ => ⟨fun _ => hp, fun z => absurd rfl z⟩)
theorem x_cdr {ρ : Nat → Prop} {h q kk : Nat} {js : List Nat} {fn rap : Bool} (H : HP sz (f + 1) fre kc lc rc tk km lm rm π G) (Us : US sz (f + 1) fre s) (Ue : US sz (f + 1) fre e) (Ud : US sz (f + 1) fre d) (g : STEP cd n nco (GOOD cd n nco) pc h q js fn rap) (hcd : cd pc = (10, x, y)) (hn : n ≤ 512) (sh : SH (US sz (f + 1) fre) kc rc s h) (eh : EH (US sz (f + 1) fre) ρ kc rc e q) (dd : DD cd n nco (US sz (f + 1) fre) ρ kc lc rc kk d js fn) : EXR cd n nco sz (f + 1) fre kc lc rc tk km lm rm cons cn π G s e d pc 10 x y := by
  unfold STEP at g
  rw [hcd] at g
  simp only at g
  obtain ⟨g1, g2, g3, g4, t0, t1, t2, t3, t4, t5, t6, t7, t8, t9, t12, t20⟩ := g
  have lsz := H.2.1
  have lf := H.2.2.1
  obtain ⟨lt1, lt2, lt3⟩ := H.lt Us
  have vs : vp_in (nI (π s)) 200 := vp_in_nI (by omega) (by decide)
  have es : (nI (π s)).toNatClampNeg = π s := nI_clamp (by omega)
  obtain ⟨hh, g'⟩ := t9 (by decide)
  obtain ⟨h0, rfl⟩ : ∃ h0, h = h0 + 1 := ⟨h - 1, by omega⟩
  obtain ⟨top, und, ta, ua, ks, tb, ub, tm, um, shu, td, ud⟩ := SH.top H Us sh
  obtain ⟨sec, sa, sb, sc, sd⟩ := H.head ua
  obtain ⟨rst, ra, rb, rc', rd⟩ := H.tail ua
  have ltp := H.lt ta
  have vt : vp_in (nI (π top)) 200 := vp_in_nI (by omega) (by decide)
  have et : (nI (π top)).toNatClampNeg = π top := nI_clamp (by omega)
  by_cases hk : kc top = 2
  · obtain ⟨v, v1, v2, v3, v4⟩ := H.tail ta
    obtain ⟨c, kc1, lc1, rc1, tk1, km1, lm1, rm1, π1, h1, h2, h3, h4, h5, h6⟩ := PUSH H v1 ua shu g' eh dd
    refine ⟨1, f, c, e, d, pc + 1, nI (pc + 1), kc1, lc1, rc1, tk1, km1, lm1, rm1, π1, h1, h3, (h2 e Ue).1, (h2 d Ud).1, fun x hx => ⟨(h2 x hx).1, (h2 x hx).2.1⟩, by omega, by omega, by omega, fun _ => ⟨rfl, h4⟩, fun z => absurd rfl z, fun post hp => td _ (ud _ (sd _ (rd _ (word_op g2 g3 g4 (⟨fun z => absurd z (by decide), fun _ => ⟨fun z => absurd z (by decide), fun _ => ⟨fun z => absurd z (by decide), fun _ => ⟨fun z => absurd z (by decide), fun _ => ⟨fun z => absurd z (by decide), fun _ => ⟨fun z => absurd z (by decide), fun _ => ⟨fun z => absurd z (by decide), fun _ => ⟨fun z => absurd z (by decide), fun _ => ⟨fun z => absurd z (by decide), fun _ => ⟨fun z => absurd z (by decide), fun _ => ⟨fun _ => H.isPair ta (fun _ => ⟨fun z => absurd z (by decide), fun _ => ⟨fun z => absurd z (by decide), fun _ => v4 _ (h5 _ hp)⟩⟩) (fun z => absurd hk z), fun z => absurd rfl z⟩⟩⟩⟩⟩⟩⟩⟩⟩⟩⟩))))), fun post hp => ⟨vs, vs, ⟨fun z => absurd z (by decide), fun _ => ⟨fun z => absurd z (by decide), fun _ => ⟨fun z => absurd z (by decide), fun _ => ⟨fun z => absurd z (by decide), fun _ => ⟨fun z => absurd z (by decide), fun _ => ⟨fun _ => ?_, fun z => absurd rfl z⟩⟩⟩⟩⟩⟩⟩⟩
    rw [es, tm, um]
    refine H.mpair ta (fun _ => ⟨fun z => absurd z (by decide), fun _ => ⟨fun z => absurd z (by decide), fun _ => ⟨vt, ?_⟩⟩⟩) (fun z => absurd hk z)
    rw [et, (v2 hk).2]
    refine h6 _ _ ?_
    rw [used_up (by omega), nI_1, ← (h2 e Ue).2.1, ← (h2 d Ud).2.1]
    exact hp
  · refine ⟨6, f + 1, s, e, d, pc, nI (pc + 1), kc, lc, rc, tk, km, lm, rm, π, H, Us, Ue, Ud, fun x hx => ⟨hx, rfl⟩, by omega, by omega, by omega, fun z => absurd z (by decide), fun _ => rfl, fun post hp => td _ (ud _ (sd _ (rd _ (word_op g2 g3 g4 (⟨fun z => absurd z (by decide), fun _ => ⟨fun z => absurd z (by decide), fun _ => ⟨fun z => absurd z (by decide), fun _ => ⟨fun z => absurd z (by decide), fun _ => ⟨fun z => absurd z (by decide), fun _ => ⟨fun z => absurd z (by decide), fun _ => ⟨fun z => absurd z (by decide), fun _ => ⟨fun z => absurd z (by decide), fun _ => ⟨fun z => absurd z (by decide), fun _ => ⟨fun z => absurd z (by decide), fun _ => ⟨fun _ => H.isPair ta (fun z => absurd z hk) (fun _ => ⟨fun _ => hp, fun z => absurd rfl z⟩), fun z => absurd rfl z⟩⟩⟩⟩⟩⟩⟩⟩⟩⟩⟩))))), fun post hp => ⟨vs, vs, ⟨fun z => absurd z (by decide), fun _ => ⟨fun z => absurd z (by decide), fun _ => ⟨fun z => absurd z (by decide), fun _ => ⟨fun z => absurd z (by decide), fun _ => ⟨fun z => absurd z (by decide), fun _ => ⟨fun _ => ?_, fun z => absurd rfl z⟩⟩⟩⟩⟩⟩⟩⟩
    rw [es, tm, um]
    exact H.mpair ta (fun z => absurd z hk) (fun _ => ⟨fun _ => hp, fun z => absurd rfl z⟩)
theorem x_atom {ρ : Nat → Prop} {h q kk : Nat} {js : List Nat} {fn rap : Bool} (H : HP sz (f + 1) fre kc lc rc tk km lm rm π G) (Us : US sz (f + 1) fre s) (Ue : US sz (f + 1) fre e) (Ud : US sz (f + 1) fre d) (g : STEP cd n nco (GOOD cd n nco) pc h q js fn rap) (hcd : cd pc = (11, x, y)) (hn : n ≤ 512) (sh : SH (US sz (f + 1) fre) kc rc s h) (eh : EH (US sz (f + 1) fre) ρ kc rc e q) (dd : DD cd n nco (US sz (f + 1) fre) ρ kc lc rc kk d js fn) : EXR cd n nco sz (f + 1) fre kc lc rc tk km lm rm cons cn π G s e d pc 11 x y := by
  unfold STEP at g
  rw [hcd] at g
  simp only at g
  obtain ⟨g1, g2, g3, g4, t0, t1, t2, t3, t4, t5, t6, t7, t8, t9, t12, t20⟩ := g
  have lsz := H.2.1
  have lf := H.2.2.1
  obtain ⟨lt1, lt2, lt3⟩ := H.lt Us
  have vs : vp_in (nI (π s)) 200 := vp_in_nI (by omega) (by decide)
  have es : (nI (π s)).toNatClampNeg = π s := nI_clamp (by omega)
  obtain ⟨hh, g'⟩ := t9 (by decide)
  obtain ⟨h0, rfl⟩ : ∃ h0, h = h0 + 1 := ⟨h - 1, by omega⟩
  obtain ⟨top, und, ta, ua, ks, tb, ub, tm, um, shu, td, ud⟩ := SH.top H Us sh
  obtain ⟨sec, sa, sb, sc, sd⟩ := H.head ua
  obtain ⟨rst, ra, rb, rc', rd⟩ := H.tail ua
  have ltp := H.lt ta
  have vt : vp_in (nI (π top)) 200 := vp_in_nI (by omega) (by decide)
  have et : (nI (π top)).toNatClampNeg = π top := nI_clamp (by omega)
  obtain ⟨k, k1, k2, k3⟩ := H.kind ta
  by_cases hk : k ≤ 1
  · have n1 := H.nil (c := 1) (by omega)
    obtain ⟨c, kc1, lc1, rc1, tk1, km1, lm1, rm1, π1, h1, h2, h3, h4, h5, h6⟩ := PUSH H n1.1 ua shu g' eh dd
    rw [n1.2.1] at h6
    refine ⟨1, f, c, e, d, pc + 1, nI (pc + 1), kc1, lc1, rc1, tk1, km1, lm1, rm1, π1, h1, h3, (h2 e Ue).1, (h2 d Ud).1, fun x hx => ⟨(h2 x hx).1, (h2 x hx).2.1⟩, by omega, by omega, by omega, fun _ => ⟨rfl, h4⟩, fun z => absurd rfl z, fun post hp => td _ (ud _ (sd _ (rd _ (word_op g2 g3 g4 (⟨fun z => absurd z (by decide), fun _ => ⟨fun z => absurd z (by decide), fun _ => ⟨fun z => absurd z (by decide), fun _ => ⟨fun z => absurd z (by decide), fun _ => ⟨fun z => absurd z (by decide), fun _ => ⟨fun z => absurd z (by decide), fun _ => ⟨fun z => absurd z (by decide), fun _ => ⟨fun z => absurd z (by decide), fun _ => ⟨fun z => absurd z (by decide), fun _ => ⟨fun z => absurd z (by decide), fun _ => ⟨fun z => absurd z (by decide), fun _ => ⟨fun _ => H.kindOf ta ⟨fun _ => ⟨fun z => absurd z (by decide), fun _ => h5 _ hp⟩, fun z0 => ⟨fun _ => ⟨fun z => absurd z (by decide), fun _ => h5 _ hp⟩, fun z1 => ?_⟩⟩, fun z => absurd rfl z⟩⟩⟩⟩⟩⟩⟩⟩⟩⟩⟩⟩))))), fun post hp => ⟨vs, vs, ⟨fun z => absurd z (by decide), fun _ => ⟨fun z => absurd z (by decide), fun _ => ⟨fun z => absurd z (by decide), fun _ => ⟨fun z => absurd z (by decide), fun _ => ⟨fun z => absurd z (by decide), fun _ => ⟨fun z => absurd z (by decide), fun _ => ⟨fun _ => ?_, fun z => absurd rfl z⟩⟩⟩⟩⟩⟩⟩⟩⟩
    · rw [k2] at z0 z1
      rcases (show k = 0 ∨ k = 1 by omega) with rfl | rfl
      · exact absurd rfl z0
      · exact absurd rfl z1
    · rw [es, tm, um, et, k3]
      refine ⟨vt, fun z => absurd z (nI_nlt (a := 2) (by omega) (by decide)), fun _ => h6 _ _ ?_⟩
      rw [used_up (by omega), nI_1, ← (h2 e Ue).2.1, ← (h2 d Ud).2.1]
      exact hp
  · have n2 := H.nil (c := 2) (by omega)
    obtain ⟨c, kc1, lc1, rc1, tk1, km1, lm1, rm1, π1, h1, h2, h3, h4, h5, h6⟩ := PUSH H n2.1 ua shu g' eh dd
    rw [n2.2.1] at h6
    have m0 : ¬ kc top = 0 := fun z => hk (by have := (nI_eq (b := 0) (by omega) (by decide)).mp (k2.symm.trans z); omega)
    have m1 : ¬ kc top = 1 := fun z => hk (by have := (nI_eq (b := 1) (by omega) (by decide)).mp (k2.symm.trans z); omega)
    refine ⟨1, f, c, e, d, pc + 1, nI (pc + 1), kc1, lc1, rc1, tk1, km1, lm1, rm1, π1, h1, h3, (h2 e Ue).1, (h2 d Ud).1, fun x hx => ⟨(h2 x hx).1, (h2 x hx).2.1⟩, by omega, by omega, by omega, fun _ => ⟨rfl, h4⟩, fun z => absurd rfl z, fun post hp => td _ (ud _ (sd _ (rd _ (word_op g2 g3 g4 (⟨fun z => absurd z (by decide), fun _ => ⟨fun z => absurd z (by decide), fun _ => ⟨fun z => absurd z (by decide), fun _ => ⟨fun z => absurd z (by decide), fun _ => ⟨fun z => absurd z (by decide), fun _ => ⟨fun z => absurd z (by decide), fun _ => ⟨fun z => absurd z (by decide), fun _ => ⟨fun z => absurd z (by decide), fun _ => ⟨fun z => absurd z (by decide), fun _ => ⟨fun z => absurd z (by decide), fun _ => ⟨fun z => absurd z (by decide), fun _ => ⟨fun _ => H.kindOf ta ⟨fun z => absurd z m0, fun _ => ⟨fun z => absurd z m1, fun _ => ⟨fun _ => h5 _ hp, fun z => absurd rfl z⟩⟩⟩, fun z => absurd rfl z⟩⟩⟩⟩⟩⟩⟩⟩⟩⟩⟩⟩))))), fun post hp => ⟨vs, vs, ⟨fun z => absurd z (by decide), fun _ => ⟨fun z => absurd z (by decide), fun _ => ⟨fun z => absurd z (by decide), fun _ => ⟨fun z => absurd z (by decide), fun _ => ⟨fun z => absurd z (by decide), fun _ => ⟨fun z => absurd z (by decide), fun _ => ⟨fun _ => ?_, fun z => absurd rfl z⟩⟩⟩⟩⟩⟩⟩⟩⟩
    rw [es, tm, um, et, k3]
    refine ⟨vt, fun _ => h6 _ _ ?_, fun z => absurd (nI_lt (a := 2) (by omega) (by omega)) z⟩
    rw [used_up (by omega), nI_1, ← (h2 e Ue).2.1, ← (h2 d Ud).2.1]
    exact hp
theorem x_eq {ρ : Nat → Prop} {h q kk : Nat} {js : List Nat} {fn rap : Bool} (H : HP sz (f + 1) fre kc lc rc tk km lm rm π G) (Us : US sz (f + 1) fre s) (Ue : US sz (f + 1) fre e) (Ud : US sz (f + 1) fre d) (g : STEP cd n nco (GOOD cd n nco) pc h q js fn rap) (hcd : cd pc = (13, x, y)) (hn : n ≤ 512) (sh : SH (US sz (f + 1) fre) kc rc s h) (eh : EH (US sz (f + 1) fre) ρ kc rc e q) (dd : DD cd n nco (US sz (f + 1) fre) ρ kc lc rc kk d js fn) : EXR cd n nco sz (f + 1) fre kc lc rc tk km lm rm cons cn π G s e d pc 13 x y := by
  unfold STEP at g
  rw [hcd] at g
  simp only at g
  obtain ⟨g1, g2, g3, g4, t0, t1, t2, t3, t4, t5, t6, t7, t8, t9, t12, t20⟩ := g
  have lsz := H.2.1
  have lf := H.2.2.1
  obtain ⟨lt1, lt2, lt3⟩ := H.lt Us
  have vs : vp_in (nI (π s)) 200 := vp_in_nI (by omega) (by decide)
  have es : (nI (π s)).toNatClampNeg = π s := nI_clamp (by omega)
  obtain ⟨hh, g'⟩ := t12 (by decide)
  obtain ⟨h0, rfl⟩ : ∃ h0, h = h0 + 1 + 1 := ⟨h - 2, by omega⟩
  obtain ⟨top, und, ta, ua, ks, tb, ub, tm, um, shu, td, ud⟩ := SH.top H Us sh
  obtain ⟨sec, rst, sa, ra, ku, sb, rb, sm, rm', shr, sd, rd⟩ := SH.top H ua shu
  have lu := H.lt ua
  have vu : vp_in (nI (π und)) 200 := vp_in_nI (by omega) (by decide)
  have eu : (nI (π und)).toNatClampNeg = π und := nI_clamp (by omega)
  obtain ⟨k, k1, k2, k3⟩ := H.kind sa
  obtain ⟨l, l1, l2, l3⟩ := H.kind ta
  have n1 := H.nil (c := 1) (by omega)
  have n2 := H.nil (c := 2) (by omega)
  have lsc := H.lt sa
  have ltp := H.lt ta
  have va : vp_in (nI sec) sz := vp_in_nI (by omega) (by omega)
  have vb : vp_in (nI top) sz := vp_in_nI (by omega) (by omega)
  have va2 : vp_in (nI (π sec)) 200 := vp_in_nI (by omega) (by decide)
  have vb2 : vp_in (nI (π top)) 200 := vp_in_nI (by omega) (by decide)
  have ea : (nI sec).toNatClampNeg = sec := nI_clamp (by omega)
  have eb : (nI top).toNatClampNeg = top := nI_clamp (by omega)
  have ea2 : (nI (π sec)).toNatClampNeg = π sec := nI_clamp (by omega)
  have eb2 : (nI (π top)).toNatClampNeg = π top := nI_clamp (by omega)
  have veq : k ≤ 1 → k = l → (lc sec = lc top ↔ lm (π sec) = lm (π top)) := fun hk e => by
    subst e
    rcases (H.2.2.2.2.2.1 sec sa).2.2 with z | z | z | z | z
    · rcases (H.2.2.2.2.2.1 top ta).2.2 with y | y | y | y | y
      · rw [z.2.2, y.2.2]
      · exact absurd (k2.symm.trans z.1) (fun q => by rw [l2.symm.trans y.1] at q; exact absurd q (by decide))
      · exact absurd (k2.symm.trans z.1) (fun q => by rw [l2.symm.trans y.1] at q; exact absurd q (by decide))
      · exact absurd (k2.symm.trans z.1) (fun q => by rw [l2.symm.trans y.1] at q; exact absurd q (by decide))
      · exact absurd (k2.symm.trans z.1) (fun q => by rw [l2.symm.trans y.1] at q; exact absurd q (by decide))
    · rcases (H.2.2.2.2.2.1 top ta).2.2 with y | y | y | y | y
      · exact absurd (k2.symm.trans z.1) (fun q => by rw [l2.symm.trans y.1] at q; exact absurd q (by decide))
      · exact nameR_eq z.2.2 y.2.2
      · exact absurd (k2.symm.trans z.1) (fun q => by rw [l2.symm.trans y.1] at q; exact absurd q (by decide))
      · exact absurd (k2.symm.trans z.1) (fun q => by rw [l2.symm.trans y.1] at q; exact absurd q (by decide))
      · exact absurd (k2.symm.trans z.1) (fun q => by rw [l2.symm.trans y.1] at q; exact absurd q (by decide))
    · exact absurd ((nI_eq (b := 2) (by omega) (by decide)).mp (k2.symm.trans z.1)) (by omega)
    · exact absurd ((nI_eq (b := 3) (by omega) (by decide)).mp (k2.symm.trans z.1)) (by omega)
    · exact absurd ((nI_eq (b := 4) (by omega) (by decide)).mp (k2.symm.trans z.1)) (by omega)
  -- the class: an atom, of one kind, of one value
  have cl0 : ¬ k ≤ 1 → ∀ post : Int32 → Prop, post 0 → wp_Machine_isSameAtom sz sz kc lc (nI sec) (nI top) post := fun hk post hp => by
    unfold wp_Machine_isSameAtom wp_Machine_isAtom
    exact H.kindOf sa ⟨fun z => absurd ((nI_eq (b := 0) (by omega) (by decide)).mp (k2.symm.trans z)) (by omega), fun _ => ⟨fun z => absurd ((nI_eq (b := 1) (by omega) (by decide)).mp (k2.symm.trans z)) (by omega), fun _ => ⟨fun _ => hp, fun z => absurd rfl z⟩⟩⟩
  have cl1 : k ≤ 1 → ∀ post : Int32 → Prop, (k = l → lc sec = lc top → post 1) → (¬ (k = l ∧ lc sec = lc top) → post 0) → wp_Machine_isSameAtom sz sz kc lc (nI sec) (nI top) post := fun hk post hp1 hp0 => by
    have rest : wp_Memory_kindOf sz kc (nI sec) (fun r_3 => wp_Memory_kindOf sz kc (nI top) (fun r_4 => ((r_3 = r_4 → (wp_Memory_valueOf sz lc (nI sec) (fun r_6 => wp_Memory_valueOf sz lc (nI top) (fun r_7 => ((r_6 = r_7 → (post (1 : Int32))) ∧ (¬ r_6 = r_7 → (post (0 : Int32)))))))) ∧ (¬ r_3 = r_4 → (post (0 : Int32)))))) := by
      refine H.kindOf sa (H.kindOf ta ⟨fun z => ?_, fun z => hp0 (fun q => z (by rw [k2, l2, q.1]))⟩)
      have ekl : k = l := (nI_eq (by omega) (by omega)).mp (k2.symm.trans (z.trans l2))
      unfold wp_Memory_valueOf
      rw [ea, eb]
      exact ⟨va, vb, fun z2 => hp1 ekl z2, fun z2 => hp0 (fun q => z2 q.2)⟩
    unfold wp_Machine_isSameAtom wp_Machine_isAtom
    exact H.kindOf sa ⟨fun _ => ⟨fun z => absurd z (by decide), fun _ => rest⟩, fun z0 => ⟨fun _ => ⟨fun z => absurd z (by decide), fun _ => rest⟩, fun z1 => by
      rw [k2] at z0 z1
      rcases (show k = 0 ∨ k = 1 by omega) with rfl | rfl
      · exact absurd rfl z0
      · exact absurd rfl z1⟩⟩
  by_cases hk : k ≤ 1
  · by_cases hq : k = l ∧ lc sec = lc top
    · obtain ⟨c, kc1, lc1, rc1, tk1, km1, lm1, rm1, π1, h1, h2, h3, h4, h5, h6⟩ := PUSH H n1.1 ra shr g' eh dd
      rw [n1.2.1] at h6
      refine ⟨1, f, c, e, d, pc + 1, nI (pc + 1), kc1, lc1, rc1, tk1, km1, lm1, rm1, π1, h1, h3, (h2 e Ue).1, (h2 d Ud).1, fun x hx => ⟨(h2 x hx).1, (h2 x hx).2.1⟩, by omega, by omega, by omega, fun _ => ⟨rfl, h4⟩, fun z => absurd rfl z, fun post hp => td _ (ud _ (sd _ (rd _ (word_op g2 g3 g4 (⟨fun z => absurd z (by decide), fun _ => ⟨fun z => absurd z (by decide), fun _ => ⟨fun z => absurd z (by decide), fun _ => ⟨fun z => absurd z (by decide), fun _ => ⟨fun z => absurd z (by decide), fun _ => ⟨fun z => absurd z (by decide), fun _ => ⟨fun z => absurd z (by decide), fun _ => ⟨fun z => absurd z (by decide), fun _ => ⟨fun z => absurd z (by decide), fun _ => ⟨fun z => absurd z (by decide), fun _ => ⟨fun z => absurd z (by decide), fun _ => ⟨fun z => absurd z (by decide), fun _ => ⟨fun z => absurd z (by decide), fun _ => ⟨fun _ => cl1 hk _ (fun _ _ => ⟨fun z => absurd z (by decide), fun _ => h5 _ hp⟩) (fun z => absurd hq z), fun z => absurd rfl z⟩⟩⟩⟩⟩⟩⟩⟩⟩⟩⟩⟩⟩⟩))))), fun post hp => ⟨vs, vs, ⟨fun z => absurd z (by decide), fun _ => ⟨fun z => absurd z (by decide), fun _ => ⟨fun z => absurd z (by decide), fun _ => ⟨fun z => absurd z (by decide), fun _ => ⟨fun z => absurd z (by decide), fun _ => ⟨fun z => absurd z (by decide), fun _ => ⟨fun z => absurd z (by decide), fun _ => ⟨fun z => absurd z (by decide), fun _ => ⟨fun z => absurd z (by decide), fun _ => ?_⟩⟩⟩⟩⟩⟩⟩⟩⟩⟩⟩
      rw [es, um, eu, sm, tm, rm']
      refine ⟨vu, vu, ?_⟩
      unfold wp_Model_reckon
      rw [ea2, eb2, k3, l3]
      refine ⟨fun _ => ⟨va2, fun z => absurd z (nI_nlt (a := 2) (by omega) (by decide)), fun _ => ⟨va2, vb2, fun _ => ⟨va2, vb2, fun _ => ⟨fun z => absurd z (by decide), fun _ => h6 _ _ ?_⟩, fun z => absurd ((veq hk hq.1).mp hq.2) z⟩, fun z => absurd (by rw [hq.1]) z⟩⟩, fun z => absurd rfl z⟩
      rw [used_up (by omega), nI_1, ← (h2 e Ue).2.1, ← (h2 d Ud).2.1]
      exact hp
    · obtain ⟨c, kc1, lc1, rc1, tk1, km1, lm1, rm1, π1, h1, h2, h3, h4, h5, h6⟩ := PUSH H n2.1 ra shr g' eh dd
      rw [n2.2.1] at h6
      refine ⟨1, f, c, e, d, pc + 1, nI (pc + 1), kc1, lc1, rc1, tk1, km1, lm1, rm1, π1, h1, h3, (h2 e Ue).1, (h2 d Ud).1, fun x hx => ⟨(h2 x hx).1, (h2 x hx).2.1⟩, by omega, by omega, by omega, fun _ => ⟨rfl, h4⟩, fun z => absurd rfl z, fun post hp => td _ (ud _ (sd _ (rd _ (word_op g2 g3 g4 (⟨fun z => absurd z (by decide), fun _ => ⟨fun z => absurd z (by decide), fun _ => ⟨fun z => absurd z (by decide), fun _ => ⟨fun z => absurd z (by decide), fun _ => ⟨fun z => absurd z (by decide), fun _ => ⟨fun z => absurd z (by decide), fun _ => ⟨fun z => absurd z (by decide), fun _ => ⟨fun z => absurd z (by decide), fun _ => ⟨fun z => absurd z (by decide), fun _ => ⟨fun z => absurd z (by decide), fun _ => ⟨fun z => absurd z (by decide), fun _ => ⟨fun z => absurd z (by decide), fun _ => ⟨fun z => absurd z (by decide), fun _ => ⟨fun _ => cl1 hk _ (fun z1 z2 => absurd ⟨z1, z2⟩ hq) (fun _ => ⟨fun _ => h5 _ hp, fun z => absurd rfl z⟩), fun z => absurd rfl z⟩⟩⟩⟩⟩⟩⟩⟩⟩⟩⟩⟩⟩⟩))))), fun post hp => ⟨vs, vs, ⟨fun z => absurd z (by decide), fun _ => ⟨fun z => absurd z (by decide), fun _ => ⟨fun z => absurd z (by decide), fun _ => ⟨fun z => absurd z (by decide), fun _ => ⟨fun z => absurd z (by decide), fun _ => ⟨fun z => absurd z (by decide), fun _ => ⟨fun z => absurd z (by decide), fun _ => ⟨fun z => absurd z (by decide), fun _ => ⟨fun z => absurd z (by decide), fun _ => ?_⟩⟩⟩⟩⟩⟩⟩⟩⟩⟩⟩
      rw [es, um, eu, sm, tm, rm']
      refine ⟨vu, vu, ?_⟩
      unfold wp_Model_reckon
      rw [ea2, eb2, k3, l3]
      have lst : ∀ us, us = nI (sz - (f + 1)) → wp_Model_push (nI sz) us (nI pc) (nI (π s)) km lm rm tk (2 : Int32) (nI (π rst)) (fun used_151 i_pc_152 i_s_153 km_154 lm_155 rm_156 tk_157 => post (1 : Int32) used_151 i_pc_152 i_s_153 (nI (π e)) (nI (π d)) km_154 lm_155 rm_156 tk_157) := fun us hu => by
        subst hu
        refine h6 _ _ ?_
        rw [used_up (by omega), nI_1, ← (h2 e Ue).2.1, ← (h2 d Ud).2.1]
        exact hp
      refine ⟨fun _ => ⟨va2, fun z => absurd z (nI_nlt (a := 2) (by omega) (by decide)), fun _ => ⟨va2, vb2, fun z1 => ⟨va2, vb2, fun z2 => absurd ⟨by have := (nI_eq (by omega) (by omega)).mp z1; omega, ?_⟩ hq, fun _ => ⟨fun _ => lst _ rfl, fun z => absurd rfl z⟩⟩, fun _ => ⟨fun _ => lst _ rfl, fun z => absurd rfl z⟩⟩⟩, fun z => absurd rfl z⟩
      exact (veq hk (by have := (nI_eq (by omega) (by omega)).mp z1; omega)).mpr z2
  · obtain ⟨c, kc1, lc1, rc1, tk1, km1, lm1, rm1, π1, h1, h2, h3, h4, h5, h6⟩ := PUSH H n2.1 ra shr g' eh dd
    rw [n2.2.1] at h6
    refine ⟨1, f, c, e, d, pc + 1, nI (pc + 1), kc1, lc1, rc1, tk1, km1, lm1, rm1, π1, h1, h3, (h2 e Ue).1, (h2 d Ud).1, fun x hx => ⟨(h2 x hx).1, (h2 x hx).2.1⟩, by omega, by omega, by omega, fun _ => ⟨rfl, h4⟩, fun z => absurd rfl z, fun post hp => td _ (ud _ (sd _ (rd _ (word_op g2 g3 g4 (⟨fun z => absurd z (by decide), fun _ => ⟨fun z => absurd z (by decide), fun _ => ⟨fun z => absurd z (by decide), fun _ => ⟨fun z => absurd z (by decide), fun _ => ⟨fun z => absurd z (by decide), fun _ => ⟨fun z => absurd z (by decide), fun _ => ⟨fun z => absurd z (by decide), fun _ => ⟨fun z => absurd z (by decide), fun _ => ⟨fun z => absurd z (by decide), fun _ => ⟨fun z => absurd z (by decide), fun _ => ⟨fun z => absurd z (by decide), fun _ => ⟨fun z => absurd z (by decide), fun _ => ⟨fun z => absurd z (by decide), fun _ => ⟨fun _ => cl0 hk _ ⟨fun _ => h5 _ hp, fun z => absurd rfl z⟩, fun z => absurd rfl z⟩⟩⟩⟩⟩⟩⟩⟩⟩⟩⟩⟩⟩⟩))))), fun post hp => ⟨vs, vs, ⟨fun z => absurd z (by decide), fun _ => ⟨fun z => absurd z (by decide), fun _ => ⟨fun z => absurd z (by decide), fun _ => ⟨fun z => absurd z (by decide), fun _ => ⟨fun z => absurd z (by decide), fun _ => ⟨fun z => absurd z (by decide), fun _ => ⟨fun z => absurd z (by decide), fun _ => ⟨fun z => absurd z (by decide), fun _ => ⟨fun z => absurd z (by decide), fun _ => ?_⟩⟩⟩⟩⟩⟩⟩⟩⟩⟩⟩
    rw [es, um, eu, sm, tm, rm']
    refine ⟨vu, vu, ?_⟩
    unfold wp_Model_reckon
    rw [ea2, eb2, k3, l3]
    refine ⟨fun _ => ⟨va2, fun _ => ⟨fun _ => h6 _ _ ?_, fun z => absurd rfl z⟩, fun z => absurd (nI_lt (a := 2) (by omega) (by omega)) z⟩, fun z => absurd rfl z⟩
    rw [used_up (by omega), nI_1, ← (h2 e Ue).2.1, ← (h2 d Ud).2.1]
    exact hp
end
