/-! one instruction, both: reckoning, loads, calls -/
section
variable {cd : Nat → Nat × Nat × Nat} {n nco sz f : Nat} {fre kc lc rc tk km lm rm cons cn : Nat → Int32} {π : Nat → Nat} {G : Nat → Prop} {s e d pc x y : Nat}
theorem HP.nm (h : HP sz f fre kc lc rc tk km lm rm π G) {c : Nat} (hc : US sz f fre c) (hk : kc c = 0) : km (π c) = 1 ∧ lm (π c) = lc c := by
  rcases (h.2.2.2.2.2.1 c hc).2.2 with z | z | z | z | z
  · exact z.2
  · exact absurd (hk.symm.trans z.1) (by decide)
  · exact absurd (hk.symm.trans z.1) (by decide)
  · exact absurd (hk.symm.trans z.1) (by decide)
  · exact absurd (hk.symm.trans z.1) (by decide)
theorem HP.nnm (h : HP sz f fre kc lc rc tk km lm rm π G) {c : Nat} (hc : US sz f fre c) (hk : ¬ kc c = 0) : ¬ km (π c) = 1 := by
  rcases (h.2.2.2.2.2.1 c hc).2.2 with z | z | z | z | z
  · exact absurd z.1 hk
  · rw [z.2.1]; decide
  · rw [z.2.1]; decide
  · rw [z.2.1]; decide
  · rw [z.2.1]; decide
theorem x_leq {ρ : Nat → Prop} {h q kk : Nat} {js : List Nat} {fn rap : Bool} (H : HP sz (f + 1) fre kc lc rc tk km lm rm π G) (Us : US sz (f + 1) fre s) (Ue : US sz (f + 1) fre e) (Ud : US sz (f + 1) fre d) (g : STEP cd n nco (GOOD cd n nco) pc h q js fn rap) (hcd : cd pc = (14, x, y)) (hn : n ≤ 512) (sh : SH (US sz (f + 1) fre) kc rc s h) (eh : EH (US sz (f + 1) fre) ρ kc rc e q) (dd : DD cd n nco (US sz (f + 1) fre) ρ kc lc rc kk d js fn) (ph : PH (US sz (f + 1) fre) kc lc rc) (ps : PL kc lc rc s) (pe : PL kc lc rc e) : EXR cd n nco sz (f + 1) fre kc lc rc tk km lm rm cons cn π G s e d pc 14 x y := by
  unfold STEP at g
  rw [hcd] at g
  simp only at g
  obtain ⟨g1, g2, g3, g4, t0, t1, t2, t3, t4, t5, t6, t7, t8, t9, t12, t20⟩ := g
  have lsz := H.2.1
  have lf := H.2.2.1
  obtain ⟨lt1, lt2, lt3⟩ := H.lt Us
  have vs : vp_in (nI (π s)) 200 := vp_in_nI (by omega) (by decide)
  have es : (nI (π s)).toNatClampNeg = π s := nI_clamp (by omega)
  obtain ⟨hh, g'⟩ := t12 (by decide)
  obtain ⟨h0, rfl⟩ : ∃ h0, h = h0 + 1 + 1 := ⟨h - 2, by omega⟩
  obtain ⟨top, und, ta, ua, ks, tb, ub, tm, um, shu, td, ud⟩ := SH.top H Us sh
  obtain ⟨sec, rst, sa, ra, ku, sb, rb, sm, rm', shr, sd, rd⟩ := SH.top H ua shu
  have lu := H.lt ua
  have vu : vp_in (nI (π und)) 200 := vp_in_nI (by omega) (by decide)
  have eu : (nI (π und)).toNatClampNeg = π und := nI_clamp (by omega)
  have lsc := H.lt sa
  have ltp := H.lt ta
  have va : vp_in (nI sec) sz := vp_in_nI (by omega) (by omega)
  have vb : vp_in (nI top) sz := vp_in_nI (by omega) (by omega)
  have va2 : vp_in (nI (π sec)) 200 := vp_in_nI (by omega) (by decide)
  have vb2 : vp_in (nI (π top)) 200 := vp_in_nI (by omega) (by decide)
  have ea : (nI sec).toNatClampNeg = sec := nI_clamp (by omega)
  have eb : (nI top).toNatClampNeg = top := nI_clamp (by omega)
  have ea2 : (nI (π sec)).toNatClampNeg = π sec := nI_clamp (by omega)
  have eb2 : (nI (π top)).toNatClampNeg = π top := nI_clamp (by omega)
  by_cases hka : kc sec = 0
  · by_cases hkb : kc top = 0
    · obtain ⟨ma1, ma2⟩ := H.nm sa hka
      obtain ⟨mb1, mb2⟩ := H.nm ta hkb
      have vals : ∀ P : Int32 → Int32 → Prop, P (lc sec) (lc top) → wp_Memory_valueOf sz lc (nI sec) (fun r_5 => wp_Memory_valueOf sz lc (nI top) (fun r_6 => P r_5 r_6)) := fun P hP => by
        unfold wp_Memory_valueOf
        rw [ea, eb]
        exact ⟨va, vb, hP⟩
      by_cases hlt : lc top < lc sec
      · have n1 := H.nil (c := 2) (by omega)
        obtain ⟨c, kc1, lc1, rc1, tk1, km1, lm1, rm1, π1, h1, h2, h3, h4, h5, h6⟩ := PUSH H n1.1 ra shr g' eh dd ph (PL.atom (Or.inr n1.2.2)) ((ps.r lsz ua ks ub).r lsz ra ku rb) Ue pe
        rw [n1.2.1] at h6
        refine ⟨1, f, c, e, d, pc + 1, nI (pc + 1), kc1, lc1, rc1, tk1, km1, lm1, rm1, π1, h1, h3, (h2 e Ue).1, (h2 d Ud).1, fun x hx => ⟨(h2 x hx).1, (h2 x hx).2.1, PL.ext H h2 hx⟩, NC.ext H h2 Ud, by omega, by omega, by omega, fun _ => ⟨rfl, h4⟩, fun z => absurd rfl z, fun post hp => td _ (ud _ (sd _ (rd _ (word_op g2 g3 g4 (⟨fun z => absurd z (by decide), fun _ => ⟨fun z => absurd z (by decide), fun _ => ⟨fun z => absurd z (by decide), fun _ => ⟨fun z => absurd z (by decide), fun _ => ⟨fun z => absurd z (by decide), fun _ => ⟨fun z => absurd z (by decide), fun _ => ⟨fun z => absurd z (by decide), fun _ => ⟨fun z => absurd z (by decide), fun _ => ⟨fun z => absurd z (by decide), fun _ => ⟨fun z => absurd z (by decide), fun _ => ⟨fun z => absurd z (by decide), fun _ => ⟨fun z => absurd z (by decide), fun _ => ⟨fun z => absurd z (by decide), fun _ => ⟨fun z => absurd z (by decide), fun _ => ⟨fun _ => H.kindOf sa ⟨fun _ => H.kindOf ta ⟨fun _ => vals _ ⟨fun _ => ⟨fun _ => ⟨fun _ => h5 _ hp, fun z => absurd rfl z⟩, fun z => absurd hlt z⟩, fun z => absurd rfl z⟩, fun z => absurd hkb z⟩, fun z => absurd hka z⟩, fun z => absurd rfl z⟩⟩⟩⟩⟩⟩⟩⟩⟩⟩⟩⟩⟩⟩⟩))))), fun post hp => ⟨vs, vs, ⟨fun z => absurd z (by decide), fun _ => ⟨fun z => absurd z (by decide), fun _ => ⟨fun z => absurd z (by decide), fun _ => ⟨fun z => absurd z (by decide), fun _ => ⟨fun z => absurd z (by decide), fun _ => ⟨fun z => absurd z (by decide), fun _ => ⟨fun z => absurd z (by decide), fun _ => ⟨fun z => absurd z (by decide), fun _ => ⟨fun z => absurd z (by decide), fun _ => ?_⟩⟩⟩⟩⟩⟩⟩⟩⟩⟩⟩
        rw [es, um, eu, sm, tm, rm']
        refine ⟨vu, vu, ?_⟩
        unfold wp_Model_reckon
        rw [ea2, eb2]
        rw [ma2, mb2]
        refine ⟨fun z => absurd z (by decide), fun _ => ⟨va2, fun _ => ⟨vb2, fun _ => ⟨va2, vb2, fun _ => ⟨fun _ => h6 _ _ ?_, fun z => absurd hlt z⟩, fun z => absurd rfl z⟩, fun z => absurd mb1 z⟩, fun z => absurd ma1 z⟩⟩
        rw [used_up (by omega), nI_1, ← (h2 e Ue).2.1, ← (h2 d Ud).2.1]
        exact hp
      · have n1 := H.nil (c := 1) (by omega)
        obtain ⟨c, kc1, lc1, rc1, tk1, km1, lm1, rm1, π1, h1, h2, h3, h4, h5, h6⟩ := PUSH H n1.1 ra shr g' eh dd ph (PL.atom (Or.inr n1.2.2)) ((ps.r lsz ua ks ub).r lsz ra ku rb) Ue pe
        rw [n1.2.1] at h6
        refine ⟨1, f, c, e, d, pc + 1, nI (pc + 1), kc1, lc1, rc1, tk1, km1, lm1, rm1, π1, h1, h3, (h2 e Ue).1, (h2 d Ud).1, fun x hx => ⟨(h2 x hx).1, (h2 x hx).2.1, PL.ext H h2 hx⟩, NC.ext H h2 Ud, by omega, by omega, by omega, fun _ => ⟨rfl, h4⟩, fun z => absurd rfl z, fun post hp => td _ (ud _ (sd _ (rd _ (word_op g2 g3 g4 (⟨fun z => absurd z (by decide), fun _ => ⟨fun z => absurd z (by decide), fun _ => ⟨fun z => absurd z (by decide), fun _ => ⟨fun z => absurd z (by decide), fun _ => ⟨fun z => absurd z (by decide), fun _ => ⟨fun z => absurd z (by decide), fun _ => ⟨fun z => absurd z (by decide), fun _ => ⟨fun z => absurd z (by decide), fun _ => ⟨fun z => absurd z (by decide), fun _ => ⟨fun z => absurd z (by decide), fun _ => ⟨fun z => absurd z (by decide), fun _ => ⟨fun z => absurd z (by decide), fun _ => ⟨fun z => absurd z (by decide), fun _ => ⟨fun z => absurd z (by decide), fun _ => ⟨fun _ => H.kindOf sa ⟨fun _ => H.kindOf ta ⟨fun _ => vals _ ⟨fun _ => ⟨fun z => absurd z hlt, fun _ => ⟨fun z => absurd z (by decide), fun _ => h5 _ hp⟩⟩, fun z => absurd rfl z⟩, fun z => absurd hkb z⟩, fun z => absurd hka z⟩, fun z => absurd rfl z⟩⟩⟩⟩⟩⟩⟩⟩⟩⟩⟩⟩⟩⟩⟩))))), fun post hp => ⟨vs, vs, ⟨fun z => absurd z (by decide), fun _ => ⟨fun z => absurd z (by decide), fun _ => ⟨fun z => absurd z (by decide), fun _ => ⟨fun z => absurd z (by decide), fun _ => ⟨fun z => absurd z (by decide), fun _ => ⟨fun z => absurd z (by decide), fun _ => ⟨fun z => absurd z (by decide), fun _ => ⟨fun z => absurd z (by decide), fun _ => ⟨fun z => absurd z (by decide), fun _ => ?_⟩⟩⟩⟩⟩⟩⟩⟩⟩⟩⟩
        rw [es, um, eu, sm, tm, rm']
        refine ⟨vu, vu, ?_⟩
        unfold wp_Model_reckon
        rw [ea2, eb2]
        rw [ma2, mb2]
        refine ⟨fun z => absurd z (by decide), fun _ => ⟨va2, fun _ => ⟨vb2, fun _ => ⟨va2, vb2, fun _ => ⟨fun z => absurd z hlt, fun _ => h6 _ _ ?_⟩, fun z => absurd rfl z⟩, fun z => absurd mb1 z⟩, fun z => absurd ma1 z⟩⟩
        rw [used_up (by omega), nI_1, ← (h2 e Ue).2.1, ← (h2 d Ud).2.1]
        exact hp
    · obtain ⟨ma1, ma2⟩ := H.nm sa hka
      have mb := H.nnm ta hkb
      refine ⟨7, f + 1, s, e, d, pc, nI (pc + 1), kc, lc, rc, tk, km, lm, rm, π, H, Us, Ue, Ud, fun x hx => ⟨hx, rfl, fun z => z⟩, fun z => z, by omega, by omega, by omega, fun z => absurd z (by decide), fun _ => ⟨rfl, ps, fun z => absurd z (by decide)⟩, fun post hp => td _ (ud _ (sd _ (rd _ (word_op g2 g3 g4 (⟨fun z => absurd z (by decide), fun _ => ⟨fun z => absurd z (by decide), fun _ => ⟨fun z => absurd z (by decide), fun _ => ⟨fun z => absurd z (by decide), fun _ => ⟨fun z => absurd z (by decide), fun _ => ⟨fun z => absurd z (by decide), fun _ => ⟨fun z => absurd z (by decide), fun _ => ⟨fun z => absurd z (by decide), fun _ => ⟨fun z => absurd z (by decide), fun _ => ⟨fun z => absurd z (by decide), fun _ => ⟨fun z => absurd z (by decide), fun _ => ⟨fun z => absurd z (by decide), fun _ => ⟨fun z => absurd z (by decide), fun _ => ⟨fun z => absurd z (by decide), fun _ => ⟨fun _ => H.kindOf sa ⟨fun _ => H.kindOf ta ⟨fun z => absurd z hkb, fun _ => hp⟩, fun z => absurd hka z⟩, fun z => absurd rfl z⟩⟩⟩⟩⟩⟩⟩⟩⟩⟩⟩⟩⟩⟩⟩))))), fun post hp => ⟨vs, vs, ⟨fun z => absurd z (by decide), fun _ => ⟨fun z => absurd z (by decide), fun _ => ⟨fun z => absurd z (by decide), fun _ => ⟨fun z => absurd z (by decide), fun _ => ⟨fun z => absurd z (by decide), fun _ => ⟨fun z => absurd z (by decide), fun _ => ⟨fun z => absurd z (by decide), fun _ => ⟨fun z => absurd z (by decide), fun _ => ⟨fun z => absurd z (by decide), fun _ => ?_⟩⟩⟩⟩⟩⟩⟩⟩⟩⟩⟩
      rw [es, um, eu, sm, tm, rm']
      refine ⟨vu, vu, ?_⟩
      unfold wp_Model_reckon
      rw [ea2, eb2]
      exact ⟨fun z => absurd z (by decide), fun _ => ⟨va2, fun _ => ⟨vb2, fun z => absurd z mb, fun _ => hp⟩, fun z => absurd ma1 z⟩⟩
  · have ma := H.nnm sa hka
    refine ⟨7, f + 1, s, e, d, pc, nI (pc + 1), kc, lc, rc, tk, km, lm, rm, π, H, Us, Ue, Ud, fun x hx => ⟨hx, rfl, fun z => z⟩, fun z => z, by omega, by omega, by omega, fun z => absurd z (by decide), fun _ => ⟨rfl, ps, fun z => absurd z (by decide)⟩, fun post hp => td _ (ud _ (sd _ (rd _ (word_op g2 g3 g4 (⟨fun z => absurd z (by decide), fun _ => ⟨fun z => absurd z (by decide), fun _ => ⟨fun z => absurd z (by decide), fun _ => ⟨fun z => absurd z (by decide), fun _ => ⟨fun z => absurd z (by decide), fun _ => ⟨fun z => absurd z (by decide), fun _ => ⟨fun z => absurd z (by decide), fun _ => ⟨fun z => absurd z (by decide), fun _ => ⟨fun z => absurd z (by decide), fun _ => ⟨fun z => absurd z (by decide), fun _ => ⟨fun z => absurd z (by decide), fun _ => ⟨fun z => absurd z (by decide), fun _ => ⟨fun z => absurd z (by decide), fun _ => ⟨fun z => absurd z (by decide), fun _ => ⟨fun _ => H.kindOf sa ⟨fun z => absurd z hka, fun _ => hp⟩, fun z => absurd rfl z⟩⟩⟩⟩⟩⟩⟩⟩⟩⟩⟩⟩⟩⟩⟩))))), fun post hp => ⟨vs, vs, ⟨fun z => absurd z (by decide), fun _ => ⟨fun z => absurd z (by decide), fun _ => ⟨fun z => absurd z (by decide), fun _ => ⟨fun z => absurd z (by decide), fun _ => ⟨fun z => absurd z (by decide), fun _ => ⟨fun z => absurd z (by decide), fun _ => ⟨fun z => absurd z (by decide), fun _ => ⟨fun z => absurd z (by decide), fun _ => ⟨fun z => absurd z (by decide), fun _ => ?_⟩⟩⟩⟩⟩⟩⟩⟩⟩⟩⟩
    rw [es, um, eu, sm, tm, rm']
    refine ⟨vu, vu, ?_⟩
    unfold wp_Model_reckon
    rw [ea2, eb2]
    exact ⟨fun z => absurd z (by decide), fun _ => ⟨va2, fun z => absurd z ma, fun _ => hp⟩⟩
theorem x_add {ρ : Nat → Prop} {h q kk : Nat} {js : List Nat} {fn rap : Bool} (H : HP sz (f + 2) fre kc lc rc tk km lm rm π G) (Us : US sz (f + 2) fre s) (Ue : US sz (f + 2) fre e) (Ud : US sz (f + 2) fre d) (g : STEP cd n nco (GOOD cd n nco) pc h q js fn rap) (hcd : cd pc = (15, x, y)) (hn : n ≤ 512) (sh : SH (US sz (f + 2) fre) kc rc s h) (eh : EH (US sz (f + 2) fre) ρ kc rc e q) (dd : DD cd n nco (US sz (f + 2) fre) ρ kc lc rc kk d js fn) (ph : PH (US sz (f + 2) fre) kc lc rc) (ps : PL kc lc rc s) (pe : PL kc lc rc e) : EXR cd n nco sz (f + 2) fre kc lc rc tk km lm rm cons cn π G s e d pc 15 x y := by
  unfold STEP at g
  rw [hcd] at g
  simp only at g
  obtain ⟨g1, g2, g3, g4, t0, t1, t2, t3, t4, t5, t6, t7, t8, t9, t12, t20⟩ := g
  have lsz := H.2.1
  have lf := H.2.2.1
  obtain ⟨lt1, lt2, lt3⟩ := H.lt Us
  have vs : vp_in (nI (π s)) 200 := vp_in_nI (by omega) (by decide)
  have es : (nI (π s)).toNatClampNeg = π s := nI_clamp (by omega)
  obtain ⟨hh, g'⟩ := t12 (by decide)
  obtain ⟨h0, rfl⟩ : ∃ h0, h = h0 + 1 + 1 := ⟨h - 2, by omega⟩
  obtain ⟨top, und, ta, ua, ks, tb, ub, tm, um, shu, td, ud⟩ := SH.top H Us sh
  obtain ⟨sec, rst, sa, ra, ku, sb, rb, sm, rm', shr, sd, rd⟩ := SH.top H ua shu
  have lu := H.lt ua
  have vu : vp_in (nI (π und)) 200 := vp_in_nI (by omega) (by decide)
  have eu : (nI (π und)).toNatClampNeg = π und := nI_clamp (by omega)
  have lsc := H.lt sa
  have ltp := H.lt ta
  have va : vp_in (nI sec) sz := vp_in_nI (by omega) (by omega)
  have vb : vp_in (nI top) sz := vp_in_nI (by omega) (by omega)
  have va2 : vp_in (nI (π sec)) 200 := vp_in_nI (by omega) (by decide)
  have vb2 : vp_in (nI (π top)) 200 := vp_in_nI (by omega) (by decide)
  have ea : (nI sec).toNatClampNeg = sec := nI_clamp (by omega)
  have eb : (nI top).toNatClampNeg = top := nI_clamp (by omega)
  have ea2 : (nI (π sec)).toNatClampNeg = π sec := nI_clamp (by omega)
  have eb2 : (nI (π top)).toNatClampNeg = π top := nI_clamp (by omega)
  by_cases hka : kc sec = 0
  · by_cases hkb : kc top = 0
    · obtain ⟨ma1, ma2⟩ := H.nm sa hka
      obtain ⟨mb1, mb2⟩ := H.nm ta hkb
      have vals : ∀ P : Int32 → Int32 → Prop, P (lc sec) (lc top) → wp_Memory_valueOf sz lc (nI sec) (fun r_5 => wp_Memory_valueOf sz lc (nI top) (fun r_6 => P r_5 r_6)) := fun P hP => by
        unfold wp_Memory_valueOf
        rw [ea, eb]
        exact ⟨va, vb, hP⟩
      obtain ⟨c, kc1, lc1, rc1, tk1, km1, lm1, rm1, π1, h1, h2, h3, h4, h5, h6, h7, h8, h9⟩ := H.num (lc sec + lc top)
      have st : STAY (US sz (f + 2) fre) (US sz (f + 1) fre) ρ ρ kc lc rc kc1 lc1 rc1 := STAY.ext h2
      obtain ⟨c2, kc2, lc2, rc2, tk2, km2, lm2, rm2, π2, i1, i2, i3, i4, i5, i6⟩ := PUSH h1 h3 (h2 rst ra).1 (shr.to st) g' (eh.to st) (dd.to st) (PH.oth H h2 h3 h4 (Or.inl h5) ph) (PL.atom (Or.inl h5)) (PL.ext H h2 ra ((ps.r lsz ua ks ub).r lsz ra ku rb)) (h2 e Ue).1 (PL.ext H h2 Ue pe)
      have hE := h2.trans i2
      have calc_ : ∀ P : Int32 → Prop, P (lc sec + lc top) → wp_Machine_calculate (nI 15) (lc sec) (lc top) P := fun P hP => ⟨fun _ => hP, fun z => absurd rfl z⟩
      refine ⟨1, f, c2, e, d, pc + 1, nI (pc + 1), kc2, lc2, rc2, tk2, km2, lm2, rm2, π2, i1, i3, (hE e Ue).1, (hE d Ud).1, fun x hx => ⟨(hE x hx).1, (hE x hx).2.1, PL.ext H hE hx⟩, NC.ext H hE Ud, by omega, by omega, by omega, fun _ => ⟨rfl, i4⟩, fun z => absurd rfl z, fun post hp => td _ (ud _ (sd _ (rd _ (word_op g2 g3 g4 (⟨fun z => absurd z (by decide), fun _ => ⟨fun z => absurd z (by decide), fun _ => ⟨fun z => absurd z (by decide), fun _ => ⟨fun z => absurd z (by decide), fun _ => ⟨fun z => absurd z (by decide), fun _ => ⟨fun z => absurd z (by decide), fun _ => ⟨fun z => absurd z (by decide), fun _ => ⟨fun z => absurd z (by decide), fun _ => ⟨fun z => absurd z (by decide), fun _ => ⟨fun z => absurd z (by decide), fun _ => ⟨fun z => absurd z (by decide), fun _ => ⟨fun z => absurd z (by decide), fun _ => ⟨fun z => absurd z (by decide), fun _ => ⟨fun z => absurd z (by decide), fun _ => ⟨fun z => absurd z (by decide), fun _ => ⟨fun _ => H.kindOf sa ⟨fun _ => H.kindOf ta ⟨fun _ => vals _ ⟨fun z => absurd z (by decide), fun _ => ⟨fun z0 => ⟨fun z => absurd z (by decide), fun _ => ⟨fun z => absurd z (by decide), fun _ => calc_ _ (h8 _ (i5 _ hp))⟩⟩, fun _ => calc_ _ (h8 _ (i5 _ hp))⟩⟩, fun z => absurd hkb z⟩, fun z => absurd hka z⟩, fun z => absurd rfl z⟩⟩⟩⟩⟩⟩⟩⟩⟩⟩⟩⟩⟩⟩⟩⟩))))), fun post hp => ⟨vs, vs, ⟨fun z => absurd z (by decide), fun _ => ⟨fun z => absurd z (by decide), fun _ => ⟨fun z => absurd z (by decide), fun _ => ⟨fun z => absurd z (by decide), fun _ => ⟨fun z => absurd z (by decide), fun _ => ⟨fun z => absurd z (by decide), fun _ => ⟨fun z => absurd z (by decide), fun _ => ⟨fun z => absurd z (by decide), fun _ => ⟨fun z => absurd z (by decide), fun _ => ?_⟩⟩⟩⟩⟩⟩⟩⟩⟩⟩⟩
      rw [es, um, eu, sm, tm, rm']
      refine ⟨vu, vu, ?_⟩
      unfold wp_Model_reckon
      rw [ea2, eb2]
      rw [ma2, mb2]
      have fin : wp_Model_reckon_J150 (nI sz) (fun r_51 used_52 i_pc_53 i_s_54 km_55 lm_56 rm_57 tk_58 => post r_51 used_52 i_pc_53 i_s_54 (nI (π e)) (nI (π d)) km_55 lm_56 rm_57 tk_58) (nI 15) (nI (π rst)) (lc sec) (lc top) (nI (sz - (f + 2))) (nI pc) (nI (π s)) km lm rm tk := by
        refine ⟨fun _ => h9 _ _ ?_, fun z => absurd rfl z⟩
        rw [used_up (by omega), ← (h2 rst ra).2.1]
        refine i6 _ _ ?_
        rw [used_up (by omega), nI_1, ← (hE e Ue).2.1, ← (hE d Ud).2.1]
        exact hp
      exact ⟨fun z => absurd z (by decide), fun _ => ⟨va2, fun _ => ⟨vb2, fun _ => ⟨va2, vb2, fun z => absurd z (by decide), fun _ => ⟨fun _ => fin, fun z => absurd (by decide) z⟩⟩, fun z => absurd mb1 z⟩, fun z => absurd ma1 z⟩⟩
    · obtain ⟨ma1, ma2⟩ := H.nm sa hka
      have mb := H.nnm ta hkb
      refine ⟨7, f + 2, s, e, d, pc, nI (pc + 1), kc, lc, rc, tk, km, lm, rm, π, H, Us, Ue, Ud, fun x hx => ⟨hx, rfl, fun z => z⟩, fun z => z, by omega, by omega, by omega, fun z => absurd z (by decide), fun _ => ⟨rfl, ps, fun z => absurd z (by decide)⟩, fun post hp => td _ (ud _ (sd _ (rd _ (word_op g2 g3 g4 (⟨fun z => absurd z (by decide), fun _ => ⟨fun z => absurd z (by decide), fun _ => ⟨fun z => absurd z (by decide), fun _ => ⟨fun z => absurd z (by decide), fun _ => ⟨fun z => absurd z (by decide), fun _ => ⟨fun z => absurd z (by decide), fun _ => ⟨fun z => absurd z (by decide), fun _ => ⟨fun z => absurd z (by decide), fun _ => ⟨fun z => absurd z (by decide), fun _ => ⟨fun z => absurd z (by decide), fun _ => ⟨fun z => absurd z (by decide), fun _ => ⟨fun z => absurd z (by decide), fun _ => ⟨fun z => absurd z (by decide), fun _ => ⟨fun z => absurd z (by decide), fun _ => ⟨fun z => absurd z (by decide), fun _ => ⟨fun _ => H.kindOf sa ⟨fun _ => H.kindOf ta ⟨fun z => absurd z hkb, fun _ => hp⟩, fun z => absurd hka z⟩, fun z => absurd rfl z⟩⟩⟩⟩⟩⟩⟩⟩⟩⟩⟩⟩⟩⟩⟩⟩))))), fun post hp => ⟨vs, vs, ⟨fun z => absurd z (by decide), fun _ => ⟨fun z => absurd z (by decide), fun _ => ⟨fun z => absurd z (by decide), fun _ => ⟨fun z => absurd z (by decide), fun _ => ⟨fun z => absurd z (by decide), fun _ => ⟨fun z => absurd z (by decide), fun _ => ⟨fun z => absurd z (by decide), fun _ => ⟨fun z => absurd z (by decide), fun _ => ⟨fun z => absurd z (by decide), fun _ => ?_⟩⟩⟩⟩⟩⟩⟩⟩⟩⟩⟩
      rw [es, um, eu, sm, tm, rm']
      refine ⟨vu, vu, ?_⟩
      unfold wp_Model_reckon
      rw [ea2, eb2]
      exact ⟨fun z => absurd z (by decide), fun _ => ⟨va2, fun _ => ⟨vb2, fun z => absurd z mb, fun _ => hp⟩, fun z => absurd ma1 z⟩⟩
  · have ma := H.nnm sa hka
    refine ⟨7, f + 2, s, e, d, pc, nI (pc + 1), kc, lc, rc, tk, km, lm, rm, π, H, Us, Ue, Ud, fun x hx => ⟨hx, rfl, fun z => z⟩, fun z => z, by omega, by omega, by omega, fun z => absurd z (by decide), fun _ => ⟨rfl, ps, fun z => absurd z (by decide)⟩, fun post hp => td _ (ud _ (sd _ (rd _ (word_op g2 g3 g4 (⟨fun z => absurd z (by decide), fun _ => ⟨fun z => absurd z (by decide), fun _ => ⟨fun z => absurd z (by decide), fun _ => ⟨fun z => absurd z (by decide), fun _ => ⟨fun z => absurd z (by decide), fun _ => ⟨fun z => absurd z (by decide), fun _ => ⟨fun z => absurd z (by decide), fun _ => ⟨fun z => absurd z (by decide), fun _ => ⟨fun z => absurd z (by decide), fun _ => ⟨fun z => absurd z (by decide), fun _ => ⟨fun z => absurd z (by decide), fun _ => ⟨fun z => absurd z (by decide), fun _ => ⟨fun z => absurd z (by decide), fun _ => ⟨fun z => absurd z (by decide), fun _ => ⟨fun z => absurd z (by decide), fun _ => ⟨fun _ => H.kindOf sa ⟨fun z => absurd z hka, fun _ => hp⟩, fun z => absurd rfl z⟩⟩⟩⟩⟩⟩⟩⟩⟩⟩⟩⟩⟩⟩⟩⟩))))), fun post hp => ⟨vs, vs, ⟨fun z => absurd z (by decide), fun _ => ⟨fun z => absurd z (by decide), fun _ => ⟨fun z => absurd z (by decide), fun _ => ⟨fun z => absurd z (by decide), fun _ => ⟨fun z => absurd z (by decide), fun _ => ⟨fun z => absurd z (by decide), fun _ => ⟨fun z => absurd z (by decide), fun _ => ⟨fun z => absurd z (by decide), fun _ => ⟨fun z => absurd z (by decide), fun _ => ?_⟩⟩⟩⟩⟩⟩⟩⟩⟩⟩⟩
    rw [es, um, eu, sm, tm, rm']
    refine ⟨vu, vu, ?_⟩
    unfold wp_Model_reckon
    rw [ea2, eb2]
    exact ⟨fun z => absurd z (by decide), fun _ => ⟨va2, fun z => absurd z ma, fun _ => hp⟩⟩
theorem x_sub {ρ : Nat → Prop} {h q kk : Nat} {js : List Nat} {fn rap : Bool} (H : HP sz (f + 2) fre kc lc rc tk km lm rm π G) (Us : US sz (f + 2) fre s) (Ue : US sz (f + 2) fre e) (Ud : US sz (f + 2) fre d) (g : STEP cd n nco (GOOD cd n nco) pc h q js fn rap) (hcd : cd pc = (16, x, y)) (hn : n ≤ 512) (sh : SH (US sz (f + 2) fre) kc rc s h) (eh : EH (US sz (f + 2) fre) ρ kc rc e q) (dd : DD cd n nco (US sz (f + 2) fre) ρ kc lc rc kk d js fn) (ph : PH (US sz (f + 2) fre) kc lc rc) (ps : PL kc lc rc s) (pe : PL kc lc rc e) : EXR cd n nco sz (f + 2) fre kc lc rc tk km lm rm cons cn π G s e d pc 16 x y := by
  unfold STEP at g
  rw [hcd] at g
  simp only at g
  obtain ⟨g1, g2, g3, g4, t0, t1, t2, t3, t4, t5, t6, t7, t8, t9, t12, t20⟩ := g
  have lsz := H.2.1
  have lf := H.2.2.1
  obtain ⟨lt1, lt2, lt3⟩ := H.lt Us
  have vs : vp_in (nI (π s)) 200 := vp_in_nI (by omega) (by decide)
  have es : (nI (π s)).toNatClampNeg = π s := nI_clamp (by omega)
  obtain ⟨hh, g'⟩ := t12 (by decide)
  obtain ⟨h0, rfl⟩ : ∃ h0, h = h0 + 1 + 1 := ⟨h - 2, by omega⟩
  obtain ⟨top, und, ta, ua, ks, tb, ub, tm, um, shu, td, ud⟩ := SH.top H Us sh
  obtain ⟨sec, rst, sa, ra, ku, sb, rb, sm, rm', shr, sd, rd⟩ := SH.top H ua shu
  have lu := H.lt ua
  have vu : vp_in (nI (π und)) 200 := vp_in_nI (by omega) (by decide)
  have eu : (nI (π und)).toNatClampNeg = π und := nI_clamp (by omega)
  have lsc := H.lt sa
  have ltp := H.lt ta
  have va : vp_in (nI sec) sz := vp_in_nI (by omega) (by omega)
  have vb : vp_in (nI top) sz := vp_in_nI (by omega) (by omega)
  have va2 : vp_in (nI (π sec)) 200 := vp_in_nI (by omega) (by decide)
  have vb2 : vp_in (nI (π top)) 200 := vp_in_nI (by omega) (by decide)
  have ea : (nI sec).toNatClampNeg = sec := nI_clamp (by omega)
  have eb : (nI top).toNatClampNeg = top := nI_clamp (by omega)
  have ea2 : (nI (π sec)).toNatClampNeg = π sec := nI_clamp (by omega)
  have eb2 : (nI (π top)).toNatClampNeg = π top := nI_clamp (by omega)
  by_cases hka : kc sec = 0
  · by_cases hkb : kc top = 0
    · obtain ⟨ma1, ma2⟩ := H.nm sa hka
      obtain ⟨mb1, mb2⟩ := H.nm ta hkb
      have vals : ∀ P : Int32 → Int32 → Prop, P (lc sec) (lc top) → wp_Memory_valueOf sz lc (nI sec) (fun r_5 => wp_Memory_valueOf sz lc (nI top) (fun r_6 => P r_5 r_6)) := fun P hP => by
        unfold wp_Memory_valueOf
        rw [ea, eb]
        exact ⟨va, vb, hP⟩
      obtain ⟨c, kc1, lc1, rc1, tk1, km1, lm1, rm1, π1, h1, h2, h3, h4, h5, h6, h7, h8, h9⟩ := H.num (lc sec - lc top)
      have st : STAY (US sz (f + 2) fre) (US sz (f + 1) fre) ρ ρ kc lc rc kc1 lc1 rc1 := STAY.ext h2
      obtain ⟨c2, kc2, lc2, rc2, tk2, km2, lm2, rm2, π2, i1, i2, i3, i4, i5, i6⟩ := PUSH h1 h3 (h2 rst ra).1 (shr.to st) g' (eh.to st) (dd.to st) (PH.oth H h2 h3 h4 (Or.inl h5) ph) (PL.atom (Or.inl h5)) (PL.ext H h2 ra ((ps.r lsz ua ks ub).r lsz ra ku rb)) (h2 e Ue).1 (PL.ext H h2 Ue pe)
      have hE := h2.trans i2
      have calc_ : ∀ P : Int32 → Prop, P (lc sec - lc top) → wp_Machine_calculate (nI 16) (lc sec) (lc top) P := fun P hP => ⟨fun z => absurd z (by decide), fun _ => ⟨fun _ => hP, fun z => absurd rfl z⟩⟩
      refine ⟨1, f, c2, e, d, pc + 1, nI (pc + 1), kc2, lc2, rc2, tk2, km2, lm2, rm2, π2, i1, i3, (hE e Ue).1, (hE d Ud).1, fun x hx => ⟨(hE x hx).1, (hE x hx).2.1, PL.ext H hE hx⟩, NC.ext H hE Ud, by omega, by omega, by omega, fun _ => ⟨rfl, i4⟩, fun z => absurd rfl z, fun post hp => td _ (ud _ (sd _ (rd _ (word_op g2 g3 g4 (⟨fun z => absurd z (by decide), fun _ => ⟨fun z => absurd z (by decide), fun _ => ⟨fun z => absurd z (by decide), fun _ => ⟨fun z => absurd z (by decide), fun _ => ⟨fun z => absurd z (by decide), fun _ => ⟨fun z => absurd z (by decide), fun _ => ⟨fun z => absurd z (by decide), fun _ => ⟨fun z => absurd z (by decide), fun _ => ⟨fun z => absurd z (by decide), fun _ => ⟨fun z => absurd z (by decide), fun _ => ⟨fun z => absurd z (by decide), fun _ => ⟨fun z => absurd z (by decide), fun _ => ⟨fun z => absurd z (by decide), fun _ => ⟨fun z => absurd z (by decide), fun _ => ⟨fun z => absurd z (by decide), fun _ => ⟨fun z => absurd z (by decide), fun _ => ⟨fun _ => H.kindOf sa ⟨fun _ => H.kindOf ta ⟨fun _ => vals _ ⟨fun z => absurd z (by decide), fun _ => ⟨fun z0 => ⟨fun z => absurd z (by decide), fun _ => ⟨fun z => absurd z (by decide), fun _ => calc_ _ (h8 _ (i5 _ hp))⟩⟩, fun _ => calc_ _ (h8 _ (i5 _ hp))⟩⟩, fun z => absurd hkb z⟩, fun z => absurd hka z⟩, fun z => absurd rfl z⟩⟩⟩⟩⟩⟩⟩⟩⟩⟩⟩⟩⟩⟩⟩⟩⟩))))), fun post hp => ⟨vs, vs, ⟨fun z => absurd z (by decide), fun _ => ⟨fun z => absurd z (by decide), fun _ => ⟨fun z => absurd z (by decide), fun _ => ⟨fun z => absurd z (by decide), fun _ => ⟨fun z => absurd z (by decide), fun _ => ⟨fun z => absurd z (by decide), fun _ => ⟨fun z => absurd z (by decide), fun _ => ⟨fun z => absurd z (by decide), fun _ => ⟨fun z => absurd z (by decide), fun _ => ?_⟩⟩⟩⟩⟩⟩⟩⟩⟩⟩⟩
      rw [es, um, eu, sm, tm, rm']
      refine ⟨vu, vu, ?_⟩
      unfold wp_Model_reckon
      rw [ea2, eb2]
      rw [ma2, mb2]
      have fin : wp_Model_reckon_J150 (nI sz) (fun r_51 used_52 i_pc_53 i_s_54 km_55 lm_56 rm_57 tk_58 => post r_51 used_52 i_pc_53 i_s_54 (nI (π e)) (nI (π d)) km_55 lm_56 rm_57 tk_58) (nI 16) (nI (π rst)) (lc sec) (lc top) (nI (sz - (f + 2))) (nI pc) (nI (π s)) km lm rm tk := by
        refine ⟨fun z => absurd z (by decide), fun _ => ⟨fun _ => h9 _ _ ?_, fun z => absurd rfl z⟩⟩
        rw [used_up (by omega), ← (h2 rst ra).2.1]
        refine i6 _ _ ?_
        rw [used_up (by omega), nI_1, ← (hE e Ue).2.1, ← (hE d Ud).2.1]
        exact hp
      exact ⟨fun z => absurd z (by decide), fun _ => ⟨va2, fun _ => ⟨vb2, fun _ => ⟨va2, vb2, fun z => absurd z (by decide), fun _ => ⟨fun _ => fin, fun z => absurd (by decide) z⟩⟩, fun z => absurd mb1 z⟩, fun z => absurd ma1 z⟩⟩
    · obtain ⟨ma1, ma2⟩ := H.nm sa hka
      have mb := H.nnm ta hkb
      refine ⟨7, f + 2, s, e, d, pc, nI (pc + 1), kc, lc, rc, tk, km, lm, rm, π, H, Us, Ue, Ud, fun x hx => ⟨hx, rfl, fun z => z⟩, fun z => z, by omega, by omega, by omega, fun z => absurd z (by decide), fun _ => ⟨rfl, ps, fun z => absurd z (by decide)⟩, fun post hp => td _ (ud _ (sd _ (rd _ (word_op g2 g3 g4 (⟨fun z => absurd z (by decide), fun _ => ⟨fun z => absurd z (by decide), fun _ => ⟨fun z => absurd z (by decide), fun _ => ⟨fun z => absurd z (by decide), fun _ => ⟨fun z => absurd z (by decide), fun _ => ⟨fun z => absurd z (by decide), fun _ => ⟨fun z => absurd z (by decide), fun _ => ⟨fun z => absurd z (by decide), fun _ => ⟨fun z => absurd z (by decide), fun _ => ⟨fun z => absurd z (by decide), fun _ => ⟨fun z => absurd z (by decide), fun _ => ⟨fun z => absurd z (by decide), fun _ => ⟨fun z => absurd z (by decide), fun _ => ⟨fun z => absurd z (by decide), fun _ => ⟨fun z => absurd z (by decide), fun _ => ⟨fun z => absurd z (by decide), fun _ => ⟨fun _ => H.kindOf sa ⟨fun _ => H.kindOf ta ⟨fun z => absurd z hkb, fun _ => hp⟩, fun z => absurd hka z⟩, fun z => absurd rfl z⟩⟩⟩⟩⟩⟩⟩⟩⟩⟩⟩⟩⟩⟩⟩⟩⟩))))), fun post hp => ⟨vs, vs, ⟨fun z => absurd z (by decide), fun _ => ⟨fun z => absurd z (by decide), fun _ => ⟨fun z => absurd z (by decide), fun _ => ⟨fun z => absurd z (by decide), fun _ => ⟨fun z => absurd z (by decide), fun _ => ⟨fun z => absurd z (by decide), fun _ => ⟨fun z => absurd z (by decide), fun _ => ⟨fun z => absurd z (by decide), fun _ => ⟨fun z => absurd z (by decide), fun _ => ?_⟩⟩⟩⟩⟩⟩⟩⟩⟩⟩⟩
      rw [es, um, eu, sm, tm, rm']
      refine ⟨vu, vu, ?_⟩
      unfold wp_Model_reckon
      rw [ea2, eb2]
      exact ⟨fun z => absurd z (by decide), fun _ => ⟨va2, fun _ => ⟨vb2, fun z => absurd z mb, fun _ => hp⟩, fun z => absurd ma1 z⟩⟩
  · have ma := H.nnm sa hka
    refine ⟨7, f + 2, s, e, d, pc, nI (pc + 1), kc, lc, rc, tk, km, lm, rm, π, H, Us, Ue, Ud, fun x hx => ⟨hx, rfl, fun z => z⟩, fun z => z, by omega, by omega, by omega, fun z => absurd z (by decide), fun _ => ⟨rfl, ps, fun z => absurd z (by decide)⟩, fun post hp => td _ (ud _ (sd _ (rd _ (word_op g2 g3 g4 (⟨fun z => absurd z (by decide), fun _ => ⟨fun z => absurd z (by decide), fun _ => ⟨fun z => absurd z (by decide), fun _ => ⟨fun z => absurd z (by decide), fun _ => ⟨fun z => absurd z (by decide), fun _ => ⟨fun z => absurd z (by decide), fun _ => ⟨fun z => absurd z (by decide), fun _ => ⟨fun z => absurd z (by decide), fun _ => ⟨fun z => absurd z (by decide), fun _ => ⟨fun z => absurd z (by decide), fun _ => ⟨fun z => absurd z (by decide), fun _ => ⟨fun z => absurd z (by decide), fun _ => ⟨fun z => absurd z (by decide), fun _ => ⟨fun z => absurd z (by decide), fun _ => ⟨fun z => absurd z (by decide), fun _ => ⟨fun z => absurd z (by decide), fun _ => ⟨fun _ => H.kindOf sa ⟨fun z => absurd z hka, fun _ => hp⟩, fun z => absurd rfl z⟩⟩⟩⟩⟩⟩⟩⟩⟩⟩⟩⟩⟩⟩⟩⟩⟩))))), fun post hp => ⟨vs, vs, ⟨fun z => absurd z (by decide), fun _ => ⟨fun z => absurd z (by decide), fun _ => ⟨fun z => absurd z (by decide), fun _ => ⟨fun z => absurd z (by decide), fun _ => ⟨fun z => absurd z (by decide), fun _ => ⟨fun z => absurd z (by decide), fun _ => ⟨fun z => absurd z (by decide), fun _ => ⟨fun z => absurd z (by decide), fun _ => ⟨fun z => absurd z (by decide), fun _ => ?_⟩⟩⟩⟩⟩⟩⟩⟩⟩⟩⟩
    rw [es, um, eu, sm, tm, rm']
    refine ⟨vu, vu, ?_⟩
    unfold wp_Model_reckon
    rw [ea2, eb2]
    exact ⟨fun z => absurd z (by decide), fun _ => ⟨va2, fun z => absurd z ma, fun _ => hp⟩⟩
theorem x_mul {ρ : Nat → Prop} {h q kk : Nat} {js : List Nat} {fn rap : Bool} (H : HP sz (f + 2) fre kc lc rc tk km lm rm π G) (Us : US sz (f + 2) fre s) (Ue : US sz (f + 2) fre e) (Ud : US sz (f + 2) fre d) (g : STEP cd n nco (GOOD cd n nco) pc h q js fn rap) (hcd : cd pc = (17, x, y)) (hn : n ≤ 512) (sh : SH (US sz (f + 2) fre) kc rc s h) (eh : EH (US sz (f + 2) fre) ρ kc rc e q) (dd : DD cd n nco (US sz (f + 2) fre) ρ kc lc rc kk d js fn) (ph : PH (US sz (f + 2) fre) kc lc rc) (ps : PL kc lc rc s) (pe : PL kc lc rc e) : EXR cd n nco sz (f + 2) fre kc lc rc tk km lm rm cons cn π G s e d pc 17 x y := by
  unfold STEP at g
  rw [hcd] at g
  simp only at g
  obtain ⟨g1, g2, g3, g4, t0, t1, t2, t3, t4, t5, t6, t7, t8, t9, t12, t20⟩ := g
  have lsz := H.2.1
  have lf := H.2.2.1
  obtain ⟨lt1, lt2, lt3⟩ := H.lt Us
  have vs : vp_in (nI (π s)) 200 := vp_in_nI (by omega) (by decide)
  have es : (nI (π s)).toNatClampNeg = π s := nI_clamp (by omega)
  obtain ⟨hh, g'⟩ := t12 (by decide)
  obtain ⟨h0, rfl⟩ : ∃ h0, h = h0 + 1 + 1 := ⟨h - 2, by omega⟩
  obtain ⟨top, und, ta, ua, ks, tb, ub, tm, um, shu, td, ud⟩ := SH.top H Us sh
  obtain ⟨sec, rst, sa, ra, ku, sb, rb, sm, rm', shr, sd, rd⟩ := SH.top H ua shu
  have lu := H.lt ua
  have vu : vp_in (nI (π und)) 200 := vp_in_nI (by omega) (by decide)
  have eu : (nI (π und)).toNatClampNeg = π und := nI_clamp (by omega)
  have lsc := H.lt sa
  have ltp := H.lt ta
  have va : vp_in (nI sec) sz := vp_in_nI (by omega) (by omega)
  have vb : vp_in (nI top) sz := vp_in_nI (by omega) (by omega)
  have va2 : vp_in (nI (π sec)) 200 := vp_in_nI (by omega) (by decide)
  have vb2 : vp_in (nI (π top)) 200 := vp_in_nI (by omega) (by decide)
  have ea : (nI sec).toNatClampNeg = sec := nI_clamp (by omega)
  have eb : (nI top).toNatClampNeg = top := nI_clamp (by omega)
  have ea2 : (nI (π sec)).toNatClampNeg = π sec := nI_clamp (by omega)
  have eb2 : (nI (π top)).toNatClampNeg = π top := nI_clamp (by omega)
  by_cases hka : kc sec = 0
  · by_cases hkb : kc top = 0
    · obtain ⟨ma1, ma2⟩ := H.nm sa hka
      obtain ⟨mb1, mb2⟩ := H.nm ta hkb
      have vals : ∀ P : Int32 → Int32 → Prop, P (lc sec) (lc top) → wp_Memory_valueOf sz lc (nI sec) (fun r_5 => wp_Memory_valueOf sz lc (nI top) (fun r_6 => P r_5 r_6)) := fun P hP => by
        unfold wp_Memory_valueOf
        rw [ea, eb]
        exact ⟨va, vb, hP⟩
      obtain ⟨c, kc1, lc1, rc1, tk1, km1, lm1, rm1, π1, h1, h2, h3, h4, h5, h6, h7, h8, h9⟩ := H.num (lc sec * lc top)
      have st : STAY (US sz (f + 2) fre) (US sz (f + 1) fre) ρ ρ kc lc rc kc1 lc1 rc1 := STAY.ext h2
      obtain ⟨c2, kc2, lc2, rc2, tk2, km2, lm2, rm2, π2, i1, i2, i3, i4, i5, i6⟩ := PUSH h1 h3 (h2 rst ra).1 (shr.to st) g' (eh.to st) (dd.to st) (PH.oth H h2 h3 h4 (Or.inl h5) ph) (PL.atom (Or.inl h5)) (PL.ext H h2 ra ((ps.r lsz ua ks ub).r lsz ra ku rb)) (h2 e Ue).1 (PL.ext H h2 Ue pe)
      have hE := h2.trans i2
      have calc_ : ∀ P : Int32 → Prop, P (lc sec * lc top) → wp_Machine_calculate (nI 17) (lc sec) (lc top) P := fun P hP => ⟨fun z => absurd z (by decide), fun _ => ⟨fun z => absurd z (by decide), fun _ => ⟨fun _ => hP, fun z => absurd rfl z⟩⟩⟩
      refine ⟨1, f, c2, e, d, pc + 1, nI (pc + 1), kc2, lc2, rc2, tk2, km2, lm2, rm2, π2, i1, i3, (hE e Ue).1, (hE d Ud).1, fun x hx => ⟨(hE x hx).1, (hE x hx).2.1, PL.ext H hE hx⟩, NC.ext H hE Ud, by omega, by omega, by omega, fun _ => ⟨rfl, i4⟩, fun z => absurd rfl z, fun post hp => td _ (ud _ (sd _ (rd _ (word_op g2 g3 g4 (⟨fun z => absurd z (by decide), fun _ => ⟨fun z => absurd z (by decide), fun _ => ⟨fun z => absurd z (by decide), fun _ => ⟨fun z => absurd z (by decide), fun _ => ⟨fun z => absurd z (by decide), fun _ => ⟨fun z => absurd z (by decide), fun _ => ⟨fun z => absurd z (by decide), fun _ => ⟨fun z => absurd z (by decide), fun _ => ⟨fun z => absurd z (by decide), fun _ => ⟨fun z => absurd z (by decide), fun _ => ⟨fun z => absurd z (by decide), fun _ => ⟨fun z => absurd z (by decide), fun _ => ⟨fun z => absurd z (by decide), fun _ => ⟨fun z => absurd z (by decide), fun _ => ⟨fun z => absurd z (by decide), fun _ => ⟨fun z => absurd z (by decide), fun _ => ⟨fun z => absurd z (by decide), fun _ => ⟨fun _ => H.kindOf sa ⟨fun _ => H.kindOf ta ⟨fun _ => vals _ ⟨fun z => absurd z (by decide), fun _ => ⟨fun z0 => ⟨fun z => absurd z (by decide), fun _ => ⟨fun z => absurd z (by decide), fun _ => calc_ _ (h8 _ (i5 _ hp))⟩⟩, fun _ => calc_ _ (h8 _ (i5 _ hp))⟩⟩, fun z => absurd hkb z⟩, fun z => absurd hka z⟩, fun z => absurd rfl z⟩⟩⟩⟩⟩⟩⟩⟩⟩⟩⟩⟩⟩⟩⟩⟩⟩⟩))))), fun post hp => ⟨vs, vs, ⟨fun z => absurd z (by decide), fun _ => ⟨fun z => absurd z (by decide), fun _ => ⟨fun z => absurd z (by decide), fun _ => ⟨fun z => absurd z (by decide), fun _ => ⟨fun z => absurd z (by decide), fun _ => ⟨fun z => absurd z (by decide), fun _ => ⟨fun z => absurd z (by decide), fun _ => ⟨fun z => absurd z (by decide), fun _ => ⟨fun z => absurd z (by decide), fun _ => ?_⟩⟩⟩⟩⟩⟩⟩⟩⟩⟩⟩
      rw [es, um, eu, sm, tm, rm']
      refine ⟨vu, vu, ?_⟩
      unfold wp_Model_reckon
      rw [ea2, eb2]
      rw [ma2, mb2]
      have fin : wp_Model_reckon_J150 (nI sz) (fun r_51 used_52 i_pc_53 i_s_54 km_55 lm_56 rm_57 tk_58 => post r_51 used_52 i_pc_53 i_s_54 (nI (π e)) (nI (π d)) km_55 lm_56 rm_57 tk_58) (nI 17) (nI (π rst)) (lc sec) (lc top) (nI (sz - (f + 2))) (nI pc) (nI (π s)) km lm rm tk := by
        refine ⟨fun z => absurd z (by decide), fun _ => ⟨fun z => absurd z (by decide), fun _ => ⟨fun _ => h9 _ _ ?_, fun z => absurd rfl z⟩⟩⟩
        rw [used_up (by omega), ← (h2 rst ra).2.1]
        refine i6 _ _ ?_
        rw [used_up (by omega), nI_1, ← (hE e Ue).2.1, ← (hE d Ud).2.1]
        exact hp
      exact ⟨fun z => absurd z (by decide), fun _ => ⟨va2, fun _ => ⟨vb2, fun _ => ⟨va2, vb2, fun z => absurd z (by decide), fun _ => ⟨fun _ => fin, fun z => absurd (by decide) z⟩⟩, fun z => absurd mb1 z⟩, fun z => absurd ma1 z⟩⟩
    · obtain ⟨ma1, ma2⟩ := H.nm sa hka
      have mb := H.nnm ta hkb
      refine ⟨7, f + 2, s, e, d, pc, nI (pc + 1), kc, lc, rc, tk, km, lm, rm, π, H, Us, Ue, Ud, fun x hx => ⟨hx, rfl, fun z => z⟩, fun z => z, by omega, by omega, by omega, fun z => absurd z (by decide), fun _ => ⟨rfl, ps, fun z => absurd z (by decide)⟩, fun post hp => td _ (ud _ (sd _ (rd _ (word_op g2 g3 g4 (⟨fun z => absurd z (by decide), fun _ => ⟨fun z => absurd z (by decide), fun _ => ⟨fun z => absurd z (by decide), fun _ => ⟨fun z => absurd z (by decide), fun _ => ⟨fun z => absurd z (by decide), fun _ => ⟨fun z => absurd z (by decide), fun _ => ⟨fun z => absurd z (by decide), fun _ => ⟨fun z => absurd z (by decide), fun _ => ⟨fun z => absurd z (by decide), fun _ => ⟨fun z => absurd z (by decide), fun _ => ⟨fun z => absurd z (by decide), fun _ => ⟨fun z => absurd z (by decide), fun _ => ⟨fun z => absurd z (by decide), fun _ => ⟨fun z => absurd z (by decide), fun _ => ⟨fun z => absurd z (by decide), fun _ => ⟨fun z => absurd z (by decide), fun _ => ⟨fun z => absurd z (by decide), fun _ => ⟨fun _ => H.kindOf sa ⟨fun _ => H.kindOf ta ⟨fun z => absurd z hkb, fun _ => hp⟩, fun z => absurd hka z⟩, fun z => absurd rfl z⟩⟩⟩⟩⟩⟩⟩⟩⟩⟩⟩⟩⟩⟩⟩⟩⟩⟩))))), fun post hp => ⟨vs, vs, ⟨fun z => absurd z (by decide), fun _ => ⟨fun z => absurd z (by decide), fun _ => ⟨fun z => absurd z (by decide), fun _ => ⟨fun z => absurd z (by decide), fun _ => ⟨fun z => absurd z (by decide), fun _ => ⟨fun z => absurd z (by decide), fun _ => ⟨fun z => absurd z (by decide), fun _ => ⟨fun z => absurd z (by decide), fun _ => ⟨fun z => absurd z (by decide), fun _ => ?_⟩⟩⟩⟩⟩⟩⟩⟩⟩⟩⟩
      rw [es, um, eu, sm, tm, rm']
      refine ⟨vu, vu, ?_⟩
      unfold wp_Model_reckon
      rw [ea2, eb2]
      exact ⟨fun z => absurd z (by decide), fun _ => ⟨va2, fun _ => ⟨vb2, fun z => absurd z mb, fun _ => hp⟩, fun z => absurd ma1 z⟩⟩
  · have ma := H.nnm sa hka
    refine ⟨7, f + 2, s, e, d, pc, nI (pc + 1), kc, lc, rc, tk, km, lm, rm, π, H, Us, Ue, Ud, fun x hx => ⟨hx, rfl, fun z => z⟩, fun z => z, by omega, by omega, by omega, fun z => absurd z (by decide), fun _ => ⟨rfl, ps, fun z => absurd z (by decide)⟩, fun post hp => td _ (ud _ (sd _ (rd _ (word_op g2 g3 g4 (⟨fun z => absurd z (by decide), fun _ => ⟨fun z => absurd z (by decide), fun _ => ⟨fun z => absurd z (by decide), fun _ => ⟨fun z => absurd z (by decide), fun _ => ⟨fun z => absurd z (by decide), fun _ => ⟨fun z => absurd z (by decide), fun _ => ⟨fun z => absurd z (by decide), fun _ => ⟨fun z => absurd z (by decide), fun _ => ⟨fun z => absurd z (by decide), fun _ => ⟨fun z => absurd z (by decide), fun _ => ⟨fun z => absurd z (by decide), fun _ => ⟨fun z => absurd z (by decide), fun _ => ⟨fun z => absurd z (by decide), fun _ => ⟨fun z => absurd z (by decide), fun _ => ⟨fun z => absurd z (by decide), fun _ => ⟨fun z => absurd z (by decide), fun _ => ⟨fun z => absurd z (by decide), fun _ => ⟨fun _ => H.kindOf sa ⟨fun z => absurd z hka, fun _ => hp⟩, fun z => absurd rfl z⟩⟩⟩⟩⟩⟩⟩⟩⟩⟩⟩⟩⟩⟩⟩⟩⟩⟩))))), fun post hp => ⟨vs, vs, ⟨fun z => absurd z (by decide), fun _ => ⟨fun z => absurd z (by decide), fun _ => ⟨fun z => absurd z (by decide), fun _ => ⟨fun z => absurd z (by decide), fun _ => ⟨fun z => absurd z (by decide), fun _ => ⟨fun z => absurd z (by decide), fun _ => ⟨fun z => absurd z (by decide), fun _ => ⟨fun z => absurd z (by decide), fun _ => ⟨fun z => absurd z (by decide), fun _ => ?_⟩⟩⟩⟩⟩⟩⟩⟩⟩⟩⟩
    rw [es, um, eu, sm, tm, rm']
    refine ⟨vu, vu, ?_⟩
    unfold wp_Model_reckon
    rw [ea2, eb2]
    exact ⟨fun z => absurd z (by decide), fun _ => ⟨va2, fun z => absurd z ma, fun _ => hp⟩⟩
theorem x_div {ρ : Nat → Prop} {h q kk : Nat} {js : List Nat} {fn rap : Bool} (H : HP sz (f + 2) fre kc lc rc tk km lm rm π G) (Us : US sz (f + 2) fre s) (Ue : US sz (f + 2) fre e) (Ud : US sz (f + 2) fre d) (g : STEP cd n nco (GOOD cd n nco) pc h q js fn rap) (hcd : cd pc = (18, x, y)) (hn : n ≤ 512) (sh : SH (US sz (f + 2) fre) kc rc s h) (eh : EH (US sz (f + 2) fre) ρ kc rc e q) (dd : DD cd n nco (US sz (f + 2) fre) ρ kc lc rc kk d js fn) (ph : PH (US sz (f + 2) fre) kc lc rc) (ps : PL kc lc rc s) (pe : PL kc lc rc e) : EXR cd n nco sz (f + 2) fre kc lc rc tk km lm rm cons cn π G s e d pc 18 x y := by
  unfold STEP at g
  rw [hcd] at g
  simp only at g
  obtain ⟨g1, g2, g3, g4, t0, t1, t2, t3, t4, t5, t6, t7, t8, t9, t12, t20⟩ := g
  have lsz := H.2.1
  have lf := H.2.2.1
  obtain ⟨lt1, lt2, lt3⟩ := H.lt Us
  have vs : vp_in (nI (π s)) 200 := vp_in_nI (by omega) (by decide)
  have es : (nI (π s)).toNatClampNeg = π s := nI_clamp (by omega)
  obtain ⟨hh, g'⟩ := t12 (by decide)
  obtain ⟨h0, rfl⟩ : ∃ h0, h = h0 + 1 + 1 := ⟨h - 2, by omega⟩
  obtain ⟨top, und, ta, ua, ks, tb, ub, tm, um, shu, td, ud⟩ := SH.top H Us sh
  obtain ⟨sec, rst, sa, ra, ku, sb, rb, sm, rm', shr, sd, rd⟩ := SH.top H ua shu
  have lu := H.lt ua
  have vu : vp_in (nI (π und)) 200 := vp_in_nI (by omega) (by decide)
  have eu : (nI (π und)).toNatClampNeg = π und := nI_clamp (by omega)
  have lsc := H.lt sa
  have ltp := H.lt ta
  have va : vp_in (nI sec) sz := vp_in_nI (by omega) (by omega)
  have vb : vp_in (nI top) sz := vp_in_nI (by omega) (by omega)
  have va2 : vp_in (nI (π sec)) 200 := vp_in_nI (by omega) (by decide)
  have vb2 : vp_in (nI (π top)) 200 := vp_in_nI (by omega) (by decide)
  have ea : (nI sec).toNatClampNeg = sec := nI_clamp (by omega)
  have eb : (nI top).toNatClampNeg = top := nI_clamp (by omega)
  have ea2 : (nI (π sec)).toNatClampNeg = π sec := nI_clamp (by omega)
  have eb2 : (nI (π top)).toNatClampNeg = π top := nI_clamp (by omega)
  by_cases hka : kc sec = 0
  · by_cases hkb : kc top = 0
    · obtain ⟨ma1, ma2⟩ := H.nm sa hka
      obtain ⟨mb1, mb2⟩ := H.nm ta hkb
      have vals : ∀ P : Int32 → Int32 → Prop, P (lc sec) (lc top) → wp_Memory_valueOf sz lc (nI sec) (fun r_5 => wp_Memory_valueOf sz lc (nI top) (fun r_6 => P r_5 r_6)) := fun P hP => by
        unfold wp_Memory_valueOf
        rw [ea, eb]
        exact ⟨va, vb, hP⟩
      by_cases h0v : lc top = 0
      · refine ⟨8, f + 2, s, e, d, pc, nI (pc + 1), kc, lc, rc, tk, km, lm, rm, π, H, Us, Ue, Ud, fun x hx => ⟨hx, rfl, fun z => z⟩, fun z => z, by omega, by omega, by omega, fun z => absurd z (by decide), fun _ => ⟨rfl, ps, fun z => absurd z (by decide)⟩, fun post hp => td _ (ud _ (sd _ (rd _ (word_op g2 g3 g4 (⟨fun z => absurd z (by decide), fun _ => ⟨fun z => absurd z (by decide), fun _ => ⟨fun z => absurd z (by decide), fun _ => ⟨fun z => absurd z (by decide), fun _ => ⟨fun z => absurd z (by decide), fun _ => ⟨fun z => absurd z (by decide), fun _ => ⟨fun z => absurd z (by decide), fun _ => ⟨fun z => absurd z (by decide), fun _ => ⟨fun z => absurd z (by decide), fun _ => ⟨fun z => absurd z (by decide), fun _ => ⟨fun z => absurd z (by decide), fun _ => ⟨fun z => absurd z (by decide), fun _ => ⟨fun z => absurd z (by decide), fun _ => ⟨fun z => absurd z (by decide), fun _ => ⟨fun z => absurd z (by decide), fun _ => ⟨fun z => absurd z (by decide), fun _ => ⟨fun z => absurd z (by decide), fun _ => ⟨fun z => absurd z (by decide), fun _ => ⟨fun _ => H.kindOf sa ⟨fun _ => H.kindOf ta ⟨fun _ => vals _ ⟨fun z => absurd z (by decide), fun _ => ⟨fun _ => ⟨fun _ => hp, fun z => absurd rfl z⟩, fun z => absurd h0v z⟩⟩, fun z => absurd hkb z⟩, fun z => absurd hka z⟩, fun z => absurd rfl z⟩⟩⟩⟩⟩⟩⟩⟩⟩⟩⟩⟩⟩⟩⟩⟩⟩⟩⟩))))), fun post hp => ⟨vs, vs, ⟨fun z => absurd z (by decide), fun _ => ⟨fun z => absurd z (by decide), fun _ => ⟨fun z => absurd z (by decide), fun _ => ⟨fun z => absurd z (by decide), fun _ => ⟨fun z => absurd z (by decide), fun _ => ⟨fun z => absurd z (by decide), fun _ => ⟨fun z => absurd z (by decide), fun _ => ⟨fun z => absurd z (by decide), fun _ => ⟨fun z => absurd z (by decide), fun _ => ?_⟩⟩⟩⟩⟩⟩⟩⟩⟩⟩⟩
        rw [es, um, eu, sm, tm, rm']
        refine ⟨vu, vu, ?_⟩
        unfold wp_Model_reckon
        rw [ea2, eb2]
        rw [ma2, mb2]
        exact ⟨fun z => absurd z (by decide), fun _ => ⟨va2, fun _ => ⟨vb2, fun _ => ⟨va2, vb2, fun z => absurd z (by decide), fun _ => ⟨fun z => absurd z (by decide), fun _ => ⟨fun _ => hp, fun z => absurd h0v z⟩⟩⟩, fun z => absurd mb1 z⟩, fun z => absurd ma1 z⟩⟩
      · obtain ⟨c, kc1, lc1, rc1, tk1, km1, lm1, rm1, π1, h1, h2, h3, h4, h5, h6, h7, h8, h9⟩ := H.num (lc sec / lc top)
        have st : STAY (US sz (f + 2) fre) (US sz (f + 1) fre) ρ ρ kc lc rc kc1 lc1 rc1 := STAY.ext h2
        obtain ⟨c2, kc2, lc2, rc2, tk2, km2, lm2, rm2, π2, i1, i2, i3, i4, i5, i6⟩ := PUSH h1 h3 (h2 rst ra).1 (shr.to st) g' (eh.to st) (dd.to st) (PH.oth H h2 h3 h4 (Or.inl h5) ph) (PL.atom (Or.inl h5)) (PL.ext H h2 ra ((ps.r lsz ua ks ub).r lsz ra ku rb)) (h2 e Ue).1 (PL.ext H h2 Ue pe)
        have hE := h2.trans i2
        have calc_ : ∀ P : Int32 → Prop, P (lc sec / lc top) → wp_Machine_calculate (nI 18) (lc sec) (lc top) P := fun P hP => ⟨fun z => absurd z (by decide), fun _ => ⟨fun z => absurd z (by decide), fun _ => ⟨fun z => absurd z (by decide), fun _ => ⟨fun _ => ⟨fun z => absurd z h0v, fun _ => ⟨h0v, hP⟩⟩, fun z => absurd rfl z⟩⟩⟩⟩
        refine ⟨1, f, c2, e, d, pc + 1, nI (pc + 1), kc2, lc2, rc2, tk2, km2, lm2, rm2, π2, i1, i3, (hE e Ue).1, (hE d Ud).1, fun x hx => ⟨(hE x hx).1, (hE x hx).2.1, PL.ext H hE hx⟩, NC.ext H hE Ud, by omega, by omega, by omega, fun _ => ⟨rfl, i4⟩, fun z => absurd rfl z, fun post hp => td _ (ud _ (sd _ (rd _ (word_op g2 g3 g4 (⟨fun z => absurd z (by decide), fun _ => ⟨fun z => absurd z (by decide), fun _ => ⟨fun z => absurd z (by decide), fun _ => ⟨fun z => absurd z (by decide), fun _ => ⟨fun z => absurd z (by decide), fun _ => ⟨fun z => absurd z (by decide), fun _ => ⟨fun z => absurd z (by decide), fun _ => ⟨fun z => absurd z (by decide), fun _ => ⟨fun z => absurd z (by decide), fun _ => ⟨fun z => absurd z (by decide), fun _ => ⟨fun z => absurd z (by decide), fun _ => ⟨fun z => absurd z (by decide), fun _ => ⟨fun z => absurd z (by decide), fun _ => ⟨fun z => absurd z (by decide), fun _ => ⟨fun z => absurd z (by decide), fun _ => ⟨fun z => absurd z (by decide), fun _ => ⟨fun z => absurd z (by decide), fun _ => ⟨fun z => absurd z (by decide), fun _ => ⟨fun _ => H.kindOf sa ⟨fun _ => H.kindOf ta ⟨fun _ => vals _ ⟨fun z => absurd z (by decide), fun _ => ⟨fun z0 => absurd z0 h0v, fun _ => calc_ _ (h8 _ (i5 _ hp))⟩⟩, fun z => absurd hkb z⟩, fun z => absurd hka z⟩, fun z => absurd rfl z⟩⟩⟩⟩⟩⟩⟩⟩⟩⟩⟩⟩⟩⟩⟩⟩⟩⟩⟩))))), fun post hp => ⟨vs, vs, ⟨fun z => absurd z (by decide), fun _ => ⟨fun z => absurd z (by decide), fun _ => ⟨fun z => absurd z (by decide), fun _ => ⟨fun z => absurd z (by decide), fun _ => ⟨fun z => absurd z (by decide), fun _ => ⟨fun z => absurd z (by decide), fun _ => ⟨fun z => absurd z (by decide), fun _ => ⟨fun z => absurd z (by decide), fun _ => ⟨fun z => absurd z (by decide), fun _ => ?_⟩⟩⟩⟩⟩⟩⟩⟩⟩⟩⟩
        rw [es, um, eu, sm, tm, rm']
        refine ⟨vu, vu, ?_⟩
        unfold wp_Model_reckon
        rw [ea2, eb2]
        rw [ma2, mb2]
        have fin : wp_Model_reckon_J150 (nI sz) (fun r_51 used_52 i_pc_53 i_s_54 km_55 lm_56 rm_57 tk_58 => post r_51 used_52 i_pc_53 i_s_54 (nI (π e)) (nI (π d)) km_55 lm_56 rm_57 tk_58) (nI 18) (nI (π rst)) (lc sec) (lc top) (nI (sz - (f + 2))) (nI pc) (nI (π s)) km lm rm tk := by
          refine ⟨fun z => absurd z (by decide), fun _ => ⟨fun z => absurd z (by decide), fun _ => ⟨fun z => absurd z (by decide), fun _ => ⟨fun _ => ⟨h0v, h9 _ _ ?_⟩, fun z => absurd rfl z⟩⟩⟩⟩
          rw [used_up (by omega), ← (h2 rst ra).2.1]
          refine i6 _ _ ?_
          rw [used_up (by omega), nI_1, ← (hE e Ue).2.1, ← (hE d Ud).2.1]
          exact hp
        exact ⟨fun z => absurd z (by decide), fun _ => ⟨va2, fun _ => ⟨vb2, fun _ => ⟨va2, vb2, fun z => absurd z (by decide), fun _ => ⟨fun z => absurd z (by decide), fun _ => ⟨fun z => absurd z h0v, fun _ => fin⟩⟩⟩, fun z => absurd mb1 z⟩, fun z => absurd ma1 z⟩⟩
    · obtain ⟨ma1, ma2⟩ := H.nm sa hka
      have mb := H.nnm ta hkb
      refine ⟨7, f + 2, s, e, d, pc, nI (pc + 1), kc, lc, rc, tk, km, lm, rm, π, H, Us, Ue, Ud, fun x hx => ⟨hx, rfl, fun z => z⟩, fun z => z, by omega, by omega, by omega, fun z => absurd z (by decide), fun _ => ⟨rfl, ps, fun z => absurd z (by decide)⟩, fun post hp => td _ (ud _ (sd _ (rd _ (word_op g2 g3 g4 (⟨fun z => absurd z (by decide), fun _ => ⟨fun z => absurd z (by decide), fun _ => ⟨fun z => absurd z (by decide), fun _ => ⟨fun z => absurd z (by decide), fun _ => ⟨fun z => absurd z (by decide), fun _ => ⟨fun z => absurd z (by decide), fun _ => ⟨fun z => absurd z (by decide), fun _ => ⟨fun z => absurd z (by decide), fun _ => ⟨fun z => absurd z (by decide), fun _ => ⟨fun z => absurd z (by decide), fun _ => ⟨fun z => absurd z (by decide), fun _ => ⟨fun z => absurd z (by decide), fun _ => ⟨fun z => absurd z (by decide), fun _ => ⟨fun z => absurd z (by decide), fun _ => ⟨fun z => absurd z (by decide), fun _ => ⟨fun z => absurd z (by decide), fun _ => ⟨fun z => absurd z (by decide), fun _ => ⟨fun z => absurd z (by decide), fun _ => ⟨fun _ => H.kindOf sa ⟨fun _ => H.kindOf ta ⟨fun z => absurd z hkb, fun _ => hp⟩, fun z => absurd hka z⟩, fun z => absurd rfl z⟩⟩⟩⟩⟩⟩⟩⟩⟩⟩⟩⟩⟩⟩⟩⟩⟩⟩⟩))))), fun post hp => ⟨vs, vs, ⟨fun z => absurd z (by decide), fun _ => ⟨fun z => absurd z (by decide), fun _ => ⟨fun z => absurd z (by decide), fun _ => ⟨fun z => absurd z (by decide), fun _ => ⟨fun z => absurd z (by decide), fun _ => ⟨fun z => absurd z (by decide), fun _ => ⟨fun z => absurd z (by decide), fun _ => ⟨fun z => absurd z (by decide), fun _ => ⟨fun z => absurd z (by decide), fun _ => ?_⟩⟩⟩⟩⟩⟩⟩⟩⟩⟩⟩
      rw [es, um, eu, sm, tm, rm']
      refine ⟨vu, vu, ?_⟩
      unfold wp_Model_reckon
      rw [ea2, eb2]
      exact ⟨fun z => absurd z (by decide), fun _ => ⟨va2, fun _ => ⟨vb2, fun z => absurd z mb, fun _ => hp⟩, fun z => absurd ma1 z⟩⟩
  · have ma := H.nnm sa hka
    refine ⟨7, f + 2, s, e, d, pc, nI (pc + 1), kc, lc, rc, tk, km, lm, rm, π, H, Us, Ue, Ud, fun x hx => ⟨hx, rfl, fun z => z⟩, fun z => z, by omega, by omega, by omega, fun z => absurd z (by decide), fun _ => ⟨rfl, ps, fun z => absurd z (by decide)⟩, fun post hp => td _ (ud _ (sd _ (rd _ (word_op g2 g3 g4 (⟨fun z => absurd z (by decide), fun _ => ⟨fun z => absurd z (by decide), fun _ => ⟨fun z => absurd z (by decide), fun _ => ⟨fun z => absurd z (by decide), fun _ => ⟨fun z => absurd z (by decide), fun _ => ⟨fun z => absurd z (by decide), fun _ => ⟨fun z => absurd z (by decide), fun _ => ⟨fun z => absurd z (by decide), fun _ => ⟨fun z => absurd z (by decide), fun _ => ⟨fun z => absurd z (by decide), fun _ => ⟨fun z => absurd z (by decide), fun _ => ⟨fun z => absurd z (by decide), fun _ => ⟨fun z => absurd z (by decide), fun _ => ⟨fun z => absurd z (by decide), fun _ => ⟨fun z => absurd z (by decide), fun _ => ⟨fun z => absurd z (by decide), fun _ => ⟨fun z => absurd z (by decide), fun _ => ⟨fun z => absurd z (by decide), fun _ => ⟨fun _ => H.kindOf sa ⟨fun z => absurd z hka, fun _ => hp⟩, fun z => absurd rfl z⟩⟩⟩⟩⟩⟩⟩⟩⟩⟩⟩⟩⟩⟩⟩⟩⟩⟩⟩))))), fun post hp => ⟨vs, vs, ⟨fun z => absurd z (by decide), fun _ => ⟨fun z => absurd z (by decide), fun _ => ⟨fun z => absurd z (by decide), fun _ => ⟨fun z => absurd z (by decide), fun _ => ⟨fun z => absurd z (by decide), fun _ => ⟨fun z => absurd z (by decide), fun _ => ⟨fun z => absurd z (by decide), fun _ => ⟨fun z => absurd z (by decide), fun _ => ⟨fun z => absurd z (by decide), fun _ => ?_⟩⟩⟩⟩⟩⟩⟩⟩⟩⟩⟩
    rw [es, um, eu, sm, tm, rm']
    refine ⟨vu, vu, ?_⟩
    unfold wp_Model_reckon
    rw [ea2, eb2]
    exact ⟨fun z => absurd z (by decide), fun _ => ⟨va2, fun z => absurd z ma, fun _ => hp⟩⟩
theorem x_rem {ρ : Nat → Prop} {h q kk : Nat} {js : List Nat} {fn rap : Bool} (H : HP sz (f + 2) fre kc lc rc tk km lm rm π G) (Us : US sz (f + 2) fre s) (Ue : US sz (f + 2) fre e) (Ud : US sz (f + 2) fre d) (g : STEP cd n nco (GOOD cd n nco) pc h q js fn rap) (hcd : cd pc = (19, x, y)) (hn : n ≤ 512) (sh : SH (US sz (f + 2) fre) kc rc s h) (eh : EH (US sz (f + 2) fre) ρ kc rc e q) (dd : DD cd n nco (US sz (f + 2) fre) ρ kc lc rc kk d js fn) (ph : PH (US sz (f + 2) fre) kc lc rc) (ps : PL kc lc rc s) (pe : PL kc lc rc e) : EXR cd n nco sz (f + 2) fre kc lc rc tk km lm rm cons cn π G s e d pc 19 x y := by
  unfold STEP at g
  rw [hcd] at g
  simp only at g
  obtain ⟨g1, g2, g3, g4, t0, t1, t2, t3, t4, t5, t6, t7, t8, t9, t12, t20⟩ := g
  have lsz := H.2.1
  have lf := H.2.2.1
  obtain ⟨lt1, lt2, lt3⟩ := H.lt Us
  have vs : vp_in (nI (π s)) 200 := vp_in_nI (by omega) (by decide)
  have es : (nI (π s)).toNatClampNeg = π s := nI_clamp (by omega)
  obtain ⟨hh, g'⟩ := t12 (by decide)
  obtain ⟨h0, rfl⟩ : ∃ h0, h = h0 + 1 + 1 := ⟨h - 2, by omega⟩
  obtain ⟨top, und, ta, ua, ks, tb, ub, tm, um, shu, td, ud⟩ := SH.top H Us sh
  obtain ⟨sec, rst, sa, ra, ku, sb, rb, sm, rm', shr, sd, rd⟩ := SH.top H ua shu
  have lu := H.lt ua
  have vu : vp_in (nI (π und)) 200 := vp_in_nI (by omega) (by decide)
  have eu : (nI (π und)).toNatClampNeg = π und := nI_clamp (by omega)
  have lsc := H.lt sa
  have ltp := H.lt ta
  have va : vp_in (nI sec) sz := vp_in_nI (by omega) (by omega)
  have vb : vp_in (nI top) sz := vp_in_nI (by omega) (by omega)
  have va2 : vp_in (nI (π sec)) 200 := vp_in_nI (by omega) (by decide)
  have vb2 : vp_in (nI (π top)) 200 := vp_in_nI (by omega) (by decide)
  have ea : (nI sec).toNatClampNeg = sec := nI_clamp (by omega)
  have eb : (nI top).toNatClampNeg = top := nI_clamp (by omega)
  have ea2 : (nI (π sec)).toNatClampNeg = π sec := nI_clamp (by omega)
  have eb2 : (nI (π top)).toNatClampNeg = π top := nI_clamp (by omega)
  by_cases hka : kc sec = 0
  · by_cases hkb : kc top = 0
    · obtain ⟨ma1, ma2⟩ := H.nm sa hka
      obtain ⟨mb1, mb2⟩ := H.nm ta hkb
      have vals : ∀ P : Int32 → Int32 → Prop, P (lc sec) (lc top) → wp_Memory_valueOf sz lc (nI sec) (fun r_5 => wp_Memory_valueOf sz lc (nI top) (fun r_6 => P r_5 r_6)) := fun P hP => by
        unfold wp_Memory_valueOf
        rw [ea, eb]
        exact ⟨va, vb, hP⟩
      by_cases h0v : lc top = 0
      · refine ⟨8, f + 2, s, e, d, pc, nI (pc + 1), kc, lc, rc, tk, km, lm, rm, π, H, Us, Ue, Ud, fun x hx => ⟨hx, rfl, fun z => z⟩, fun z => z, by omega, by omega, by omega, fun z => absurd z (by decide), fun _ => ⟨rfl, ps, fun z => absurd z (by decide)⟩, fun post hp => td _ (ud _ (sd _ (rd _ (word_op g2 g3 g4 (⟨fun z => absurd z (by decide), fun _ => ⟨fun z => absurd z (by decide), fun _ => ⟨fun z => absurd z (by decide), fun _ => ⟨fun z => absurd z (by decide), fun _ => ⟨fun z => absurd z (by decide), fun _ => ⟨fun z => absurd z (by decide), fun _ => ⟨fun z => absurd z (by decide), fun _ => ⟨fun z => absurd z (by decide), fun _ => ⟨fun z => absurd z (by decide), fun _ => ⟨fun z => absurd z (by decide), fun _ => ⟨fun z => absurd z (by decide), fun _ => ⟨fun z => absurd z (by decide), fun _ => ⟨fun z => absurd z (by decide), fun _ => ⟨fun z => absurd z (by decide), fun _ => ⟨fun z => absurd z (by decide), fun _ => ⟨fun z => absurd z (by decide), fun _ => ⟨fun z => absurd z (by decide), fun _ => ⟨fun z => absurd z (by decide), fun _ => ⟨fun z => absurd z (by decide), fun _ => ⟨fun _ => H.kindOf sa ⟨fun _ => H.kindOf ta ⟨fun _ => vals _ ⟨fun z => absurd z (by decide), fun _ => ⟨fun _ => ⟨fun z => absurd z (by decide), fun _ => ⟨fun _ => hp, fun z => absurd rfl z⟩⟩, fun z => absurd h0v z⟩⟩, fun z => absurd hkb z⟩, fun z => absurd hka z⟩, fun z => absurd rfl z⟩⟩⟩⟩⟩⟩⟩⟩⟩⟩⟩⟩⟩⟩⟩⟩⟩⟩⟩⟩))))), fun post hp => ⟨vs, vs, ⟨fun z => absurd z (by decide), fun _ => ⟨fun z => absurd z (by decide), fun _ => ⟨fun z => absurd z (by decide), fun _ => ⟨fun z => absurd z (by decide), fun _ => ⟨fun z => absurd z (by decide), fun _ => ⟨fun z => absurd z (by decide), fun _ => ⟨fun z => absurd z (by decide), fun _ => ⟨fun z => absurd z (by decide), fun _ => ⟨fun z => absurd z (by decide), fun _ => ?_⟩⟩⟩⟩⟩⟩⟩⟩⟩⟩⟩
        rw [es, um, eu, sm, tm, rm']
        refine ⟨vu, vu, ?_⟩
        unfold wp_Model_reckon
        rw [ea2, eb2]
        rw [ma2, mb2]
        exact ⟨fun z => absurd z (by decide), fun _ => ⟨va2, fun _ => ⟨vb2, fun _ => ⟨va2, vb2, fun z => absurd z (by decide), fun _ => ⟨fun z => absurd z (by decide), fun _ => ⟨fun _ => hp, fun z => absurd h0v z⟩⟩⟩, fun z => absurd mb1 z⟩, fun z => absurd ma1 z⟩⟩
      · obtain ⟨c, kc1, lc1, rc1, tk1, km1, lm1, rm1, π1, h1, h2, h3, h4, h5, h6, h7, h8, h9⟩ := H.num (lc sec - lc sec / lc top * lc top)
        have st : STAY (US sz (f + 2) fre) (US sz (f + 1) fre) ρ ρ kc lc rc kc1 lc1 rc1 := STAY.ext h2
        obtain ⟨c2, kc2, lc2, rc2, tk2, km2, lm2, rm2, π2, i1, i2, i3, i4, i5, i6⟩ := PUSH h1 h3 (h2 rst ra).1 (shr.to st) g' (eh.to st) (dd.to st) (PH.oth H h2 h3 h4 (Or.inl h5) ph) (PL.atom (Or.inl h5)) (PL.ext H h2 ra ((ps.r lsz ua ks ub).r lsz ra ku rb)) (h2 e Ue).1 (PL.ext H h2 Ue pe)
        have hE := h2.trans i2
        have calc_ : ∀ P : Int32 → Prop, P (lc sec - lc sec / lc top * lc top) → wp_Machine_calculate (nI 19) (lc sec) (lc top) P := fun P hP => ⟨fun z => absurd z (by decide), fun _ => ⟨fun z => absurd z (by decide), fun _ => ⟨fun z => absurd z (by decide), fun _ => ⟨fun z => absurd z (by decide), fun _ => ⟨fun z => absurd z h0v, fun _ => ⟨h0v, hP⟩⟩⟩⟩⟩⟩
        refine ⟨1, f, c2, e, d, pc + 1, nI (pc + 1), kc2, lc2, rc2, tk2, km2, lm2, rm2, π2, i1, i3, (hE e Ue).1, (hE d Ud).1, fun x hx => ⟨(hE x hx).1, (hE x hx).2.1, PL.ext H hE hx⟩, NC.ext H hE Ud, by omega, by omega, by omega, fun _ => ⟨rfl, i4⟩, fun z => absurd rfl z, fun post hp => td _ (ud _ (sd _ (rd _ (word_op g2 g3 g4 (⟨fun z => absurd z (by decide), fun _ => ⟨fun z => absurd z (by decide), fun _ => ⟨fun z => absurd z (by decide), fun _ => ⟨fun z => absurd z (by decide), fun _ => ⟨fun z => absurd z (by decide), fun _ => ⟨fun z => absurd z (by decide), fun _ => ⟨fun z => absurd z (by decide), fun _ => ⟨fun z => absurd z (by decide), fun _ => ⟨fun z => absurd z (by decide), fun _ => ⟨fun z => absurd z (by decide), fun _ => ⟨fun z => absurd z (by decide), fun _ => ⟨fun z => absurd z (by decide), fun _ => ⟨fun z => absurd z (by decide), fun _ => ⟨fun z => absurd z (by decide), fun _ => ⟨fun z => absurd z (by decide), fun _ => ⟨fun z => absurd z (by decide), fun _ => ⟨fun z => absurd z (by decide), fun _ => ⟨fun z => absurd z (by decide), fun _ => ⟨fun z => absurd z (by decide), fun _ => ⟨fun _ => H.kindOf sa ⟨fun _ => H.kindOf ta ⟨fun _ => vals _ ⟨fun z => absurd z (by decide), fun _ => ⟨fun z0 => absurd z0 h0v, fun _ => calc_ _ (h8 _ (i5 _ hp))⟩⟩, fun z => absurd hkb z⟩, fun z => absurd hka z⟩, fun z => absurd rfl z⟩⟩⟩⟩⟩⟩⟩⟩⟩⟩⟩⟩⟩⟩⟩⟩⟩⟩⟩⟩))))), fun post hp => ⟨vs, vs, ⟨fun z => absurd z (by decide), fun _ => ⟨fun z => absurd z (by decide), fun _ => ⟨fun z => absurd z (by decide), fun _ => ⟨fun z => absurd z (by decide), fun _ => ⟨fun z => absurd z (by decide), fun _ => ⟨fun z => absurd z (by decide), fun _ => ⟨fun z => absurd z (by decide), fun _ => ⟨fun z => absurd z (by decide), fun _ => ⟨fun z => absurd z (by decide), fun _ => ?_⟩⟩⟩⟩⟩⟩⟩⟩⟩⟩⟩
        rw [es, um, eu, sm, tm, rm']
        refine ⟨vu, vu, ?_⟩
        unfold wp_Model_reckon
        rw [ea2, eb2]
        rw [ma2, mb2]
        have fin : wp_Model_reckon_J150 (nI sz) (fun r_51 used_52 i_pc_53 i_s_54 km_55 lm_56 rm_57 tk_58 => post r_51 used_52 i_pc_53 i_s_54 (nI (π e)) (nI (π d)) km_55 lm_56 rm_57 tk_58) (nI 19) (nI (π rst)) (lc sec) (lc top) (nI (sz - (f + 2))) (nI pc) (nI (π s)) km lm rm tk := by
          refine ⟨fun z => absurd z (by decide), fun _ => ⟨fun z => absurd z (by decide), fun _ => ⟨fun z => absurd z (by decide), fun _ => ⟨fun z => absurd z (by decide), fun _ => ⟨h0v, h9 _ _ ?_⟩⟩⟩⟩⟩
          rw [used_up (by omega), ← (h2 rst ra).2.1]
          refine i6 _ _ ?_
          rw [used_up (by omega), nI_1, ← (hE e Ue).2.1, ← (hE d Ud).2.1]
          exact hp
        exact ⟨fun z => absurd z (by decide), fun _ => ⟨va2, fun _ => ⟨vb2, fun _ => ⟨va2, vb2, fun z => absurd z (by decide), fun _ => ⟨fun z => absurd z (by decide), fun _ => ⟨fun z => absurd z h0v, fun _ => fin⟩⟩⟩, fun z => absurd mb1 z⟩, fun z => absurd ma1 z⟩⟩
    · obtain ⟨ma1, ma2⟩ := H.nm sa hka
      have mb := H.nnm ta hkb
      refine ⟨7, f + 2, s, e, d, pc, nI (pc + 1), kc, lc, rc, tk, km, lm, rm, π, H, Us, Ue, Ud, fun x hx => ⟨hx, rfl, fun z => z⟩, fun z => z, by omega, by omega, by omega, fun z => absurd z (by decide), fun _ => ⟨rfl, ps, fun z => absurd z (by decide)⟩, fun post hp => td _ (ud _ (sd _ (rd _ (word_op g2 g3 g4 (⟨fun z => absurd z (by decide), fun _ => ⟨fun z => absurd z (by decide), fun _ => ⟨fun z => absurd z (by decide), fun _ => ⟨fun z => absurd z (by decide), fun _ => ⟨fun z => absurd z (by decide), fun _ => ⟨fun z => absurd z (by decide), fun _ => ⟨fun z => absurd z (by decide), fun _ => ⟨fun z => absurd z (by decide), fun _ => ⟨fun z => absurd z (by decide), fun _ => ⟨fun z => absurd z (by decide), fun _ => ⟨fun z => absurd z (by decide), fun _ => ⟨fun z => absurd z (by decide), fun _ => ⟨fun z => absurd z (by decide), fun _ => ⟨fun z => absurd z (by decide), fun _ => ⟨fun z => absurd z (by decide), fun _ => ⟨fun z => absurd z (by decide), fun _ => ⟨fun z => absurd z (by decide), fun _ => ⟨fun z => absurd z (by decide), fun _ => ⟨fun z => absurd z (by decide), fun _ => ⟨fun _ => H.kindOf sa ⟨fun _ => H.kindOf ta ⟨fun z => absurd z hkb, fun _ => hp⟩, fun z => absurd hka z⟩, fun z => absurd rfl z⟩⟩⟩⟩⟩⟩⟩⟩⟩⟩⟩⟩⟩⟩⟩⟩⟩⟩⟩⟩))))), fun post hp => ⟨vs, vs, ⟨fun z => absurd z (by decide), fun _ => ⟨fun z => absurd z (by decide), fun _ => ⟨fun z => absurd z (by decide), fun _ => ⟨fun z => absurd z (by decide), fun _ => ⟨fun z => absurd z (by decide), fun _ => ⟨fun z => absurd z (by decide), fun _ => ⟨fun z => absurd z (by decide), fun _ => ⟨fun z => absurd z (by decide), fun _ => ⟨fun z => absurd z (by decide), fun _ => ?_⟩⟩⟩⟩⟩⟩⟩⟩⟩⟩⟩
      rw [es, um, eu, sm, tm, rm']
      refine ⟨vu, vu, ?_⟩
      unfold wp_Model_reckon
      rw [ea2, eb2]
      exact ⟨fun z => absurd z (by decide), fun _ => ⟨va2, fun _ => ⟨vb2, fun z => absurd z mb, fun _ => hp⟩, fun z => absurd ma1 z⟩⟩
  · have ma := H.nnm sa hka
    refine ⟨7, f + 2, s, e, d, pc, nI (pc + 1), kc, lc, rc, tk, km, lm, rm, π, H, Us, Ue, Ud, fun x hx => ⟨hx, rfl, fun z => z⟩, fun z => z, by omega, by omega, by omega, fun z => absurd z (by decide), fun _ => ⟨rfl, ps, fun z => absurd z (by decide)⟩, fun post hp => td _ (ud _ (sd _ (rd _ (word_op g2 g3 g4 (⟨fun z => absurd z (by decide), fun _ => ⟨fun z => absurd z (by decide), fun _ => ⟨fun z => absurd z (by decide), fun _ => ⟨fun z => absurd z (by decide), fun _ => ⟨fun z => absurd z (by decide), fun _ => ⟨fun z => absurd z (by decide), fun _ => ⟨fun z => absurd z (by decide), fun _ => ⟨fun z => absurd z (by decide), fun _ => ⟨fun z => absurd z (by decide), fun _ => ⟨fun z => absurd z (by decide), fun _ => ⟨fun z => absurd z (by decide), fun _ => ⟨fun z => absurd z (by decide), fun _ => ⟨fun z => absurd z (by decide), fun _ => ⟨fun z => absurd z (by decide), fun _ => ⟨fun z => absurd z (by decide), fun _ => ⟨fun z => absurd z (by decide), fun _ => ⟨fun z => absurd z (by decide), fun _ => ⟨fun z => absurd z (by decide), fun _ => ⟨fun z => absurd z (by decide), fun _ => ⟨fun _ => H.kindOf sa ⟨fun z => absurd z hka, fun _ => hp⟩, fun z => absurd rfl z⟩⟩⟩⟩⟩⟩⟩⟩⟩⟩⟩⟩⟩⟩⟩⟩⟩⟩⟩⟩))))), fun post hp => ⟨vs, vs, ⟨fun z => absurd z (by decide), fun _ => ⟨fun z => absurd z (by decide), fun _ => ⟨fun z => absurd z (by decide), fun _ => ⟨fun z => absurd z (by decide), fun _ => ⟨fun z => absurd z (by decide), fun _ => ⟨fun z => absurd z (by decide), fun _ => ⟨fun z => absurd z (by decide), fun _ => ⟨fun z => absurd z (by decide), fun _ => ⟨fun z => absurd z (by decide), fun _ => ?_⟩⟩⟩⟩⟩⟩⟩⟩⟩⟩⟩
    rw [es, um, eu, sm, tm, rm']
    refine ⟨vu, vu, ?_⟩
    unfold wp_Model_reckon
    rw [ea2, eb2]
    exact ⟨fun z => absurd z (by decide), fun _ => ⟨va2, fun z => absurd z ma, fun _ => hp⟩⟩
end
/-! one instruction, both: calls and loads -/
section
variable {cd : Nat → Nat × Nat × Nat} {n nco sz f : Nat} {fre kc lc rc tk km lm rm cons cn : Nat → Int32} {π : Nat → Nat} {G : Nat → Prop} {s e d pc x y : Nat}
theorem HP.addr (h : HP sz f fre kc lc rc tk km lm rm π G) {c : Nat} (hc : US sz f fre c) (hk : kc c = 3 ∨ kc c = 4) {post : Int32 → Prop} (hp : post (lc c)) : wp_Memory_addressOf sz sz kc lc (nI c) post := by
  obtain ⟨l1, l2, l3⟩ := h.lt hc
  have v : vp_in (nI c) sz := vp_in_nI l1 (by omega)
  unfold wp_Memory_addressOf wp_Memory_hasAddress
  rw [nI_clamp (n := c) (by omega)]
  rcases hk with hk | hk
  · exact ⟨v, fun _ => ⟨fun z => absurd z (by decide), fun _ => ⟨v, hp⟩⟩, fun z => absurd hk z⟩
  · exact ⟨v, fun _ => ⟨fun z => absurd z (by decide), fun _ => ⟨v, hp⟩⟩, fun _ => ⟨v, fun _ => ⟨fun z => absurd z (by decide), fun _ => ⟨v, hp⟩⟩, fun z => absurd hk z⟩⟩
theorem HP.cell (h : HP sz f fre kc lc rc tk km lm rm π G) {c : Nat} (hc : US sz f fre c) (hk : kc c = 3 ∨ kc c = 4) {post : Int32 → Prop} (hp : post (rc c)) : wp_Memory_cellOf sz sz kc rc (nI c) post := by
  obtain ⟨l1, l2, l3⟩ := h.lt hc
  have v : vp_in (nI c) sz := vp_in_nI l1 (by omega)
  unfold wp_Memory_cellOf wp_Memory_hasAddress
  rw [nI_clamp (n := c) (by omega)]
  rcases hk with hk | hk
  · exact ⟨v, fun _ => ⟨fun z => absurd z (by decide), fun _ => ⟨v, hp⟩⟩, fun z => absurd hk z⟩
  · exact ⟨v, fun _ => ⟨fun z => absurd z (by decide), fun _ => ⟨v, hp⟩⟩, fun _ => ⟨v, fun _ => ⟨fun z => absurd z (by decide), fun _ => ⟨v, hp⟩⟩, fun z => absurd hk z⟩⟩
/-- the head of a pair is set, on both sides -/
theorem HP.setl (h : HP sz f fre kc lc rc tk km lm rm π G) {c v : Nat} (hc : US sz f fre c) (hk : kc c = 2) (hv : US sz f fre v) : HP sz f fre kc (upd lc c (nI v)) rc tk km (upd lm (π c) (nI (π v))) rm π G := by
  obtain ⟨h1, h2, h3, h4, h5, h6, h7, h8, h9, h10⟩ := h
  refine ⟨h1, h2, h3, h4, h5, fun x hx => ?_, h7, h8, h9, h10⟩
  obtain ⟨a1, a2, a3⟩ := h6 x hx
  refine ⟨a1, a2, ?_⟩
  by_cases e : x = c
  · subst e
    rcases a3 with z | z | z | z | z
    · exact absurd (hk.symm.trans z.1) (by decide)
    · exact absurd (hk.symm.trans z.1) (by decide)
    · obtain ⟨z1, z2, a, b, z3, z4, z5, z6, z7, z8⟩ := z
      exact Or.inr (Or.inr (Or.inl ⟨z1, z2, v, b, pk_us, z4, pk_us, z6, hv, z8⟩))
    · exact absurd (hk.symm.trans z.1) (by decide)
    · exact absurd (hk.symm.trans z.1) (by decide)
  · have e2 : π x ≠ π c := fun z => e (h7 x c hx hc z)
    exact a3.to (fun y hy => ⟨hy, rfl⟩) hx ⟨rfl, pk_un e, rfl⟩ ⟨rfl, pk_un e2, rfl⟩
theorem x_ap {ρ : Nat → Prop} {h q kk : Nat} {js : List Nat} {fn rap : Bool} (H : HP sz (f + 4) fre kc lc rc tk km lm rm π G) (Us : US sz (f + 4) fre s) (Ue : US sz (f + 4) fre e) (Ud : US sz (f + 4) fre d) (g : STEP cd n nco (GOOD cd n nco) pc h q js fn rap) (hcd : cd pc = (3, x, y)) (hn : n ≤ 512) (sh : SH (US sz (f + 4) fre) kc rc s h) (eh : EH (US sz (f + 4) fre) ρ kc rc e q) (dd : DD cd n nco (US sz (f + 4) fre) ρ kc lc rc kk d js fn) (ph : PH (US sz (f + 4) fre) kc lc rc) (ps : PL kc lc rc s) (pe : PL kc lc rc e) (hG : ∀ a, G a → GOOD cd n nco a 0 0 [] true false) : EXR cd n nco sz (f + 4) fre kc lc rc tk km lm rm cons cn π G s e d pc 3 x y := by
  unfold STEP at g
  rw [hcd] at g
  simp only at g
  obtain ⟨g1, g2, g3, g4, t0, t1, t2, t3, t4, t5, t6, t7, t8, t9, t12, t20⟩ := g
  have lsz := H.2.1
  have lf := H.2.2.1
  obtain ⟨lt1, lt2, lt3⟩ := H.lt Us
  have vs : vp_in (nI (π s)) 200 := vp_in_nI (by omega) (by decide)
  have es : (nI (π s)).toNatClampNeg = π s := nI_clamp (by omega)
  obtain ⟨hh, g'⟩ := t3 trivial
  obtain ⟨h0, rfl⟩ : ∃ h0, h = h0 + 1 + 1 := ⟨h - 2, by omega⟩
  obtain ⟨top, und, ta, ua, ks, tb, ub, tm, um, shu, td, ud⟩ := SH.top H Us sh
  obtain ⟨sec, rst, sa, ra, ku, sb, rb, sm, rm', shr, sd, rd⟩ := SH.top H ua shu
  have lu := H.lt ua
  have vu : vp_in (nI (π und)) 200 := vp_in_nI (by omega) (by decide)
  have eu : (nI (π und)).toNatClampNeg = π und := nI_clamp (by omega)
  have ltp := H.lt ta
  have vt : vp_in (nI (π top)) 200 := vp_in_nI (by omega) (by decide)
  have et : (nI (π top)).toNatClampNeg = π top := nI_clamp (by omega)
  have hpc : pc + 1 < 512 := by have := (GOOD.elim g').1; omega
  by_cases hk : kc top = 3
  · obtain ⟨mk, ad, env, q1, q2, q3, q4, q5, q6, q7⟩ := H.cl ta hk
    obtain ⟨c1, kc1, lc1, rc1, tk1, km1, lm1, rm1, π1, h1, h2, h3, h4, h5, h6, h7, h8, h9⟩ := H.mark hpc Ud
    obtain ⟨c2, kc2, lc2, rc2, tk2, km2, lm2, rm2, π2, i1, i2, i3, i4, i5, i6, i7, i8, i9⟩ := h1.pair (h2 e Ue).1 h3
    have E2 := h2.trans i2
    obtain ⟨c3, kc3, lc3, rc3, tk3, km3, lm3, rm3, π3, j1, j2, j3, j4, j5, j6, j7, j8, j9⟩ := i1.pair (E2 rst ra).1 i3
    have E3 := E2.trans j2
    obtain ⟨c4, kc4, lc4, rc4, tk4, km4, lm4, rm4, π4, l1, l2, l3, l4, l5, l6, l7, l8, l9⟩ := j1.pair (E3 sec sa).1 (E3 env q6).1
    have E4 := E3.trans l2
    have s1 : STAY (US sz (f + 4) fre) (US sz (f + 3) fre) ρ ρ kc lc rc kc1 lc1 rc1 := STAY.ext h2
    have s2 : STAY (US sz (f + 3) fre) (US sz (f + 2) fre) ρ (fun x => ρ x ∨ x = c2) kc1 lc1 rc1 kc2 lc2 rc2 := STAY.add i2 i4
    have s3 : STAY (US sz (f + 2) fre) (US sz (f + 1) fre) (fun x => ρ x ∨ x = c2) (fun x => (ρ x ∨ x = c2) ∨ x = c3) kc2 lc2 rc2 kc3 lc3 rc3 := STAY.add j2 j4
    have s4 : STAY (US sz (f + 1) fre) (US sz f fre) (fun x => (ρ x ∨ x = c2) ∨ x = c3) (fun x => (ρ x ∨ x = c2) ∨ x = c3) kc3 lc3 rc3 kc4 lc4 rc4 := STAY.ext l2
    have S4 := ((s1.trans s2).trans s3).trans s4
    have X1 := ((i2.trans j2).trans l2) c1 h3
    have X2 := (j2.trans l2) c2 i3
    have X3 := l2 c3 j3
    have lr := H.lt ra
    have ld := H.lt Ud
    have lee := H.lt Ue
    have lc2' := (i1.lt i3)
    have lc1' := (h1.lt h3)
    have dd2 : DD cd n nco (US sz f fre) (fun x => (ρ x ∨ x = c2) ∨ x = c3) kc4 lc4 rc4 (kk + 1) c3 [] true := by
      refine ⟨X3.1, X3.2.2.1.trans j5, Or.inr rfl, rst, c2, by omega, by omega, X3.2.2.2.1.trans j6, X3.2.2.2.2.1.trans j7, X2.1, X2.2.2.1.trans i5, Or.inl (Or.inr rfl), e, c1, by omega, by omega, X2.2.2.2.1.trans i6, X2.2.2.2.2.1.trans i7, X1.1, X1.2.2.1.trans h5, pc + 1, d, hpc, by omega, X1.2.2.2.1.trans h6, X1.2.2.2.2.1.trans h7, h0, q, js, fn, g', shr.to S4, eh.to S4, dd.to S4⟩
    have n0 := l1.nil (c := 0) (by omega)
    have tE := E4 top ta
    have tE3 := E3 top ta
    have pu := ps.r lsz ua ks ub
    have ph1 := PH.oth H h2 h3 h4 (Or.inr h5) ph
    have ph2 := (PH.pair h1 i2 i3 i4 i5 i6 i7 (h2 e Ue).1 h3 ph1 (PL.ext H h2 Ue pe)).1
    have ph3 := (PH.pair i1 j2 j3 j4 j5 j6 j7 (E2 rst ra).1 i3 ph2 (PL.ext H E2 ra (pu.r lsz ra ku rb))).1
    have ph4 := PH.pair j1 l2 l3 l4 l5 l6 l7 (E3 sec sa).1 (E3 env q6).1 ph3 (PL.ext H E3 sa (pu.l lsz sa ku sb))
    have penv := PL.ext H E3 q6 (PL.cenv hk q4 (by have := H.lt q6; omega) (ps.l lsz ta ks tb))
    refine ⟨1, f, 0, c4, c3, ad, nI ad, kc4, lc4, rc4, tk4, km4, lm4, rm4, π4, l1, n0.1, l3, X3.1, fun x hx => ⟨(E4 x hx).1, (E4 x hx).2.1, PL.ext H E4 hx⟩, fun z => NC.ext j1 l2 j3 (NC.one (Or.inl j5) j7 (by omega) (NC.ext i1 j2 i3 (NC.one (Or.inl i5) i7 (by omega) (NC.ext h1 i2 h3 (NC.one (Or.inr h5) h7 (by omega) (NC.ext H h2 Ud z)))))), by omega, by omega, by omega, fun _ => ⟨rfl, fun x => (ρ x ∨ x = c2) ∨ x = c3, 0, 0, [], true, false, kk + 1, hG ad q7, trivial, trivial, dd2, fun z => absurd z (by decide), ph4.1, PL.atom (Or.inr n0.2.2), ph4.2 penv⟩, fun z => absurd rfl z, fun post hp => td _ (ud _ (sd _ (rd _ (word_op g2 g3 g4 (⟨fun z => absurd z (by decide), fun _ => ⟨fun z => absurd z (by decide), fun _ => ⟨fun z => absurd z (by decide), fun _ => ⟨fun _ => H.kindOf ta ⟨fun _ => h8 _ (i8 _ (j8 _ (j1.cell tE3.1 (Or.inl (tE3.2.2.1.trans hk)) ?_))), fun z => absurd hk z⟩, fun z => absurd rfl z⟩⟩⟩⟩))))), fun post hp => ⟨vs, vs, ⟨fun z => absurd z (by decide), fun _ => ⟨fun z => absurd z (by decide), fun _ => ⟨fun z => absurd z (by decide), fun _ => ⟨fun z => absurd z (by decide), fun _ => ⟨fun z => absurd z (by decide), fun _ => ⟨fun z => absurd z (by decide), fun _ => ⟨fun z => absurd z (by decide), fun _ => ⟨fun _ => ⟨fun z => absurd z (by decide), fun _ => ⟨fun z => absurd z (by decide), fun _ => ⟨vs, vs, fun z => absurd z (by decide), fun _ => ⟨fun z => absurd z (by decide), fun _ => ⟨fun z => absurd z (by decide), fun _ => ?_⟩⟩⟩⟩⟩, fun z => absurd (by decide) z⟩⟩⟩⟩⟩⟩⟩⟩⟩⟩
    · rw [tE3.2.2.2.2.1, q4]
      refine l8 _ (l1.addr tE.1 (Or.inl (tE.2.2.1.trans hk)) ?_)
      rw [tE.2.2.2.1, q2]
      exact hp
    · rw [es, tm, um, et, eu, mk, sm]
      refine ⟨vt, fun _ => ⟨vu, ?_⟩, fun z => absurd rfl z⟩
      rw [nI_1]
      refine h9 _ _ ⟨fun _ => ?_, fun z => absurd rfl z⟩
      unfold wp_Model_leap_J247
      rw [used_up (by omega), eu, et, ← (h2 e Ue).2.1]
      refine i9 _ _ ⟨vu, ?_⟩
      rw [used_up (by omega), (E2 und ua).2.2.2.2.2.2.2, rm', ← (E2 rst ra).2.1]
      refine j9 _ _ ⟨vt, fun _ => ?_, fun z => absurd rfl z⟩
      rw [used_up (by omega), tE3.2.2.2.2.2.2.2, q5, ← (E3 sec sa).2.1, ← (E3 env q6).2.1]
      refine l9 _ _ ⟨vt, ?_⟩
      rw [used_up (by omega), tE.2.2.2.2.2.2.1, q3, ← X3.2.1]
      rw [n0.2.1] at hp
      exact hp
  · have nk : ¬ km (π top) = 4 := by
      rcases (H.2.2.2.2.2.1 top ta).2.2 with z | z | z | z | z
      · rw [z.2.1]; decide
      · rw [z.2.1]; decide
      · rw [z.2.1]; decide
      · exact absurd z.1 hk
      · rw [z.2.1]; decide
    refine ⟨9, f + 4, s, e, d, pc, nI (pc + 1), kc, lc, rc, tk, km, lm, rm, π, H, Us, Ue, Ud, fun x hx => ⟨hx, rfl, fun z => z⟩, fun z => z, by omega, by omega, by omega, fun z => absurd z (by decide), fun _ => ⟨rfl, ps, fun z => absurd z (by decide)⟩, fun post hp => td _ (ud _ (sd _ (rd _ (word_op g2 g3 g4 (⟨fun z => absurd z (by decide), fun _ => ⟨fun z => absurd z (by decide), fun _ => ⟨fun z => absurd z (by decide), fun _ => ⟨fun _ => H.kindOf ta ⟨fun z => absurd z hk, fun _ => hp⟩, fun z => absurd rfl z⟩⟩⟩⟩))))), fun post hp => ⟨vs, vs, ⟨fun z => absurd z (by decide), fun _ => ⟨fun z => absurd z (by decide), fun _ => ⟨fun z => absurd z (by decide), fun _ => ⟨fun z => absurd z (by decide), fun _ => ⟨fun z => absurd z (by decide), fun _ => ⟨fun z => absurd z (by decide), fun _ => ⟨fun z => absurd z (by decide), fun _ => ⟨fun _ => ⟨fun z => absurd z (by decide), fun _ => ⟨fun z => absurd z (by decide), fun _ => ⟨vs, vs, fun z => absurd z (by decide), fun _ => ⟨fun z => absurd z (by decide), fun _ => ⟨fun z => absurd z (by decide), fun _ => ?_⟩⟩⟩⟩⟩, fun z => absurd (by decide) z⟩⟩⟩⟩⟩⟩⟩⟩⟩⟩
    rw [es, tm, et]
    exact ⟨vt, fun z => absurd z nk, fun _ => hp⟩
theorem x_rap {ρ : Nat → Prop} {h q kk : Nat} {js : List Nat} {fn rap : Bool} (H : HP sz (f + 3) fre kc lc rc tk km lm rm π G) (Us : US sz (f + 3) fre s) (Ue : US sz (f + 3) fre e) (Ud : US sz (f + 3) fre d) (g : STEP cd n nco (GOOD cd n nco) pc h q js fn rap) (hcd : cd pc = (6, x, y)) (hn : n ≤ 512) (sh : SH (US sz (f + 3) fre) kc rc s h) (eh : EH (US sz (f + 3) fre) ρ kc rc e q) (dd : DD cd n nco (US sz (f + 3) fre) ρ kc lc rc kk d js fn) (ph : PH (US sz (f + 3) fre) kc lc rc) (ps : PL kc lc rc s) (pe : PL kc lc rc e) (hG : ∀ a, G a → GOOD cd n nco a 0 0 [] true false) (hr : rap = true → ∃ c, c < 200 ∧ lc s = nI c ∧ US sz (f + 3) fre c ∧ kc c = 3 ∧ rc c = nI e) : EXR cd n nco sz (f + 3) fre kc lc rc tk km lm rm cons cn π G s e d pc 6 x y := by
  unfold STEP at g
  rw [hcd] at g
  simp only at g
  obtain ⟨g1, g2, g3, g4, t0, t1, t2, t3, t4, t5, t6, t7, t8, t9, t12, t20⟩ := g
  have lsz := H.2.1
  have lf := H.2.2.1
  obtain ⟨lt1, lt2, lt3⟩ := H.lt Us
  have vs : vp_in (nI (π s)) 200 := vp_in_nI (by omega) (by decide)
  have es : (nI (π s)).toNatClampNeg = π s := nI_clamp (by omega)
  obtain ⟨hrp, hh, hq, g'⟩ := t6 trivial
  obtain ⟨h0, rfl⟩ : ∃ h0, h = h0 + 1 + 1 := ⟨h - 2, by omega⟩
  obtain ⟨top, und, ta, ua, ks, tb, ub, tm, um, shu, td, ud⟩ := SH.top H Us sh
  obtain ⟨sec, rst, sa, ra, ku, sb, rb, sm, rm', shr, sd, rd⟩ := SH.top H ua shu
  have lu := H.lt ua
  have vu : vp_in (nI (π und)) 200 := vp_in_nI (by omega) (by decide)
  have eu : (nI (π und)).toNatClampNeg = π und := nI_clamp (by omega)
  obtain ⟨q0, rfl⟩ : ∃ q0, q = q0 + 1 := ⟨q - 1, by omega⟩
  have ltp := H.lt ta
  have vt : vp_in (nI (π top)) 200 := vp_in_nI (by omega) (by decide)
  have et : (nI (π top)).toNatClampNeg = π top := nI_clamp (by omega)
  have hpc : pc + 1 < 512 := by have := (GOOD.elim g').1; omega
  obtain ⟨c, r1, r2, r3, hk, r5⟩ := hr hrp
  have ec : c = top := (nI_eq (by omega) (by omega)).mp (r2.symm.trans tb)
  subst ec
  obtain ⟨mk, ad, env, q1, q2, q3, q4, q5, q6, q7⟩ := H.cl ta hk
  have le := H.lt Ue
  have lenv := H.lt q6
  have ee : env = e := (nI_eq (by omega) (by omega)).mp (q4.symm.trans r5)
  subst ee
  obtain ⟨e1, e2, e3, b0, e4, e5, e6⟩ := eh
  obtain ⟨out_, o1, o2, o3, o4⟩ := H.tail Ue
  have lo := H.lt o1
  have eo : out_ = b0 := (nI_eq (by omega) (by omega)).mp ((o2 e3).1.symm.trans e5)
  subst eo
  obtain ⟨c1, kc1, lc1, rc1, tk1, km1, lm1, rm1, π1, h1, h2, h3, h4, h5, h6, h7, h8, h9⟩ := H.mark hpc Ud
  obtain ⟨c2, kc2, lc2, rc2, tk2, km2, lm2, rm2, π2, i1, i2, i3, i4, i5, i6, i7, i8, i9⟩ := h1.pair (h2 out_ o1).1 h3
  have E2 := h2.trans i2
  obtain ⟨c3, kc3, lc3, rc3, tk3, km3, lm3, rm3, π3, j1, j2, j3, j4, j5, j6, j7, j8, j9⟩ := i1.pair (E2 rst ra).1 i3
  have E3 := E2.trans j2
  have s1 : STAY (US sz (f + 3) fre) (US sz (f + 2) fre) ρ ρ kc lc rc kc1 lc1 rc1 := STAY.ext h2
  have s2 : STAY (US sz (f + 2) fre) (US sz (f + 1) fre) ρ (fun x => ρ x ∨ x = c2) kc1 lc1 rc1 kc2 lc2 rc2 := STAY.add i2 i4
  have s3 : STAY (US sz (f + 1) fre) (US sz f fre) (fun x => ρ x ∨ x = c2) (fun x => (ρ x ∨ x = c2) ∨ x = c3) kc2 lc2 rc2 kc3 lc3 rc3 := STAY.add j2 j4
  have S3 := (s1.trans s2).trans s3
  have eE := E3 env Ue
  have ke : kc3 env = 2 := eE.2.2.1.trans e3
  have ne : ¬ ((ρ env ∨ env = c2) ∨ env = c3) := fun z => e2 ((S3 env Ue).2.1.mp z)
  have s4 : STAY (US sz f fre) (US sz f fre) (fun x => (ρ x ∨ x = c2) ∨ x = c3) (fun x => (ρ x ∨ x = c2) ∨ x = c3) kc3 lc3 rc3 kc3 (upd lc3 env (nI sec)) rc3 := fun x hx => ⟨hx, Iff.rfl, rfl, rfl, fun z => pk_un (fun y => by
    subst y
    rcases z with z | z
    · exact ne z
    · exact z ke)⟩
  have S4 := S3.trans s4
  have X1 := (i2.trans j2) c1 h3
  have X2 := j2 c2 i3
  have HF := j1.setl eE.1 ke (E3 sec sa).1
  have lr := H.lt ra
  have ld := H.lt Ud
  have lc2' := (i1.lt i3)
  have lc1' := (h1.lt h3)
  have n23 : c2 ≠ env := fun z => ne (Or.inl (Or.inr z.symm))
  have n33 : c3 ≠ env := fun z => ne (Or.inr z.symm)
  have n13 : c1 ≠ env := fun z => by
    have := X1.2.2.1.trans h5
    rw [z, ke] at this
    exact absurd this (by decide)
  have dd2 : DD cd n nco (US sz f fre) (fun x => (ρ x ∨ x = c2) ∨ x = c3) kc3 (upd lc3 env (nI sec)) rc3 (kk + 1) c3 [] true := by
    refine ⟨j3, j5, Or.inr rfl, rst, c2, by omega, by omega, (pk_un n33).trans j6, j7, X2.1, X2.2.2.1.trans i5, Or.inl (Or.inr rfl), out_, c1, by omega, by omega, (pk_un n23).trans (X2.2.2.2.1.trans i6), X2.2.2.2.2.1.trans i7, X1.1, X1.2.2.1.trans h5, pc + 1, d, hpc, by omega, (pk_un n13).trans (X1.2.2.2.1.trans h6), X1.2.2.2.2.1.trans h7, h0, q0, js, fn, g', shr.to S4, e6.to S4, dd.to S4⟩
  have n0 := j1.nil (c := 0) (by omega)
  have tE := E3 c ta
  have ntop : c ≠ env := fun z => by rw [z, e3] at hk; exact absurd hk (by decide)
  have npt : π3 c ≠ π3 env := fun z => ntop (j1.inj tE.1 eE.1 z)
  have lenv3 := j1.lt eE.1
  have pu := ps.r lsz ua ks ub
  have ph1 := PH.oth H h2 h3 h4 (Or.inr h5) ph
  have ph2 := (PH.pair h1 i2 i3 i4 i5 i6 i7 (h2 out_ o1).1 h3 ph1 (PL.ext H h2 o1 (PL.t H o1 o2 o3 pe))).1
  have ph3 := (PH.pair i1 j2 j3 j4 j5 j6 j7 (E2 rst ra).1 i3 ph2 (PL.ext H E2 ra (pu.r lsz ra ku rb))).1
  have psec := PL.ext H E3 sa (pu.l lsz sa ku sb)
  have lsec := H.lt sa
  have venv : vp_in (nI env) sz := vp_in_nI (by omega) (by omega)
  have ven2 : vp_in (nI (π env)) 200 := vp_in_nI (by omega) (by decide)
  have een : (nI (π env)).toNatClampNeg = π env := nI_clamp (by omega)
  refine ⟨1, f, 0, env, c3, ad, nI ad, kc3, upd lc3 env (nI sec), rc3, tk3, km3, upd lm3 (π3 env) (nI (π3 sec)), rm3, π3, HF, n0.1, eE.1, j3, fun x hx => ⟨(E3 x hx).1, (E3 x hx).2.1, fun z => PL.setl ke (by omega) psec (PL.ext H E3 hx z)⟩, fun z => NC.one (Or.inl j5) j7 (by omega) (NC.ext i1 j2 i3 (NC.one (Or.inl i5) i7 (by omega) (NC.ext h1 i2 h3 (NC.one (Or.inr h5) h7 (by omega) (NC.ext H h2 Ud z))))), by omega, by omega, by omega, fun _ => ⟨rfl, fun x => (ρ x ∨ x = c2) ∨ x = c3, 0, 0, [], true, false, kk + 1, hG ad q7, trivial, trivial, dd2, fun z => absurd z (by decide), PH.setl ke (by omega) psec ph3, PL.atom (Or.inr n0.2.2), PL.setl ke (by omega) psec (PL.ext H E3 Ue pe)⟩, fun z => absurd rfl z, fun post hp => td _ (ud _ (sd _ (rd _ (word_op g2 g3 g4 (⟨fun z => absurd z (by decide), fun _ => ⟨fun z => absurd z (by decide), fun _ => ⟨fun z => absurd z (by decide), fun _ => ⟨fun z => absurd z (by decide), fun _ => ⟨fun z => absurd z (by decide), fun _ => ⟨fun z => absurd z (by decide), fun _ => ⟨fun _ => o4 _ (h8 _ (i8 _ (j8 _ (j1.cell tE.1 (Or.inl (tE.2.2.1.trans hk)) ?_)))), fun z => absurd rfl z⟩⟩⟩⟩⟩⟩⟩))))), fun post hp => ⟨vs, vs, ⟨fun z => absurd z (by decide), fun _ => ⟨fun z => absurd z (by decide), fun _ => ⟨fun z => absurd z (by decide), fun _ => ⟨fun z => absurd z (by decide), fun _ => ⟨fun z => absurd z (by decide), fun _ => ⟨fun z => absurd z (by decide), fun _ => ⟨fun z => absurd z (by decide), fun _ => ⟨fun _ => ⟨fun z => absurd z (by decide), fun _ => ⟨fun z => absurd z (by decide), fun _ => ⟨vs, vs, fun z => absurd z (by decide), fun _ => ⟨fun z => absurd z (by decide), fun _ => ⟨fun z => absurd z (by decide), fun _ => ?_⟩⟩⟩⟩⟩, fun z => absurd (by decide) z⟩⟩⟩⟩⟩⟩⟩⟩⟩⟩
  · rw [tE.2.2.2.2.1, q4]
    refine j1.isPair eE.1 (fun _ => ⟨fun z => absurd z (by decide), fun _ => ⟨venv, ?_⟩⟩) (fun z => absurd ke z)
    rw [nI_clamp (n := env) (by omega)]
    refine HF.addr tE.1 (Or.inl (tE.2.2.1.trans hk)) ?_
    rw [pk_un ntop, tE.2.2.2.1, q2]
    exact hp
  · rw [es, tm, um, et, eu, mk, sm]
    refine ⟨vt, fun _ => ⟨vu, ?_⟩, fun z => absurd rfl z⟩
    rw [nI_1]
    refine h9 _ _ ⟨fun z => absurd z (by decide), fun _ => ⟨ven2, ?_⟩⟩
    unfold wp_Model_leap_J247
    rw [used_up (by omega), eu, et, een, (h2 env Ue).2.2.2.2.2.2.2, (o2 e3).2, ← (h2 out_ o1).2.1]
    refine i9 _ _ ⟨vu, ?_⟩
    rw [used_up (by omega), (E2 und ua).2.2.2.2.2.2.2, rm', ← (E2 rst ra).2.1]
    refine j9 _ _ ⟨vt, fun z => absurd z (by decide), fun _ => ?_⟩
    rw [tE.2.2.2.2.2.2.2, q5, een]
    refine ⟨ven2, vt, ?_⟩
    rw [used_up (by omega), ← eE.2.1, ← (E3 sec sa).2.1, pk_un (by rw [← tE.2.1]; exact npt), tE.2.2.2.2.2.2.1, q3]
    rw [n0.2.1] at hp
    exact hp
theorem x_rtn {ρ : Nat → Prop} {h q kk : Nat} {js : List Nat} {fn rap : Bool} (H : HP sz (f + 1) fre kc lc rc tk km lm rm π G) (Us : US sz (f + 1) fre s) (Ue : US sz (f + 1) fre e) (Ud : US sz (f + 1) fre d) (g : STEP cd n nco (GOOD cd n nco) pc h q js fn rap) (hcd : cd pc = (4, x, y)) (hn : n ≤ 512) (sh : SH (US sz (f + 1) fre) kc rc s h) (eh : EH (US sz (f + 1) fre) ρ kc rc e q) (dd : DD cd n nco (US sz (f + 1) fre) ρ kc lc rc kk d js fn) (ph : PH (US sz (f + 1) fre) kc lc rc) (ps : PL kc lc rc s) (pe : PL kc lc rc e) : EXR cd n nco sz (f + 1) fre kc lc rc tk km lm rm cons cn π G s e d pc 4 x y := by
  unfold STEP at g
  rw [hcd] at g
  simp only at g
  obtain ⟨g1, g2, g3, g4, t0, t1, t2, t3, t4, t5, t6, t7, t8, t9, t12, t20⟩ := g
  have lsz := H.2.1
  have lf := H.2.2.1
  obtain ⟨lt1, lt2, lt3⟩ := H.lt Us
  have vs : vp_in (nI (π s)) 200 := vp_in_nI (by omega) (by decide)
  have es : (nI (π s)).toNatClampNeg = π s := nI_clamp (by omega)
  obtain ⟨hfn, hjs, hh⟩ := t4 trivial
  subst hfn hjs
  obtain ⟨h0, rfl⟩ : ∃ h0, h = h0 + 1 := ⟨h - 1, by omega⟩
  obtain ⟨top, und, ta, ua, ks, tb, ub, tm, um, shu, td, ud⟩ := SH.top H Us sh
  obtain ⟨sec, sa, sb, sc, sd⟩ := H.head ua
  obtain ⟨rst, ra, rb, rc', rd⟩ := H.tail ua
  have ltp := H.lt ta
  have vt : vp_in (nI (π top)) 200 := vp_in_nI (by omega) (by decide)
  have et : (nI (π top)).toNatClampNeg = π top := nI_clamp (by omega)
  cases kk with
  | zero => exact (dd : False).elim
  | succ kk =>
    obtain ⟨d1, d2, d3, a, b, d4, d5, d6, d7, d8, d9, d10, a2, b2, d11, d12, d13, d14, d15, d16, ret, d0, d17, d18, d19, d20, h', q', js', fn', d21, d22, d23, d24⟩ := dd
    obtain ⟨-, A, B, p1, p2, p3, p4, p5, p6⟩ := H.pr Ud d2
    have lA := H.lt p5
    have lB := H.lt p6
    have eA : A = a := (nI_eq (by omega) (by omega)).mp (p1.symm.trans d6)
    have eB : B = b := (nI_eq (by omega) (by omega)).mp (p2.symm.trans d7)
    subst eA eB
    obtain ⟨-, A2, B2, r1, r2, r3, r4, r5, r6⟩ := H.pr p6 d9
    have lA2 := H.lt r5
    have lB2 := H.lt r6
    have eA2 : A2 = a2 := (nI_eq (by omega) (by omega)).mp (r1.symm.trans d13)
    have eB2 : B2 = b2 := (nI_eq (by omega) (by omega)).mp (r2.symm.trans d14)
    subst eA2 eB2
    obtain ⟨-, A3, B3, u1, u2, u3, u4, u5, u6⟩ := H.mk r6 d16
    have lB3 := H.lt u6
    have eA3 : A3 = ret := (nI_eq (by omega) (by omega)).mp (u2.symm.trans d19)
    have eB3 : B3 = d0 := (nI_eq (by omega) (by omega)).mp (u4.symm.trans d20)
    subst eA3 eB3
    obtain ⟨hd, w1, w2, w3, w4⟩ := H.head Ud
    obtain ⟨tl, x1, x2, x3, x4⟩ := H.tail Ud
    obtain ⟨tl2, y1, y2, y3, y4⟩ := H.tail p6
    have lhd := H.lt w1
    have ltl := H.lt x1
    have ltl2 := H.lt y1
    have f1 : hd = A := (nI_eq (by omega) (by omega)).mp ((w2 d2).1.symm.trans p1)
    have f2 : tl = B := (nI_eq (by omega) (by omega)).mp ((x2 d2).1.symm.trans p2)
    have f3 : tl2 = B2 := (nI_eq (by omega) (by omega)).mp ((y2 d9).1.symm.trans r2)
    subst f1 f2 f3
    obtain ⟨c, kc1, lc1, rc1, tk1, km1, lm1, rm1, π1, h1, h2, h3, h4, h5, h6⟩ := PUSH (e := A2) (d := B3) H ta w1 d22 d21 d23 d24 ph (ps.l lsz ta ks tb) (ph _ _ Ud (by omega) (Or.inl ⟨d2, p1⟩)) r5 (ph _ _ p6 (by omega) (Or.inl ⟨d9, r1⟩))
    have ld := H.lt Ud
    have vd2 : vp_in (nI (π d)) 200 := vp_in_nI (by omega) (by decide)
    have ed2 : (nI (π d)).toNatClampNeg = π d := nI_clamp (by omega)
    have vb2 : vp_in (nI (π tl)) 200 := vp_in_nI (by omega) (by decide)
    have eb2 : (nI (π tl)).toNatClampNeg = π tl := nI_clamp (by omega)
    have vc2 : vp_in (nI (π tl2)) 200 := vp_in_nI (by omega) (by decide)
    have ec2 : (nI (π tl2)).toNatClampNeg = π tl2 := nI_clamp (by omega)
    have X := h2 tl p6
    have Y := h2 tl2 r6
    obtain ⟨hb, v1, v2, v3, v4⟩ := h1.head X.1
    have lhb := h1.lt v1
    have f4 : hb = A2 := (nI_eq (by omega) (by omega)).mp ((v2 (X.2.2.1.trans d9)).1.symm.trans (X.2.2.2.1.trans r1))
    subst f4
    refine ⟨1, f, c, hb, B3, A3, nI A3, kc1, lc1, rc1, tk1, km1, lm1, rm1, π1, h1, h3, v1, (h2 B3 u6).1, fun x hx => ⟨(h2 x hx).1, (h2 x hx).2.1, PL.ext H h2 hx⟩, fun z => NC.ext H h2 u6 (((z.edg ⟨by omega, Or.inl d2, p2⟩).edg ⟨by omega, Or.inl d9, r2⟩).edg ⟨by omega, Or.inr d16, u4⟩), by omega, by omega, by omega, fun _ => ⟨rfl, h4⟩, fun z => absurd rfl z, fun post hp => td _ (ud _ (sd _ (rd _ (word_op g2 g3 g4 (⟨fun z => absurd z (by decide), fun _ => ⟨fun z => absurd z (by decide), fun _ => ⟨fun z => absurd z (by decide), fun _ => ⟨fun z => absurd z (by decide), fun _ => ⟨fun _ => x4 _ (y4 _ (w4 _ (h5 _ (v4 _ (h1.addr Y.1 (Or.inr (Y.2.2.1.trans d16)) (h1.cell Y.1 (Or.inr (Y.2.2.1.trans d16)) ?_)))))), fun z => absurd rfl z⟩⟩⟩⟩⟩))))), fun post hp => ⟨vs, vs, ⟨fun z => absurd z (by decide), fun _ => ⟨fun z => absurd z (by decide), fun _ => ⟨fun z => absurd z (by decide), fun _ => ⟨fun z => absurd z (by decide), fun _ => ⟨fun z => absurd z (by decide), fun _ => ⟨fun z => absurd z (by decide), fun _ => ⟨fun z => absurd z (by decide), fun _ => ⟨fun _ => ⟨fun z => absurd z (by decide), fun _ => ⟨fun z => absurd z (by decide), fun _ => ⟨vs, vs, fun z => absurd z (by decide), fun _ => ⟨fun z => absurd z (by decide), fun _ => ⟨fun _ => ?_, fun z => absurd rfl z⟩⟩⟩⟩⟩, fun z => absurd (by decide) z⟩⟩⟩⟩⟩⟩⟩⟩⟩⟩
    · rw [Y.2.2.2.1, u2, Y.2.2.2.2.1, u4]
      exact hp
    · rw [es, tm, ed2, p4, eb2]
      refine ⟨vd2, vb2, fun x7 hx7 => ?_⟩
      rw [r4] at hx7
      subst hx7
      rw [p3, ec2]
      refine ⟨vd2, h6 _ _ ⟨vb2, vc2, vc2, ?_⟩⟩
      rw [used_up (by omega), Y.2.2.2.2.2.2.1, u3, Y.2.2.2.2.2.2.2, u5, X.2.2.2.2.2.2.1, r3, ← (h2 hb r5).2.1, ← (h2 B3 u6).2.1]
      exact hp
end
/-! one instruction, both: LD; all of them -/
section
variable {cd : Nat → Nat × Nat × Nat} {n nco sz f : Nat} {fre kc lc rc tk km lm rm cons cn : Nat → Int32} {π : Nat → Nat} {G : Nat → Prop} {s e d pc x y : Nat}
/-- both go r tails on; i and j are what LD says, k the step of the reference that they are at -/
theorem tails_both (H : HP sz f fre kc lc rc tk km lm rm π G) {i j : Nat} (hij : i + j < 2000) : ∀ (r c k : Nat), US sz f fre c → k + r ≤ i + j + 1 → (∀ m, m < r → k + m ≠ i ∧ k + m ≠ i + j + 1) →
    ∃ p, US sz f fre p ∧ (PL kc lc rc c → PL kc lc rc p) ∧
      (∀ (K32 : Int32 → Prop) (post : Int32 → Prop) (t tot : Nat), t + r = tot → tot < 2000 → K32 (nI p) → wp_Memory_pairBehind_L5 sz sz kc rc K32 post (r + 1) (nI tot) (nI c) (nI t)) ∧
      ((kc p = 2 ∧ ∀ (ie us pcI sI : Int32) (K78 : Int32 → Int32 → Int32 → Int32 → (Nat → Int32) → (Nat → Int32) → (Nat → Int32) → (Nat → Int32) → Prop) (mp : Int32 → Int32 → Int32 → Int32 → (Nat → Int32) → (Nat → Int32) → (Nat → Int32) → (Nat → Int32) → Prop) (fu : Nat), wp_Model_fetch_L8 (nI sz) ie K78 mp (fu + 1) (nI i) (nI j) (nI (π p)) (nI (k + r)) us pcI sI km lm rm tk → wp_Model_fetch_L8 (nI sz) ie K78 mp (fu + r + 1) (nI i) (nI j) (nI (π c)) (nI k) us pcI sI km lm rm tk) ∨
       (¬ kc p = 2 ∧ ∀ (ie us pcI sI : Int32) (K78 : Int32 → Int32 → Int32 → Int32 → (Nat → Int32) → (Nat → Int32) → (Nat → Int32) → (Nat → Int32) → Prop) (mp : Int32 → Int32 → Int32 → Int32 → (Nat → Int32) → (Nat → Int32) → (Nat → Int32) → (Nat → Int32) → Prop) (fu : Nat), mp 5 us pcI sI km lm rm tk → wp_Model_fetch_L8 (nI sz) ie K78 mp (fu + r + 1) (nI i) (nI j) (nI (π c)) (nI k) us pcI sI km lm rm tk))
  | 0, c, k, Uc, hk, hm => by
    refine ⟨c, Uc, fun z => z, fun K32 post t tot e ht hp => ?_, ?_⟩
    · have : t = tot := e
      subst this
      exact ⟨fun _ => hp, fun z => absurd (Int32.le_refl _) z⟩
    · by_cases hp : kc c = 2
      · exact Or.inl ⟨hp, fun ie us pcI sI K78 mp fu h => h⟩
      · refine Or.inr ⟨hp, fun ie us pcI sI K78 mp fu h => ?_⟩
        have e1 : nI i + nI j + 1 = nI (i + j + 1) := by rw [nI_add, nI_1]
        refine ⟨fun z => ?_, fun _ => H.mpair Uc (fun z => absurd z hp) (fun _ => ⟨fun _ => h, fun z => absurd rfl z⟩)⟩
        rw [e1] at z
        exact absurd z (nI_nlt (by omega) (by omega))
  | r + 1, c, k, Uc, hk, hm => by
    have e1 : nI i + nI j + 1 = nI (i + j + 1) := by rw [nI_add, nI_1]
    have nlt : ¬ nI (i + j + 1) < nI k := nI_nlt (by omega) (by omega)
    obtain ⟨l1, l2, l3⟩ := H.lt Uc
    by_cases hp : kc c = 2
    · obtain ⟨-, a, b, p1, p2, p3, p4, p5, p6⟩ := H.pr Uc hp
      obtain ⟨p, q1, q1b, q2, q3⟩ := tails_both H hij r b (k + 1) p6 (by omega) (fun m hm2 => by have := hm (m + 1) (by omega); omega)
      have stepm : ∀ (ie us pcI sI : Int32) (K78 : Int32 → Int32 → Int32 → Int32 → (Nat → Int32) → (Nat → Int32) → (Nat → Int32) → (Nat → Int32) → Prop) (mp : Int32 → Int32 → Int32 → Int32 → (Nat → Int32) → (Nat → Int32) → (Nat → Int32) → (Nat → Int32) → Prop) (fu : Nat), wp_Model_fetch_L8 (nI sz) ie K78 mp fu (nI i) (nI j) (nI (π b)) (nI (k + 1)) us pcI sI km lm rm tk → wp_Model_fetch_L8 (nI sz) ie K78 mp (fu + 1) (nI i) (nI j) (nI (π c)) (nI k) us pcI sI km lm rm tk := fun ie us pcI sI K78 mp fu h => by
        refine ⟨fun z => ?_, fun _ => H.mpair Uc (fun _ => ⟨fun z => absurd z (by decide), fun _ => ⟨fun z => ?_, fun _ => ⟨fun z => ?_, fun _ => ⟨fun _ => ⟨vp_in_nI (by omega) (by decide), ?_⟩, fun z => absurd rfl z⟩⟩⟩⟩) (fun z => absurd hp z)⟩
        · rw [e1] at z; exact absurd z nlt
        · exact absurd ((nI_eq (by omega) (by omega)).mp z) (by have := hm 0 (by omega); omega)
        · rw [e1] at z; exact absurd ((nI_eq (by omega) (by omega)).mp z) (by have := hm 0 (by omega); omega)
        · unfold wp_Model_fetch_J71
          rw [nI_clamp (n := π c) (by omega), p4, nI_1]
          exact h
      refine ⟨p, q1, fun z => q1b (z.r H.2.1 p6 hp p2), fun K32 post t tot e ht hk2 => ?_, ?_⟩
      · refine ⟨fun z => absurd z (nI_ge (by omega) (by omega)), fun _ => H.isPair Uc (fun _ => ⟨fun z => absurd z (by decide), fun _ => ⟨vp_in_nI l1 (by omega), ?_⟩⟩) (fun z => absurd hp z)⟩
        rw [nI_clamp (n := c) (by omega), p2, nI_1]
        exact q2 K32 post (t + 1) tot (by omega) ht hk2
      · rcases q3 with ⟨z1, z2⟩ | ⟨z1, z2⟩
        · exact Or.inl ⟨z1, fun ie us pcI sI K78 mp fu h => stepm _ _ _ _ _ _ _ (z2 ie us pcI sI K78 mp fu (by rw [show k + 1 + r = k + (r + 1) by omega]; exact h))⟩
        · exact Or.inr ⟨z1, fun ie us pcI sI K78 mp fu h => stepm _ _ _ _ _ _ _ (z2 ie us pcI sI K78 mp fu h)⟩
    · refine ⟨c, Uc, fun z => z, fun K32 post t tot e ht hk2 => ?_, Or.inr ⟨hp, fun ie us pcI sI K78 mp fu h => ?_⟩⟩
      · exact ⟨fun z => absurd z (nI_ge (by omega) (by omega)), fun _ => H.isPair Uc (fun z => absurd z hp) (fun _ => ⟨fun _ => hk2, fun z => absurd rfl z⟩)⟩
      · refine ⟨fun z => ?_, fun _ => H.mpair Uc (fun z => absurd z hp) (fun _ => ⟨fun _ => h, fun z => absurd rfl z⟩)⟩
        rw [e1] at z
        exact absurd z nlt
theorem x_ld {ρ : Nat → Prop} {h q kk : Nat} {js : List Nat} {fn rap : Bool} (H : HP sz (f + 1) fre kc lc rc tk km lm rm π G) (Us : US sz (f + 1) fre s) (Ue : US sz (f + 1) fre e) (Ud : US sz (f + 1) fre d) (g : STEP cd n nco (GOOD cd n nco) pc h q js fn rap) (hcd : cd pc = (0, x, y)) (hn : n ≤ 512) (sh : SH (US sz (f + 1) fre) kc rc s h) (eh : EH (US sz (f + 1) fre) ρ kc rc e q) (dd : DD cd n nco (US sz (f + 1) fre) ρ kc lc rc kk d js fn) (ph : PH (US sz (f + 1) fre) kc lc rc) (ps : PL kc lc rc s) (pe : PL kc lc rc e) : EXR cd n nco sz (f + 1) fre kc lc rc tk km lm rm cons cn π G s e d pc 0 x y := by
  unfold STEP at g
  rw [hcd] at g
  simp only at g
  obtain ⟨g1, g2, g3, g4, t0, t1, t2, t3, t4, t5, t6, t7, t8, t9, t12, t20⟩ := g
  have lsz := H.2.1
  have lf := H.2.2.1
  obtain ⟨lt1, lt2, lt3⟩ := H.lt Us
  have vs : vp_in (nI (π s)) 200 := vp_in_nI (by omega) (by decide)
  have es : (nI (π s)).toNatClampNeg = π s := nI_clamp (by omega)
  have g' := t0 trivial
  obtain ⟨top, ta, tb, tc, td⟩ := H.head Us
  obtain ⟨und, ua, ub, uc, ud⟩ := H.tail Us
  obtain ⟨sec, sa, sb, sc, sd⟩ := H.head ua
  obtain ⟨rst, ra, rb, rc', rd⟩ := H.tail ua
  have e1 : nI x + nI y + 1 = nI (x + y + 1) := by rw [nI_add, nI_1]
  have pbk : ∀ (c p r : Nat), US sz (f + 1) fre p → r < 2000 → (∀ (K32 : Int32 → Prop) (post : Int32 → Prop) (t tot : Nat), t + r = tot → tot < 2000 → K32 (nI p) → wp_Memory_pairBehind_L5 sz sz kc rc K32 post (r + 1) (nI tot) (nI c) (nI t)) → ∀ P : Int32 → Prop, (kc p = 2 → P (nI p)) → (¬ kc p = 2 → P (-1)) → wp_Memory_pairBehind sz sz kc rc (nI c) (nI r) P := fun c p r Up hr hq P h1 h0 => ⟨r + 1, hq _ _ 0 r (by omega) hr (H.isPair Up (fun z => ⟨fun z2 => absurd z2 (by decide), fun _ => h1 z⟩) (fun z => ⟨fun _ => h0 z, fun z2 => absurd rfl z2⟩))⟩
  obtain ⟨p, p1, p1b, p2, p3⟩ := tails_both H (i := x) (j := y) (by omega) x e 0 Ue (by omega) (fun m hm => by omega)
  rcases p3 with ⟨hp2, p3⟩ | ⟨hp2, p3⟩
  · obtain ⟨hd, a1, a2, a3, a4⟩ := H.head p1
    have lp := H.lt p1
    have np : ¬ nI p = -1 := nI_m1 (by omega)
    have vp2 : vp_in (nI (π p)) 200 := vp_in_nI (by omega) (by decide)
    have ep2 : (nI (π p)).toNatClampNeg = π p := nI_clamp (by omega)
    obtain ⟨w, w1, w1b, w2, w3⟩ := tails_both H (i := x) (j := y) (by omega) y hd (x + 1) a1 (by omega) (fun m hm => by omega)
    have lw := H.lt w1
    have nw : ¬ nI w = -1 := nI_m1 (by omega)
    have vw2 : vp_in (nI (π w)) 200 := vp_in_nI (by omega) (by decide)
    have ew2 : (nI (π w)).toNatClampNeg = π w := nI_clamp (by omega)
    have mid : ∀ (K78 : Int32 → Int32 → Int32 → Int32 → (Nat → Int32) → (Nat → Int32) → (Nat → Int32) → (Nat → Int32) → Prop) (mp : Int32 → Int32 → Int32 → Int32 → (Nat → Int32) → (Nat → Int32) → (Nat → Int32) → (Nat → Int32) → Prop) (fu : Nat), wp_Model_fetch_L8 (nI sz) (nI (π e)) K78 mp fu (nI x) (nI y) (nI (π hd)) (nI (x + 1)) (nI (sz - (f + 1))) (nI pc) (nI (π s)) km lm rm tk → ∃ fu, wp_Model_fetch_L8 (nI sz) (nI (π e)) K78 mp fu (nI x) (nI y) (nI (π e)) 0 (nI (sz - (f + 1))) (nI pc) (nI (π s)) km lm rm tk := fun K78 mp fu h => by
      refine ⟨fu + x + 1, p3 _ _ _ _ _ _ fu ?_⟩
      rw [Nat.zero_add]
      refine ⟨fun z => ?_, fun _ => H.mpair p1 (fun _ => ⟨fun z => absurd z (by decide), fun _ => ⟨fun _ => ?_, fun z => absurd rfl z⟩⟩) (fun z => absurd hp2 z)⟩
      · rw [e1] at z; exact absurd z (nI_nlt (by omega) (by omega))
      · unfold wp_Model_fetch_J44 wp_Model_fetch_J49 wp_Model_fetch_J71
        rw [ep2, (a2 hp2).2, nI_1]
        exact ⟨fun z => absurd z (by decide), fun _ => ⟨vp2, h⟩⟩
    rcases w3 with ⟨hw2, w3⟩ | ⟨hw2, w3⟩
    · obtain ⟨v, b1, b2, b3, b4⟩ := H.head w1
      obtain ⟨c, kc1, lc1, rc1, tk1, km1, lm1, rm1, π1, h1, h2, h3, h4, h5, h6⟩ := PUSH H b1 Us sh g' eh dd ph (PL.h H b1 b2 b3 (w1b (PL.h H a1 a2 a3 (p1b pe)))) ps Ue pe
      refine ⟨1, f, c, e, d, pc + 1, nI (pc + 1), kc1, lc1, rc1, tk1, km1, lm1, rm1, π1, h1, h3, (h2 e Ue).1, (h2 d Ud).1, fun x hx => ⟨(h2 x hx).1, (h2 x hx).2.1, PL.ext H h2 hx⟩, NC.ext H h2 Ud, by omega, by omega, by omega, fun _ => ⟨rfl, h4⟩, fun z => absurd rfl z, fun post hp => td _ (ud _ (sd _ (rd _ (word_op g2 g3 g4 (⟨fun _ => word_first g2 g3 g4 (word_second g2 g3 g4 (pbk e p x p1 (by omega) p2 _ (fun _ => ⟨fun z => absurd z np, fun _ => a4 _ (pbk hd w y w1 (by omega) w2 _ (fun _ => ⟨fun z => absurd z nw, fun _ => b4 _ (h5 _ hp)⟩) (fun z => absurd hw2 z))⟩) (fun z => absurd hp2 z))), fun z => absurd rfl z⟩))))), fun post hp => ⟨vs, vs, ⟨fun _ => mid _ _ (0 + 1 + y + 1) (w3 _ _ _ _ _ _ (0 + 1) ?_), fun z => absurd rfl z⟩⟩⟩
      refine ⟨fun z => ?_, fun _ => H.mpair w1 (fun _ => ⟨fun z => absurd z (by decide), fun _ => ⟨fun z => absurd ((nI_eq (by omega) (by omega)).mp z) (by omega), fun _ => ⟨fun _ => ?_, fun z => absurd ?_ z⟩⟩⟩) (fun z => absurd hw2 z)⟩
      · rw [e1] at z; exact absurd z (nI_nlt (by omega) (by omega))
      · unfold wp_Model_fetch_J44 wp_Model_fetch_J49 wp_Model_fetch_J71
        rw [ew2, (b2 hw2).2, nI_1]
        refine ⟨fun z => absurd z (by decide), fun _ => ⟨vw2, fun _ => ?_, fun z => absurd ?_ z⟩⟩
        · refine h6 _ _ ?_
          rw [used_up (by omega), nI_1, ← (h2 e Ue).2.1, ← (h2 d Ud).2.1]
          exact hp
        · rw [e1]; exact nI_lt (by omega) (by omega)
      · rw [e1]; exact congrArg nI (by omega)
    · refine ⟨5, f + 1, s, e, d, pc, nI (pc + 1), kc, lc, rc, tk, km, lm, rm, π, H, Us, Ue, Ud, fun x hx => ⟨hx, rfl, fun z => z⟩, fun z => z, by omega, by omega, by omega, fun z => absurd z (by decide), fun _ => ⟨rfl, ps, fun z => absurd z (by decide)⟩, fun post hp => td _ (ud _ (sd _ (rd _ (word_op g2 g3 g4 (⟨fun _ => word_first g2 g3 g4 (word_second g2 g3 g4 (pbk e p x p1 (by omega) p2 _ (fun _ => ⟨fun z => absurd z np, fun _ => a4 _ (pbk hd w y w1 (by omega) w2 _ (fun z => absurd z hw2) (fun _ => ⟨fun _ => hp, fun z => absurd rfl z⟩))⟩) (fun z => absurd hp2 z))), fun z => absurd rfl z⟩))))), fun post hp => ⟨vs, vs, ⟨fun _ => mid _ _ (0 + y + 1) (w3 _ _ _ _ _ _ 0 hp), fun z => absurd rfl z⟩⟩⟩
  · refine ⟨5, f + 1, s, e, d, pc, nI (pc + 1), kc, lc, rc, tk, km, lm, rm, π, H, Us, Ue, Ud, fun x hx => ⟨hx, rfl, fun z => z⟩, fun z => z, by omega, by omega, by omega, fun z => absurd z (by decide), fun _ => ⟨rfl, ps, fun z => absurd z (by decide)⟩, fun post hp => td _ (ud _ (sd _ (rd _ (word_op g2 g3 g4 (⟨fun _ => word_first g2 g3 g4 (word_second g2 g3 g4 (pbk e p x p1 (by omega) p2 _ (fun z => absurd z hp2) (fun _ => ⟨fun _ => ⟨fun _ => hp, fun z => absurd rfl z⟩, fun z => absurd rfl z⟩))), fun z => absurd rfl z⟩))))), fun post hp => ⟨vs, vs, ⟨fun _ => ⟨0 + x + 1, p3 _ _ _ _ _ _ 0 hp⟩, fun z => absurd rfl z⟩⟩⟩
def takesN : List Nat := [1, 1, 2, 4, 1, 1, 3, 1, 0, 1, 1, 1, 2, 1, 1, 2, 2, 2, 2, 2, 0]
/-- every instruction, where there is room for what it takes -/
theorem exec_both (H : HP sz f fre kc lc rc tk km lm rm π G) (Us : US sz f fre s) (Ue : US sz f fre e) (Ud : US sz f fre d) (T : TYP cd n nco (US sz f fre) kc lc rc s e d pc) (hn : n ≤ 512) (hnco : nco ≤ 200) (hG : ∀ a, G a ↔ GOOD cd n nco a 0 0 [] true false) (hcons : ∀ k, k ≤ nco → ∃ c, US sz f fre c ∧ cons k = nI c ∧ cn k = nI (π c)) (hpl : ∀ k c, k ≤ nco → c < 200 → cons k = nI c → PL kc lc rc c) (hroom : takesN.getD (cd pc).1 0 ≤ f) : EXR cd n nco sz f fre kc lc rc tk km lm rm cons cn π G s e d pc (cd pc).1 (cd pc).2.1 (cd pc).2.2 := by
  obtain ⟨ρ, h, q, js, fn, rap, kk, g, sh, eh, dd, hr, ph, ps, pe⟩ := T
  have g := g.elim
  have go := g.2.1
  rcases hcd : cd pc with ⟨o, x, y⟩
  rw [hcd] at go hroom
  simp only at go hroom ⊢
  by_cases c0 : o = 0
  · subst c0
    obtain ⟨f0, rfl⟩ : ∃ f0, f = f0 + 1 := ⟨f - 1, by have : 1 ≤ f := hroom; omega⟩
    exact x_ld H Us Ue Ud g hcd hn sh eh dd ph ps pe
  by_cases c1 : o = 1
  · subst c1
    obtain ⟨f0, rfl⟩ : ∃ f0, f = f0 + 1 := ⟨f - 1, by have : 1 ≤ f := hroom; omega⟩
    exact x_ldc H Us Ue Ud g hcd hn sh eh dd ph ps pe hnco hcons hpl
  by_cases c2 : o = 2
  · subst c2
    obtain ⟨f0, rfl⟩ : ∃ f0, f = f0 + 2 := ⟨f - 2, by have : 2 ≤ f := hroom; omega⟩
    exact x_ldf H Us Ue Ud g hcd hn sh eh dd ph ps pe (fun a z => (hG a).mpr z)
  by_cases c3 : o = 3
  · subst c3
    obtain ⟨f0, rfl⟩ : ∃ f0, f = f0 + 4 := ⟨f - 4, by have : 4 ≤ f := hroom; omega⟩
    exact x_ap H Us Ue Ud g hcd hn sh eh dd ph ps pe (fun a z => (hG a).mp z)
  by_cases c4 : o = 4
  · subst c4
    obtain ⟨f0, rfl⟩ : ∃ f0, f = f0 + 1 := ⟨f - 1, by have : 1 ≤ f := hroom; omega⟩
    exact x_rtn H Us Ue Ud g hcd hn sh eh dd ph ps pe
  by_cases c5 : o = 5
  · subst c5
    obtain ⟨f0, rfl⟩ : ∃ f0, f = f0 + 1 := ⟨f - 1, by have : 1 ≤ f := hroom; omega⟩
    exact x_dum H Us Ue Ud g hcd hn sh eh dd ph ps pe
  by_cases c6 : o = 6
  · subst c6
    obtain ⟨f0, rfl⟩ : ∃ f0, f = f0 + 3 := ⟨f - 3, by have : 3 ≤ f := hroom; omega⟩
    exact x_rap H Us Ue Ud g hcd hn sh eh dd ph ps pe (fun a z => (hG a).mp z) (fun z => by
      obtain ⟨c, r1, r2, r3, r4, r5, -⟩ := hr z
      exact ⟨c, r1, r2, r3, r4, r5⟩)
  by_cases c7 : o = 7
  · subst c7
    obtain ⟨f0, rfl⟩ : ∃ f0, f = f0 + 1 := ⟨f - 1, by have : 1 ≤ f := hroom; omega⟩
    exact x_sel H Us Ue Ud g hcd hn sh eh dd ph ps pe
  by_cases c8 : o = 8
  · subst c8
    exact x_join H Us Ue Ud g hcd hn sh eh dd ph ps pe
  by_cases c9 : o = 9
  · subst c9
    obtain ⟨f0, rfl⟩ : ∃ f0, f = f0 + 1 := ⟨f - 1, by have : 1 ≤ f := hroom; omega⟩
    exact x_car H Us Ue Ud g hcd hn sh eh dd ph ps pe
  by_cases c10 : o = 10
  · subst c10
    obtain ⟨f0, rfl⟩ : ∃ f0, f = f0 + 1 := ⟨f - 1, by have : 1 ≤ f := hroom; omega⟩
    exact x_cdr H Us Ue Ud g hcd hn sh eh dd ph ps pe
  by_cases c11 : o = 11
  · subst c11
    obtain ⟨f0, rfl⟩ : ∃ f0, f = f0 + 1 := ⟨f - 1, by have : 1 ≤ f := hroom; omega⟩
    exact x_atom H Us Ue Ud g hcd hn sh eh dd ph ps pe
  by_cases c12 : o = 12
  · subst c12
    obtain ⟨f0, rfl⟩ : ∃ f0, f = f0 + 2 := ⟨f - 2, by have : 2 ≤ f := hroom; omega⟩
    exact x_cons H Us Ue Ud g hcd hn sh eh dd ph ps pe
  by_cases c13 : o = 13
  · subst c13
    obtain ⟨f0, rfl⟩ : ∃ f0, f = f0 + 1 := ⟨f - 1, by have : 1 ≤ f := hroom; omega⟩
    exact x_eq H Us Ue Ud g hcd hn sh eh dd ph ps pe
  by_cases c14 : o = 14
  · subst c14
    obtain ⟨f0, rfl⟩ : ∃ f0, f = f0 + 1 := ⟨f - 1, by have : 1 ≤ f := hroom; omega⟩
    exact x_leq H Us Ue Ud g hcd hn sh eh dd ph ps pe
  by_cases c15 : o = 15
  · subst c15
    obtain ⟨f0, rfl⟩ : ∃ f0, f = f0 + 2 := ⟨f - 2, by have : 2 ≤ f := hroom; omega⟩
    exact x_add H Us Ue Ud g hcd hn sh eh dd ph ps pe
  by_cases c16 : o = 16
  · subst c16
    obtain ⟨f0, rfl⟩ : ∃ f0, f = f0 + 2 := ⟨f - 2, by have : 2 ≤ f := hroom; omega⟩
    exact x_sub H Us Ue Ud g hcd hn sh eh dd ph ps pe
  by_cases c17 : o = 17
  · subst c17
    obtain ⟨f0, rfl⟩ : ∃ f0, f = f0 + 2 := ⟨f - 2, by have : 2 ≤ f := hroom; omega⟩
    exact x_mul H Us Ue Ud g hcd hn sh eh dd ph ps pe
  by_cases c18 : o = 18
  · subst c18
    obtain ⟨f0, rfl⟩ : ∃ f0, f = f0 + 2 := ⟨f - 2, by have : 2 ≤ f := hroom; omega⟩
    exact x_div H Us Ue Ud g hcd hn sh eh dd ph ps pe
  by_cases c19 : o = 19
  · subst c19
    obtain ⟨f0, rfl⟩ : ∃ f0, f = f0 + 2 := ⟨f - 2, by have : 2 ≤ f := hroom; omega⟩
    exact x_rem H Us Ue Ud g hcd hn sh eh dd ph ps pe
  by_cases c20 : o = 20
  · subst c20
    exact x_stop H Us Ue Ud g hcd hn sh eh dd ph ps pe
  exact absurd go (by omega)
end
