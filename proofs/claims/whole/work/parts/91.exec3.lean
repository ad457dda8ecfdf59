/-! one instruction, both: reckoning, loads, calls -/
section
variable {cd : Nat → Nat × Nat × Nat} {n nco sz f : Nat} {fre kc lc rc tk km lm rm cons cn : Nat → Int32} {π : Nat → Nat} {G : Nat → Prop} {s e d pc x y : Nat}
theorem HP.nm (h : HP sz f fre kc lc rc tk km lm rm π G) {c : Nat} (hc : US sz f fre c) (hk : kc c = 0) : km (π c) = 1 ∧ lm (π c) = lc c := by
  rcases (h.2.2.2.2.2.1 c hc).2.2 with z | z | z | z | z
  · exact z.2
  · exact absurd (hk.symm.trans z.1) (by decide)
  · exact absurd (hk.symm.trans z.1) (by decide)
  · exact absurd (hk.symm.trans z.1) (by decide)
  · exact absurd (hk.symm.trans z.1) (by decide)
theorem HP.nnm (h : HP sz f fre kc lc rc tk km lm rm π G) {c : Nat} (hc : US sz f fre c) (hk : ¬ kc c = 0) : ¬ km (π c) = 1 := by
  rcases (h.2.2.2.2.2.1 c hc).2.2 with z | z | z | z | z
  · exact absurd z.1 hk
  · rw [z.2.1]; decide
  · rw [z.2.1]; decide
  · rw [z.2.1]; decide
  · rw [z.2.1]; decide
theorem x_leq {ρ : Nat → Prop} {h q kk : Nat} {js : List Nat} {fn rap : Bool} (H : HP sz (f + 1) fre kc lc rc tk km lm rm π G) (Us : US sz (f + 1) fre s) (Ue : US sz (f + 1) fre e) (Ud : US sz (f + 1) fre d) (g : STEP cd n nco (GOOD cd n nco) pc h q js fn rap) (hcd : cd pc = (14, x, y)) (hn : n ≤ 512) (sh : SH (US sz (f + 1) fre) kc rc s h) (eh : EH (US sz (f + 1) fre) ρ kc rc e q) (dd : DD cd n nco (US sz (f + 1) fre) ρ kc lc rc kk d js fn) : EXR cd n nco sz (f + 1) fre kc lc rc tk km lm rm cons cn π G s e d pc 14 x y := by
  unfold STEP at g
  rw [hcd] at g
  simp only at g
  obtain ⟨g1, g2, g3, g4, t0, t1, t2, t3, t4, t5, t6, t7, t8, t9, t12, t20⟩ := g
  have lsz := H.2.1
  have lf := H.2.2.1
  obtain ⟨lt1, lt2, lt3⟩ := H.lt Us
  have vs : vp_in (nI (π s)) 200 := vp_in_nI (by omega) (by decide)
  have es : (nI (π s)).toNatClampNeg = π s := nI_clamp (by omega)
  obtain ⟨hh, g'⟩ := t12 (by decide)
  obtain ⟨h0, rfl⟩ : ∃ h0, h = h0 + 1 + 1 := ⟨h - 2, by omega⟩
  obtain ⟨top, und, ta, ua, ks, tb, ub, tm, um, shu, td, ud⟩ := SH.top H Us sh
  obtain ⟨sec, rst, sa, ra, ku, sb, rb, sm, rm', shr, sd, rd⟩ := SH.top H ua shu
  have lu := H.lt ua
  have vu : vp_in (nI (π und)) 200 := vp_in_nI (by omega) (by decide)
  have eu : (nI (π und)).toNatClampNeg = π und := nI_clamp (by omega)
  have lsc := H.lt sa
  have ltp := H.lt ta
  have va : vp_in (nI sec) sz := vp_in_nI (by omega) (by omega)
  have vb : vp_in (nI top) sz := vp_in_nI (by omega) (by omega)
  have va2 : vp_in (nI (π sec)) 200 := vp_in_nI (by omega) (by decide)
  have vb2 : vp_in (nI (π top)) 200 := vp_in_nI (by omega) (by decide)
  have ea : (nI sec).toNatClampNeg = sec := nI_clamp (by omega)
  have eb : (nI top).toNatClampNeg = top := nI_clamp (by omega)
  have ea2 : (nI (π sec)).toNatClampNeg = π sec := nI_clamp (by omega)
  have eb2 : (nI (π top)).toNatClampNeg = π top := nI_clamp (by omega)
  by_cases hka : kc sec = 0
  · by_cases hkb : kc top = 0
    · obtain ⟨ma1, ma2⟩ := H.nm sa hka
      obtain ⟨mb1, mb2⟩ := H.nm ta hkb
      have vals : ∀ P : Int32 → Int32 → Prop, P (lc sec) (lc top) → wp_Memory_valueOf sz lc (nI sec) (fun r_5 => wp_Memory_valueOf sz lc (nI top) (fun r_6 => P r_5 r_6)) := fun P hP => by
        unfold wp_Memory_valueOf
        rw [ea, eb]
        exact ⟨va, vb, hP⟩
      by_cases hlt : lc top < lc sec
      · have n1 := H.nil (c := 2) (by omega)
        obtain ⟨c, kc1, lc1, rc1, tk1, km1, lm1, rm1, π1, h1, h2, h3, h4, h5, h6⟩ := PUSH H n1.1 ra shr g' eh dd
        rw [n1.2.1] at h6
        refine ⟨1, f, c, e, d, pc + 1, nI (pc + 1), kc1, lc1, rc1, tk1, km1, lm1, rm1, π1, h1, h3, (h2 e Ue).1, (h2 d Ud).1, fun x hx => ⟨(h2 x hx).1, (h2 x hx).2.1⟩, by omega, by omega, by omega, fun _ => ⟨rfl, h4⟩, fun z => absurd rfl z, fun post hp => td _ (ud _ (sd _ (rd _ (word_op g2 g3 g4 (⟨fun z => absurd z (by decide), fun _ => ⟨fun z => absurd z (by decide), fun _ => ⟨fun z => absurd z (by decide), fun _ => ⟨fun z => absurd z (by decide), fun _ => ⟨fun z => absurd z (by decide), fun _ => ⟨fun z => absurd z (by decide), fun _ => ⟨fun z => absurd z (by decide), fun _ => ⟨fun z => absurd z (by decide), fun _ => ⟨fun z => absurd z (by decide), fun _ => ⟨fun z => absurd z (by decide), fun _ => ⟨fun z => absurd z (by decide), fun _ => ⟨fun z => absurd z (by decide), fun _ => ⟨fun z => absurd z (by decide), fun _ => ⟨fun z => absurd z (by decide), fun _ => ⟨fun _ => H.kindOf sa ⟨fun _ => H.kindOf ta ⟨fun _ => vals _ ⟨fun _ => ⟨fun _ => ⟨fun _ => h5 _ hp, fun z => absurd rfl z⟩, fun z => absurd hlt z⟩, fun z => absurd rfl z⟩, fun z => absurd hkb z⟩, fun z => absurd hka z⟩, fun z => absurd rfl z⟩⟩⟩⟩⟩⟩⟩⟩⟩⟩⟩⟩⟩⟩⟩))))), fun post hp => ⟨vs, vs, ⟨fun z => absurd z (by decide), fun _ => ⟨fun z => absurd z (by decide), fun _ => ⟨fun z => absurd z (by decide), fun _ => ⟨fun z => absurd z (by decide), fun _ => ⟨fun z => absurd z (by decide), fun _ => ⟨fun z => absurd z (by decide), fun _ => ⟨fun z => absurd z (by decide), fun _ => ⟨fun z => absurd z (by decide), fun _ => ⟨fun z => absurd z (by decide), fun _ => ?_⟩⟩⟩⟩⟩⟩⟩⟩⟩⟩⟩
        rw [es, um, eu, sm, tm, rm']
        refine ⟨vu, vu, ?_⟩
        unfold wp_Model_reckon
        rw [ea2, eb2]
        rw [ma2, mb2]
        refine ⟨fun z => absurd z (by decide), fun _ => ⟨va2, fun _ => ⟨vb2, fun _ => ⟨va2, vb2, fun _ => ⟨fun _ => h6 _ _ ?_, fun z => absurd hlt z⟩, fun z => absurd rfl z⟩, fun z => absurd mb1 z⟩, fun z => absurd ma1 z⟩⟩
        rw [used_up (by omega), nI_1, ← (h2 e Ue).2.1, ← (h2 d Ud).2.1]
        exact hp
      · have n1 := H.nil (c := 1) (by omega)
        obtain ⟨c, kc1, lc1, rc1, tk1, km1, lm1, rm1, π1, h1, h2, h3, h4, h5, h6⟩ := PUSH H n1.1 ra shr g' eh dd
        rw [n1.2.1] at h6
        refine ⟨1, f, c, e, d, pc + 1, nI (pc + 1), kc1, lc1, rc1, tk1, km1, lm1, rm1, π1, h1, h3, (h2 e Ue).1, (h2 d Ud).1, fun x hx => ⟨(h2 x hx).1, (h2 x hx).2.1⟩, by omega, by omega, by omega, fun _ => ⟨rfl, h4⟩, fun z => absurd rfl z, fun post hp => td _ (ud _ (sd _ (rd _ (word_op g2 g3 g4 (⟨fun z => absurd z (by decide), fun _ => ⟨fun z => absurd z (by decide), fun _ => ⟨fun z => absurd z (by decide), fun _ => ⟨fun z => absurd z (by decide), fun _ => ⟨fun z => absurd z (by decide), fun _ => ⟨fun z => absurd z (by decide), fun _ => ⟨fun z => absurd z (by decide), fun _ => ⟨fun z => absurd z (by decide), fun _ => ⟨fun z => absurd z (by decide), fun _ => ⟨fun z => absurd z (by decide), fun _ => ⟨fun z => absurd z (by decide), fun _ => ⟨fun z => absurd z (by decide), fun _ => ⟨fun z => absurd z (by decide), fun _ => ⟨fun z => absurd z (by decide), fun _ => ⟨fun _ => H.kindOf sa ⟨fun _ => H.kindOf ta ⟨fun _ => vals _ ⟨fun _ => ⟨fun z => absurd z hlt, fun _ => ⟨fun z => absurd z (by decide), fun _ => h5 _ hp⟩⟩, fun z => absurd rfl z⟩, fun z => absurd hkb z⟩, fun z => absurd hka z⟩, fun z => absurd rfl z⟩⟩⟩⟩⟩⟩⟩⟩⟩⟩⟩⟩⟩⟩⟩))))), fun post hp => ⟨vs, vs, ⟨fun z => absurd z (by decide), fun _ => ⟨fun z => absurd z (by decide), fun _ => ⟨fun z => absurd z (by decide), fun _ => ⟨fun z => absurd z (by decide), fun _ => ⟨fun z => absurd z (by decide), fun _ => ⟨fun z => absurd z (by decide), fun _ => ⟨fun z => absurd z (by decide), fun _ => ⟨fun z => absurd z (by decide), fun _ => ⟨fun z => absurd z (by decide), fun _ => ?_⟩⟩⟩⟩⟩⟩⟩⟩⟩⟩⟩
        rw [es, um, eu, sm, tm, rm']
        refine ⟨vu, vu, ?_⟩
        unfold wp_Model_reckon
        rw [ea2, eb2]
        rw [ma2, mb2]
        refine ⟨fun z => absurd z (by decide), fun _ => ⟨va2, fun _ => ⟨vb2, fun _ => ⟨va2, vb2, fun _ => ⟨fun z => absurd z hlt, fun _ => h6 _ _ ?_⟩, fun z => absurd rfl z⟩, fun z => absurd mb1 z⟩, fun z => absurd ma1 z⟩⟩
        rw [used_up (by omega), nI_1, ← (h2 e Ue).2.1, ← (h2 d Ud).2.1]
        exact hp
    · obtain ⟨ma1, ma2⟩ := H.nm sa hka
      have mb := H.nnm ta hkb
      refine ⟨7, f + 1, s, e, d, pc, nI (pc + 1), kc, lc, rc, tk, km, lm, rm, π, H, Us, Ue, Ud, fun x hx => ⟨hx, rfl⟩, by omega, by omega, by omega, fun z => absurd z (by decide), fun _ => rfl, fun post hp => td _ (ud _ (sd _ (rd _ (word_op g2 g3 g4 (⟨fun z => absurd z (by decide), fun _ => ⟨fun z => absurd z (by decide), fun _ => ⟨fun z => absurd z (by decide), fun _ => ⟨fun z => absurd z (by decide), fun _ => ⟨fun z => absurd z (by decide), fun _ => ⟨fun z => absurd z (by decide), fun _ => ⟨fun z => absurd z (by decide), fun _ => ⟨fun z => absurd z (by decide), fun _ => ⟨fun z => absurd z (by decide), fun _ => ⟨fun z => absurd z (by decide), fun _ => ⟨fun z => absurd z (by decide), fun _ => ⟨fun z => absurd z (by decide), fun _ => ⟨fun z => absurd z (by decide), fun _ => ⟨fun z => absurd z (by decide), fun _ => ⟨fun _ => H.kindOf sa ⟨fun _ => H.kindOf ta ⟨fun z => absurd z hkb, fun _ => hp⟩, fun z => absurd hka z⟩, fun z => absurd rfl z⟩⟩⟩⟩⟩⟩⟩⟩⟩⟩⟩⟩⟩⟩⟩))))), fun post hp => ⟨vs, vs, ⟨fun z => absurd z (by decide), fun _ => ⟨fun z => absurd z (by decide), fun _ => ⟨fun z => absurd z (by decide), fun _ => ⟨fun z => absurd z (by decide), fun _ => ⟨fun z => absurd z (by decide), fun _ => ⟨fun z => absurd z (by decide), fun _ => ⟨fun z => absurd z (by decide), fun _ => ⟨fun z => absurd z (by decide), fun _ => ⟨fun z => absurd z (by decide), fun _ => ?_⟩⟩⟩⟩⟩⟩⟩⟩⟩⟩⟩
      rw [es, um, eu, sm, tm, rm']
      refine ⟨vu, vu, ?_⟩
      unfold wp_Model_reckon
      rw [ea2, eb2]
      exact ⟨fun z => absurd z (by decide), fun _ => ⟨va2, fun _ => ⟨vb2, fun z => absurd z mb, fun _ => hp⟩, fun z => absurd ma1 z⟩⟩
  · have ma := H.nnm sa hka
    refine ⟨7, f + 1, s, e, d, pc, nI (pc + 1), kc, lc, rc, tk, km, lm, rm, π, H, Us, Ue, Ud, fun x hx => ⟨hx, rfl⟩, by omega, by omega, by omega, fun z => absurd z (by decide), fun _ => rfl, fun post hp => td _ (ud _ (sd _ (rd _ (word_op g2 g3 g4 (⟨fun z => absurd z (by decide), fun _ => ⟨fun z => absurd z (by decide), fun _ => ⟨fun z => absurd z (by decide), fun _ => ⟨fun z => absurd z (by decide), fun _ => ⟨fun z => absurd z (by decide), fun _ => ⟨fun z => absurd z (by decide), fun _ => ⟨fun z => absurd z (by decide), fun _ => ⟨fun z => absurd z (by decide), fun _ => ⟨fun z => absurd z (by decide), fun _ => ⟨fun z => absurd z (by decide), fun _ => ⟨fun z => absurd z (by decide), fun _ => ⟨fun z => absurd z (by decide), fun _ => ⟨fun z => absurd z (by decide), fun _ => ⟨fun z => absurd z (by decide), fun _ => ⟨fun _ => H.kindOf sa ⟨fun z => absurd z hka, fun _ => hp⟩, fun z => absurd rfl z⟩⟩⟩⟩⟩⟩⟩⟩⟩⟩⟩⟩⟩⟩⟩))))), fun post hp => ⟨vs, vs, ⟨fun z => absurd z (by decide), fun _ => ⟨fun z => absurd z (by decide), fun _ => ⟨fun z => absurd z (by decide), fun _ => ⟨fun z => absurd z (by decide), fun _ => ⟨fun z => absurd z (by decide), fun _ => ⟨fun z => absurd z (by decide), fun _ => ⟨fun z => absurd z (by decide), fun _ => ⟨fun z => absurd z (by decide), fun _ => ⟨fun z => absurd z (by decide), fun _ => ?_⟩⟩⟩⟩⟩⟩⟩⟩⟩⟩⟩
    rw [es, um, eu, sm, tm, rm']
    refine ⟨vu, vu, ?_⟩
    unfold wp_Model_reckon
    rw [ea2, eb2]
    exact ⟨fun z => absurd z (by decide), fun _ => ⟨va2, fun z => absurd z ma, fun _ => hp⟩⟩
theorem x_add {ρ : Nat → Prop} {h q kk : Nat} {js : List Nat} {fn rap : Bool} (H : HP sz (f + 2) fre kc lc rc tk km lm rm π G) (Us : US sz (f + 2) fre s) (Ue : US sz (f + 2) fre e) (Ud : US sz (f + 2) fre d) (g : STEP cd n nco (GOOD cd n nco) pc h q js fn rap) (hcd : cd pc = (15, x, y)) (hn : n ≤ 512) (sh : SH (US sz (f + 2) fre) kc rc s h) (eh : EH (US sz (f + 2) fre) ρ kc rc e q) (dd : DD cd n nco (US sz (f + 2) fre) ρ kc lc rc kk d js fn) : EXR cd n nco sz (f + 2) fre kc lc rc tk km lm rm cons cn π G s e d pc 15 x y := by
  unfold STEP at g
  rw [hcd] at g
  simp only at g
  obtain ⟨g1, g2, g3, g4, t0, t1, t2, t3, t4, t5, t6, t7, t8, t9, t12, t20⟩ := g
  have lsz := H.2.1
  have lf := H.2.2.1
  obtain ⟨lt1, lt2, lt3⟩ := H.lt Us
  have vs : vp_in (nI (π s)) 200 := vp_in_nI (by omega) (by decide)
  have es : (nI (π s)).toNatClampNeg = π s := nI_clamp (by omega)
  obtain ⟨hh, g'⟩ := t12 (by decide)
  obtain ⟨h0, rfl⟩ : ∃ h0, h = h0 + 1 + 1 := ⟨h - 2, by omega⟩
  obtain ⟨top, und, ta, ua, ks, tb, ub, tm, um, shu, td, ud⟩ := SH.top H Us sh
  obtain ⟨sec, rst, sa, ra, ku, sb, rb, sm, rm', shr, sd, rd⟩ := SH.top H ua shu
  have lu := H.lt ua
  have vu : vp_in (nI (π und)) 200 := vp_in_nI (by omega) (by decide)
  have eu : (nI (π und)).toNatClampNeg = π und := nI_clamp (by omega)
  have lsc := H.lt sa
  have ltp := H.lt ta
  have va : vp_in (nI sec) sz := vp_in_nI (by omega) (by omega)
  have vb : vp_in (nI top) sz := vp_in_nI (by omega) (by omega)
  have va2 : vp_in (nI (π sec)) 200 := vp_in_nI (by omega) (by decide)
  have vb2 : vp_in (nI (π top)) 200 := vp_in_nI (by omega) (by decide)
  have ea : (nI sec).toNatClampNeg = sec := nI_clamp (by omega)
  have eb : (nI top).toNatClampNeg = top := nI_clamp (by omega)
  have ea2 : (nI (π sec)).toNatClampNeg = π sec := nI_clamp (by omega)
  have eb2 : (nI (π top)).toNatClampNeg = π top := nI_clamp (by omega)
  by_cases hka : kc sec = 0
  · by_cases hkb : kc top = 0
    · obtain ⟨ma1, ma2⟩ := H.nm sa hka
      obtain ⟨mb1, mb2⟩ := H.nm ta hkb
      have vals : ∀ P : Int32 → Int32 → Prop, P (lc sec) (lc top) → wp_Memory_valueOf sz lc (nI sec) (fun r_5 => wp_Memory_valueOf sz lc (nI top) (fun r_6 => P r_5 r_6)) := fun P hP => by
        unfold wp_Memory_valueOf
        rw [ea, eb]
        exact ⟨va, vb, hP⟩
      obtain ⟨c, kc1, lc1, rc1, tk1, km1, lm1, rm1, π1, h1, h2, h3, h4, h5, h6, h7, h8, h9⟩ := H.num (lc sec + lc top)
      have st : STAY (US sz (f + 2) fre) (US sz (f + 1) fre) ρ ρ kc lc rc kc1 lc1 rc1 := STAY.ext h2
      obtain ⟨c2, kc2, lc2, rc2, tk2, km2, lm2, rm2, π2, i1, i2, i3, i4, i5, i6⟩ := PUSH h1 h3 (h2 rst ra).1 (shr.to st) g' (eh.to st) (dd.to st)
      have hE := h2.trans i2
      have calc_ : ∀ P : Int32 → Prop, P (lc sec + lc top) → wp_Machine_calculate (nI 15) (lc sec) (lc top) P := fun P hP => ⟨fun _ => hP, fun z => absurd rfl z⟩
      refine ⟨1, f, c2, e, d, pc + 1, nI (pc + 1), kc2, lc2, rc2, tk2, km2, lm2, rm2, π2, i1, i3, (hE e Ue).1, (hE d Ud).1, fun x hx => ⟨(hE x hx).1, (hE x hx).2.1⟩, by omega, by omega, by omega, fun _ => ⟨rfl, i4⟩, fun z => absurd rfl z, fun post hp => td _ (ud _ (sd _ (rd _ (word_op g2 g3 g4 (⟨fun z => absurd z (by decide), fun _ => ⟨fun z => absurd z (by decide), fun _ => ⟨fun z => absurd z (by decide), fun _ => ⟨fun z => absurd z (by decide), fun _ => ⟨fun z => absurd z (by decide), fun _ => ⟨fun z => absurd z (by decide), fun _ => ⟨fun z => absurd z (by decide), fun _ => ⟨fun z => absurd z (by decide), fun _ => ⟨fun z => absurd z (by decide), fun _ => ⟨fun z => absurd z (by decide), fun _ => ⟨fun z => absurd z (by decide), fun _ => ⟨fun z => absurd z (by decide), fun _ => ⟨fun z => absurd z (by decide), fun _ => ⟨fun z => absurd z (by decide), fun _ => ⟨fun z => absurd z (by decide), fun _ => ⟨fun _ => H.kindOf sa ⟨fun _ => H.kindOf ta ⟨fun _ => vals _ ⟨fun z => absurd z (by decide), fun _ => ⟨fun z0 => ⟨fun z => absurd z (by decide), fun _ => ⟨fun z => absurd z (by decide), fun _ => calc_ _ (h8 _ (i5 _ hp))⟩⟩, fun _ => calc_ _ (h8 _ (i5 _ hp))⟩⟩, fun z => absurd hkb z⟩, fun z => absurd hka z⟩, fun z => absurd rfl z⟩⟩⟩⟩⟩⟩⟩⟩⟩⟩⟩⟩⟩⟩⟩⟩))))), fun post hp => ⟨vs, vs, ⟨fun z => absurd z (by decide), fun _ => ⟨fun z => absurd z (by decide), fun _ => ⟨fun z => absurd z (by decide), fun _ => ⟨fun z => absurd z (by decide), fun _ => ⟨fun z => absurd z (by decide), fun _ => ⟨fun z => absurd z (by decide), fun _ => ⟨fun z => absurd z (by decide), fun _ => ⟨fun z => absurd z (by decide), fun _ => ⟨fun z => absurd z (by decide), fun _ => ?_⟩⟩⟩⟩⟩⟩⟩⟩⟩⟩⟩
      rw [es, um, eu, sm, tm, rm']
      refine ⟨vu, vu, ?_⟩
      unfold wp_Model_reckon
      rw [ea2, eb2]
      rw [ma2, mb2]
      have fin : wp_Model_reckon_J150 (nI sz) (fun r_51 used_52 i_pc_53 i_s_54 km_55 lm_56 rm_57 tk_58 => post r_51 used_52 i_pc_53 i_s_54 (nI (π e)) (nI (π d)) km_55 lm_56 rm_57 tk_58) (nI 15) (nI (π rst)) (lc sec) (lc top) (nI (sz - (f + 2))) (nI pc) (nI (π s)) km lm rm tk := by
        refine ⟨fun _ => h9 _ _ ?_, fun z => absurd rfl z⟩
        rw [used_up (by omega), ← (h2 rst ra).2.1]
        refine i6 _ _ ?_
        rw [used_up (by omega), nI_1, ← (hE e Ue).2.1, ← (hE d Ud).2.1]
        exact hp
      exact ⟨fun z => absurd z (by decide), fun _ => ⟨va2, fun _ => ⟨vb2, fun _ => ⟨va2, vb2, fun z => absurd z (by decide), fun _ => ⟨fun _ => fin, fun z => absurd (by decide) z⟩⟩, fun z => absurd mb1 z⟩, fun z => absurd ma1 z⟩⟩
    · obtain ⟨ma1, ma2⟩ := H.nm sa hka
      have mb := H.nnm ta hkb
      refine ⟨7, f + 2, s, e, d, pc, nI (pc + 1), kc, lc, rc, tk, km, lm, rm, π, H, Us, Ue, Ud, fun x hx => ⟨hx, rfl⟩, by omega, by omega, by omega, fun z => absurd z (by decide), fun _ => rfl, fun post hp => td _ (ud _ (sd _ (rd _ (word_op g2 g3 g4 (⟨fun z => absurd z (by decide), fun _ => ⟨fun z => absurd z (by decide), fun _ => ⟨fun z => absurd z (by decide), fun _ => ⟨fun z => absurd z (by decide), fun _ => ⟨fun z => absurd z (by decide), fun _ => ⟨fun z => absurd z (by decide), fun _ => ⟨fun z => absurd z (by decide), fun _ => ⟨fun z => absurd z (by decide), fun _ => ⟨fun z => absurd z (by decide), fun _ => ⟨fun z => absurd z (by decide), fun _ => ⟨fun z => absurd z (by decide), fun _ => ⟨fun z => absurd z (by decide), fun _ => ⟨fun z => absurd z (by decide), fun _ => ⟨fun z => absurd z (by decide), fun _ => ⟨fun z => absurd z (by decide), fun _ => ⟨fun _ => H.kindOf sa ⟨fun _ => H.kindOf ta ⟨fun z => absurd z hkb, fun _ => hp⟩, fun z => absurd hka z⟩, fun z => absurd rfl z⟩⟩⟩⟩⟩⟩⟩⟩⟩⟩⟩⟩⟩⟩⟩⟩))))), fun post hp => ⟨vs, vs, ⟨fun z => absurd z (by decide), fun _ => ⟨fun z => absurd z (by decide), fun _ => ⟨fun z => absurd z (by decide), fun _ => ⟨fun z => absurd z (by decide), fun _ => ⟨fun z => absurd z (by decide), fun _ => ⟨fun z => absurd z (by decide), fun _ => ⟨fun z => absurd z (by decide), fun _ => ⟨fun z => absurd z (by decide), fun _ => ⟨fun z => absurd z (by decide), fun _ => ?_⟩⟩⟩⟩⟩⟩⟩⟩⟩⟩⟩
      rw [es, um, eu, sm, tm, rm']
      refine ⟨vu, vu, ?_⟩
      unfold wp_Model_reckon
      rw [ea2, eb2]
      exact ⟨fun z => absurd z (by decide), fun _ => ⟨va2, fun _ => ⟨vb2, fun z => absurd z mb, fun _ => hp⟩, fun z => absurd ma1 z⟩⟩
  · have ma := H.nnm sa hka
    refine ⟨7, f + 2, s, e, d, pc, nI (pc + 1), kc, lc, rc, tk, km, lm, rm, π, H, Us, Ue, Ud, fun x hx => ⟨hx, rfl⟩, by omega, by omega, by omega, fun z => absurd z (by decide), fun _ => rfl, fun post hp => td _ (ud _ (sd _ (rd _ (word_op g2 g3 g4 (⟨fun z => absurd z (by decide), fun _ => ⟨fun z => absurd z (by decide), fun _ => ⟨fun z => absurd z (by decide), fun _ => ⟨fun z => absurd z (by decide), fun _ => ⟨fun z => absurd z (by decide), fun _ => ⟨fun z => absurd z (by decide), fun _ => ⟨fun z => absurd z (by decide), fun _ => ⟨fun z => absurd z (by decide), fun _ => ⟨fun z => absurd z (by decide), fun _ => ⟨fun z => absurd z (by decide), fun _ => ⟨fun z => absurd z (by decide), fun _ => ⟨fun z => absurd z (by decide), fun _ => ⟨fun z => absurd z (by decide), fun _ => ⟨fun z => absurd z (by decide), fun _ => ⟨fun z => absurd z (by decide), fun _ => ⟨fun _ => H.kindOf sa ⟨fun z => absurd z hka, fun _ => hp⟩, fun z => absurd rfl z⟩⟩⟩⟩⟩⟩⟩⟩⟩⟩⟩⟩⟩⟩⟩⟩))))), fun post hp => ⟨vs, vs, ⟨fun z => absurd z (by decide), fun _ => ⟨fun z => absurd z (by decide), fun _ => ⟨fun z => absurd z (by decide), fun _ => ⟨fun z => absurd z (by decide), fun _ => ⟨fun z => absurd z (by decide), fun _ => ⟨fun z => absurd z (by decide), fun _ => ⟨fun z => absurd z (by decide), fun _ => ⟨fun z => absurd z (by decide), fun _ => ⟨fun z => absurd z (by decide), fun _ => ?_⟩⟩⟩⟩⟩⟩⟩⟩⟩⟩⟩
    rw [es, um, eu, sm, tm, rm']
    refine ⟨vu, vu, ?_⟩
    unfold wp_Model_reckon
    rw [ea2, eb2]
    exact ⟨fun z => absurd z (by decide), fun _ => ⟨va2, fun z => absurd z ma, fun _ => hp⟩⟩
theorem x_sub {ρ : Nat → Prop} {h q kk : Nat} {js : List Nat} {fn rap : Bool} (H : HP sz (f + 2) fre kc lc rc tk km lm rm π G) (Us : US sz (f + 2) fre s) (Ue : US sz (f + 2) fre e) (Ud : US sz (f + 2) fre d) (g : STEP cd n nco (GOOD cd n nco) pc h q js fn rap) (hcd : cd pc = (16, x, y)) (hn : n ≤ 512) (sh : SH (US sz (f + 2) fre) kc rc s h) (eh : EH (US sz (f + 2) fre) ρ kc rc e q) (dd : DD cd n nco (US sz (f + 2) fre) ρ kc lc rc kk d js fn) : EXR cd n nco sz (f + 2) fre kc lc rc tk km lm rm cons cn π G s e d pc 16 x y := by
  unfold STEP at g
  rw [hcd] at g
  simp only at g
  obtain ⟨g1, g2, g3, g4, t0, t1, t2, t3, t4, t5, t6, t7, t8, t9, t12, t20⟩ := g
  have lsz := H.2.1
  have lf := H.2.2.1
  obtain ⟨lt1, lt2, lt3⟩ := H.lt Us
  have vs : vp_in (nI (π s)) 200 := vp_in_nI (by omega) (by decide)
  have es : (nI (π s)).toNatClampNeg = π s := nI_clamp (by omega)
  obtain ⟨hh, g'⟩ := t12 (by decide)
  obtain ⟨h0, rfl⟩ : ∃ h0, h = h0 + 1 + 1 := ⟨h - 2, by omega⟩
  obtain ⟨top, und, ta, ua, ks, tb, ub, tm, um, shu, td, ud⟩ := SH.top H Us sh
  obtain ⟨sec, rst, sa, ra, ku, sb, rb, sm, rm', shr, sd, rd⟩ := SH.top H ua shu
  have lu := H.lt ua
  have vu : vp_in (nI (π und)) 200 := vp_in_nI (by omega) (by decide)
  have eu : (nI (π und)).toNatClampNeg = π und := nI_clamp (by omega)
  have lsc := H.lt sa
  have ltp := H.lt ta
  have va : vp_in (nI sec) sz := vp_in_nI (by omega) (by omega)
  have vb : vp_in (nI top) sz := vp_in_nI (by omega) (by omega)
  have va2 : vp_in (nI (π sec)) 200 := vp_in_nI (by omega) (by decide)
  have vb2 : vp_in (nI (π top)) 200 := vp_in_nI (by omega) (by decide)
  have ea : (nI sec).toNatClampNeg = sec := nI_clamp (by omega)
  have eb : (nI top).toNatClampNeg = top := nI_clamp (by omega)
  have ea2 : (nI (π sec)).toNatClampNeg = π sec := nI_clamp (by omega)
  have eb2 : (nI (π top)).toNatClampNeg = π top := nI_clamp (by omega)
  by_cases hka : kc sec = 0
  · by_cases hkb : kc top = 0
    · obtain ⟨ma1, ma2⟩ := H.nm sa hka
      obtain ⟨mb1, mb2⟩ := H.nm ta hkb
      have vals : ∀ P : Int32 → Int32 → Prop, P (lc sec) (lc top) → wp_Memory_valueOf sz lc (nI sec) (fun r_5 => wp_Memory_valueOf sz lc (nI top) (fun r_6 => P r_5 r_6)) := fun P hP => by
        unfold wp_Memory_valueOf
        rw [ea, eb]
        exact ⟨va, vb, hP⟩
      obtain ⟨c, kc1, lc1, rc1, tk1, km1, lm1, rm1, π1, h1, h2, h3, h4, h5, h6, h7, h8, h9⟩ := H.num (lc sec - lc top)
      have st : STAY (US sz (f + 2) fre) (US sz (f + 1) fre) ρ ρ kc lc rc kc1 lc1 rc1 := STAY.ext h2
      obtain ⟨c2, kc2, lc2, rc2, tk2, km2, lm2, rm2, π2, i1, i2, i3, i4, i5, i6⟩ := PUSH h1 h3 (h2 rst ra).1 (shr.to st) g' (eh.to st) (dd.to st)
      have hE := h2.trans i2
      have calc_ : ∀ P : Int32 → Prop, P (lc sec - lc top) → wp_Machine_calculate (nI 16) (lc sec) (lc top) P := fun P hP => ⟨fun z => absurd z (by decide), fun _ => ⟨fun _ => hP, fun z => absurd rfl z⟩⟩
      refine ⟨1, f, c2, e, d, pc + 1, nI (pc + 1), kc2, lc2, rc2, tk2, km2, lm2, rm2, π2, i1, i3, (hE e Ue).1, (hE d Ud).1, fun x hx => ⟨(hE x hx).1, (hE x hx).2.1⟩, by omega, by omega, by omega, fun _ => ⟨rfl, i4⟩, fun z => absurd rfl z, fun post hp => td _ (ud _ (sd _ (rd _ (word_op g2 g3 g4 (⟨fun z => absurd z (by decide), fun _ => ⟨fun z => absurd z (by decide), fun _ => ⟨fun z => absurd z (by decide), fun _ => ⟨fun z => absurd z (by decide), fun _ => ⟨fun z => absurd z (by decide), fun _ => ⟨fun z => absurd z (by decide), fun _ => ⟨fun z => absurd z (by decide), fun _ => ⟨fun z => absurd z (by decide), fun _ => ⟨fun z => absurd z (by decide), fun _ => ⟨fun z => absurd z (by decide), fun _ => ⟨fun z => absurd z (by decide), fun _ => ⟨fun z => absurd z (by decide), fun _ => ⟨fun z => absurd z (by decide), fun _ => ⟨fun z => absurd z (by decide), fun _ => ⟨fun z => absurd z (by decide), fun _ => ⟨fun z => absurd z (by decide), fun _ => ⟨fun _ => H.kindOf sa ⟨fun _ => H.kindOf ta ⟨fun _ => vals _ ⟨fun z => absurd z (by decide), fun _ => ⟨fun z0 => ⟨fun z => absurd z (by decide), fun _ => ⟨fun z => absurd z (by decide), fun _ => calc_ _ (h8 _ (i5 _ hp))⟩⟩, fun _ => calc_ _ (h8 _ (i5 _ hp))⟩⟩, fun z => absurd hkb z⟩, fun z => absurd hka z⟩, fun z => absurd rfl z⟩⟩⟩⟩⟩⟩⟩⟩⟩⟩⟩⟩⟩⟩⟩⟩⟩))))), fun post hp => ⟨vs, vs, ⟨fun z => absurd z (by decide), fun _ => ⟨fun z => absurd z (by decide), fun _ => ⟨fun z => absurd z (by decide), fun _ => ⟨fun z => absurd z (by decide), fun _ => ⟨fun z => absurd z (by decide), fun _ => ⟨fun z => absurd z (by decide), fun _ => ⟨fun z => absurd z (by decide), fun _ => ⟨fun z => absurd z (by decide), fun _ => ⟨fun z => absurd z (by decide), fun _ => ?_⟩⟩⟩⟩⟩⟩⟩⟩⟩⟩⟩
      rw [es, um, eu, sm, tm, rm']
      refine ⟨vu, vu, ?_⟩
      unfold wp_Model_reckon
      rw [ea2, eb2]
      rw [ma2, mb2]
      have fin : wp_Model_reckon_J150 (nI sz) (fun r_51 used_52 i_pc_53 i_s_54 km_55 lm_56 rm_57 tk_58 => post r_51 used_52 i_pc_53 i_s_54 (nI (π e)) (nI (π d)) km_55 lm_56 rm_57 tk_58) (nI 16) (nI (π rst)) (lc sec) (lc top) (nI (sz - (f + 2))) (nI pc) (nI (π s)) km lm rm tk := by
        refine ⟨fun z => absurd z (by decide), fun _ => ⟨fun _ => h9 _ _ ?_, fun z => absurd rfl z⟩⟩
        rw [used_up (by omega), ← (h2 rst ra).2.1]
        refine i6 _ _ ?_
        rw [used_up (by omega), nI_1, ← (hE e Ue).2.1, ← (hE d Ud).2.1]
        exact hp
      exact ⟨fun z => absurd z (by decide), fun _ => ⟨va2, fun _ => ⟨vb2, fun _ => ⟨va2, vb2, fun z => absurd z (by decide), fun _ => ⟨fun _ => fin, fun z => absurd (by decide) z⟩⟩, fun z => absurd mb1 z⟩, fun z => absurd ma1 z⟩⟩
    · obtain ⟨ma1, ma2⟩ := H.nm sa hka
      have mb := H.nnm ta hkb
      refine ⟨7, f + 2, s, e, d, pc, nI (pc + 1), kc, lc, rc, tk, km, lm, rm, π, H, Us, Ue, Ud, fun x hx => ⟨hx, rfl⟩, by omega, by omega, by omega, fun z => absurd z (by decide), fun _ => rfl, fun post hp => td _ (ud _ (sd _ (rd _ (word_op g2 g3 g4 (⟨fun z => absurd z (by decide), fun _ => ⟨fun z => absurd z (by decide), fun _ => ⟨fun z => absurd z (by decide), fun _ => ⟨fun z => absurd z (by decide), fun _ => ⟨fun z => absurd z (by decide), fun _ => ⟨fun z => absurd z (by decide), fun _ => ⟨fun z => absurd z (by decide), fun _ => ⟨fun z => absurd z (by decide), fun _ => ⟨fun z => absurd z (by decide), fun _ => ⟨fun z => absurd z (by decide), fun _ => ⟨fun z => absurd z (by decide), fun _ => ⟨fun z => absurd z (by decide), fun _ => ⟨fun z => absurd z (by decide), fun _ => ⟨fun z => absurd z (by decide), fun _ => ⟨fun z => absurd z (by decide), fun _ => ⟨fun z => absurd z (by decide), fun _ => ⟨fun _ => H.kindOf sa ⟨fun _ => H.kindOf ta ⟨fun z => absurd z hkb, fun _ => hp⟩, fun z => absurd hka z⟩, fun z => absurd rfl z⟩⟩⟩⟩⟩⟩⟩⟩⟩⟩⟩⟩⟩⟩⟩⟩⟩))))), fun post hp => ⟨vs, vs, ⟨fun z => absurd z (by decide), fun _ => ⟨fun z => absurd z (by decide), fun _ => ⟨fun z => absurd z (by decide), fun _ => ⟨fun z => absurd z (by decide), fun _ => ⟨fun z => absurd z (by decide), fun _ => ⟨fun z => absurd z (by decide), fun _ => ⟨fun z => absurd z (by decide), fun _ => ⟨fun z => absurd z (by decide), fun _ => ⟨fun z => absurd z (by decide), fun _ => ?_⟩⟩⟩⟩⟩⟩⟩⟩⟩⟩⟩
      rw [es, um, eu, sm, tm, rm']
      refine ⟨vu, vu, ?_⟩
      unfold wp_Model_reckon
      rw [ea2, eb2]
      exact ⟨fun z => absurd z (by decide), fun _ => ⟨va2, fun _ => ⟨vb2, fun z => absurd z mb, fun _ => hp⟩, fun z => absurd ma1 z⟩⟩
  · have ma := H.nnm sa hka
    refine ⟨7, f + 2, s, e, d, pc, nI (pc + 1), kc, lc, rc, tk, km, lm, rm, π, H, Us, Ue, Ud, fun x hx => ⟨hx, rfl⟩, by omega, by omega, by omega, fun z => absurd z (by decide), fun _ => rfl, fun post hp => td _ (ud _ (sd _ (rd _ (word_op g2 g3 g4 (⟨fun z => absurd z (by decide), fun _ => ⟨fun z => absurd z (by decide), fun _ => ⟨fun z => absurd z (by decide), fun _ => ⟨fun z => absurd z (by decide), fun _ => ⟨fun z => absurd z (by decide), fun _ => ⟨fun z => absurd z (by decide), fun _ => ⟨fun z => absurd z (by decide), fun _ => ⟨fun z => absurd z (by decide), fun _ => ⟨fun z => absurd z (by decide), fun _ => ⟨fun z => absurd z (by decide), fun _ => ⟨fun z => absurd z (by decide), fun _ => ⟨fun z => absurd z (by decide), fun _ => ⟨fun z => absurd z (by decide), fun _ => ⟨fun z => absurd z (by decide), fun _ => ⟨fun z => absurd z (by decide), fun _ => ⟨fun z => absurd z (by decide), fun _ => ⟨fun _ => H.kindOf sa ⟨fun z => absurd z hka, fun _ => hp⟩, fun z => absurd rfl z⟩⟩⟩⟩⟩⟩⟩⟩⟩⟩⟩⟩⟩⟩⟩⟩⟩))))), fun post hp => ⟨vs, vs, ⟨fun z => absurd z (by decide), fun _ => ⟨fun z => absurd z (by decide), fun _ => ⟨fun z => absurd z (by decide), fun _ => ⟨fun z => absurd z (by decide), fun _ => ⟨fun z => absurd z (by decide), fun _ => ⟨fun z => absurd z (by decide), fun _ => ⟨fun z => absurd z (by decide), fun _ => ⟨fun z => absurd z (by decide), fun _ => ⟨fun z => absurd z (by decide), fun _ => ?_⟩⟩⟩⟩⟩⟩⟩⟩⟩⟩⟩
    rw [es, um, eu, sm, tm, rm']
    refine ⟨vu, vu, ?_⟩
    unfold wp_Model_reckon
    rw [ea2, eb2]
    exact ⟨fun z => absurd z (by decide), fun _ => ⟨va2, fun z => absurd z ma, fun _ => hp⟩⟩
theorem x_mul {ρ : Nat → Prop} {h q kk : Nat} {js : List Nat} {fn rap : Bool} (H : HP sz (f + 2) fre kc lc rc tk km lm rm π G) (Us : US sz (f + 2) fre s) (Ue : US sz (f + 2) fre e) (Ud : US sz (f + 2) fre d) (g : STEP cd n nco (GOOD cd n nco) pc h q js fn rap) (hcd : cd pc = (17, x, y)) (hn : n ≤ 512) (sh : SH (US sz (f + 2) fre) kc rc s h) (eh : EH (US sz (f + 2) fre) ρ kc rc e q) (dd : DD cd n nco (US sz (f + 2) fre) ρ kc lc rc kk d js fn) : EXR cd n nco sz (f + 2) fre kc lc rc tk km lm rm cons cn π G s e d pc 17 x y := by
  unfold STEP at g
  rw [hcd] at g
  simp only at g
  obtain ⟨g1, g2, g3, g4, t0, t1, t2, t3, t4, t5, t6, t7, t8, t9, t12, t20⟩ := g
  have lsz := H.2.1
  have lf := H.2.2.1
  obtain ⟨lt1, lt2, lt3⟩ := H.lt Us
  have vs : vp_in (nI (π s)) 200 := vp_in_nI (by omega) (by decide)
  have es : (nI (π s)).toNatClampNeg = π s := nI_clamp (by omega)
  obtain ⟨hh, g'⟩ := t12 (by decide)
  obtain ⟨h0, rfl⟩ : ∃ h0, h = h0 + 1 + 1 := ⟨h - 2, by omega⟩
  obtain ⟨top, und, ta, ua, ks, tb, ub, tm, um, shu, td, ud⟩ := SH.top H Us sh
  obtain ⟨sec, rst, sa, ra, ku, sb, rb, sm, rm', shr, sd, rd⟩ := SH.top H ua shu
  have lu := H.lt ua
  have vu : vp_in (nI (π und)) 200 := vp_in_nI (by omega) (by decide)
  have eu : (nI (π und)).toNatClampNeg = π und := nI_clamp (by omega)
  have lsc := H.lt sa
  have ltp := H.lt ta
  have va : vp_in (nI sec) sz := vp_in_nI (by omega) (by omega)
  have vb : vp_in (nI top) sz := vp_in_nI (by omega) (by omega)
  have va2 : vp_in (nI (π sec)) 200 := vp_in_nI (by omega) (by decide)
  have vb2 : vp_in (nI (π top)) 200 := vp_in_nI (by omega) (by decide)
  have ea : (nI sec).toNatClampNeg = sec := nI_clamp (by omega)
  have eb : (nI top).toNatClampNeg = top := nI_clamp (by omega)
  have ea2 : (nI (π sec)).toNatClampNeg = π sec := nI_clamp (by omega)
  have eb2 : (nI (π top)).toNatClampNeg = π top := nI_clamp (by omega)
  by_cases hka : kc sec = 0
  · by_cases hkb : kc top = 0
    · obtain ⟨ma1, ma2⟩ := H.nm sa hka
      obtain ⟨mb1, mb2⟩ := H.nm ta hkb
      have vals : ∀ P : Int32 → Int32 → Prop, P (lc sec) (lc top) → wp_Memory_valueOf sz lc (nI sec) (fun r_5 => wp_Memory_valueOf sz lc (nI top) (fun r_6 => P r_5 r_6)) := fun P hP => by
        unfold wp_Memory_valueOf
        rw [ea, eb]
        exact ⟨va, vb, hP⟩
      obtain ⟨c, kc1, lc1, rc1, tk1, km1, lm1, rm1, π1, h1, h2, h3, h4, h5, h6, h7, h8, h9⟩ := H.num (lc sec * lc top)
      have st : STAY (US sz (f + 2) fre) (US sz (f + 1) fre) ρ ρ kc lc rc kc1 lc1 rc1 := STAY.ext h2
      obtain ⟨c2, kc2, lc2, rc2, tk2, km2, lm2, rm2, π2, i1, i2, i3, i4, i5, i6⟩ := PUSH h1 h3 (h2 rst ra).1 (shr.to st) g' (eh.to st) (dd.to st)
      have hE := h2.trans i2
      have calc_ : ∀ P : Int32 → Prop, P (lc sec * lc top) → wp_Machine_calculate (nI 17) (lc sec) (lc top) P := fun P hP => ⟨fun z => absurd z (by decide), fun _ => ⟨fun z => absurd z (by decide), fun _ => ⟨fun _ => hP, fun z => absurd rfl z⟩⟩⟩
      refine ⟨1, f, c2, e, d, pc + 1, nI (pc + 1), kc2, lc2, rc2, tk2, km2, lm2, rm2, π2, i1, i3, (hE e Ue).1, (hE d Ud).1, fun x hx => ⟨(hE x hx).1, (hE x hx).2.1⟩, by omega, by omega, by omega, fun _ => ⟨rfl, i4⟩, fun z => absurd rfl z, fun post hp => td _ (ud _ (sd _ (rd _ (word_op g2 g3 g4 (⟨fun z => absurd z (by decide), fun _ => ⟨fun z => absurd z (by decide), fun _ => ⟨fun z => absurd z (by decide), fun _ => ⟨fun z => absurd z (by decide), fun _ => ⟨fun z => absurd z (by decide), fun _ => ⟨fun z => absurd z (by decide), fun _ => ⟨fun z => absurd z (by decide), fun _ => ⟨fun z => absurd z (by decide), fun _ => ⟨fun z => absurd z (by decide), fun _ => ⟨fun z => absurd z (by decide), fun _ => ⟨fun z => absurd z (by decide), fun _ => ⟨fun z => absurd z (by decide), fun _ => ⟨fun z => absurd z (by decide), fun _ => ⟨fun z => absurd z (by decide), fun _ => ⟨fun z => absurd z (by decide), fun _ => ⟨fun z => absurd z (by decide), fun _ => ⟨fun z => absurd z (by decide), fun _ => ⟨fun _ => H.kindOf sa ⟨fun _ => H.kindOf ta ⟨fun _ => vals _ ⟨fun z => absurd z (by decide), fun _ => ⟨fun z0 => ⟨fun z => absurd z (by decide), fun _ => ⟨fun z => absurd z (by decide), fun _ => calc_ _ (h8 _ (i5 _ hp))⟩⟩, fun _ => calc_ _ (h8 _ (i5 _ hp))⟩⟩, fun z => absurd hkb z⟩, fun z => absurd hka z⟩, fun z => absurd rfl z⟩⟩⟩⟩⟩⟩⟩⟩⟩⟩⟩⟩⟩⟩⟩⟩⟩⟩))))), fun post hp => ⟨vs, vs, ⟨fun z => absurd z (by decide), fun _ => ⟨fun z => absurd z (by decide), fun _ => ⟨fun z => absurd z (by decide), fun _ => ⟨fun z => absurd z (by decide), fun _ => ⟨fun z => absurd z (by decide), fun _ => ⟨fun z => absurd z (by decide), fun _ => ⟨fun z => absurd z (by decide), fun _ => ⟨fun z => absurd z (by decide), fun _ => ⟨fun z => absurd z (by decide), fun _ => ?_⟩⟩⟩⟩⟩⟩⟩⟩⟩⟩⟩
      rw [es, um, eu, sm, tm, rm']
      refine ⟨vu, vu, ?_⟩
      unfold wp_Model_reckon
      rw [ea2, eb2]
      rw [ma2, mb2]
      have fin : wp_Model_reckon_J150 (nI sz) (fun r_51 used_52 i_pc_53 i_s_54 km_55 lm_56 rm_57 tk_58 => post r_51 used_52 i_pc_53 i_s_54 (nI (π e)) (nI (π d)) km_55 lm_56 rm_57 tk_58) (nI 17) (nI (π rst)) (lc sec) (lc top) (nI (sz - (f + 2))) (nI pc) (nI (π s)) km lm rm tk := by
        refine ⟨fun z => absurd z (by decide), fun _ => ⟨fun z => absurd z (by decide), fun _ => ⟨fun _ => h9 _ _ ?_, fun z => absurd rfl z⟩⟩⟩
        rw [used_up (by omega), ← (h2 rst ra).2.1]
        refine i6 _ _ ?_
        rw [used_up (by omega), nI_1, ← (hE e Ue).2.1, ← (hE d Ud).2.1]
        exact hp
      exact ⟨fun z => absurd z (by decide), fun _ => ⟨va2, fun _ => ⟨vb2, fun _ => ⟨va2, vb2, fun z => absurd z (by decide), fun _ => ⟨fun _ => fin, fun z => absurd (by decide) z⟩⟩, fun z => absurd mb1 z⟩, fun z => absurd ma1 z⟩⟩
    · obtain ⟨ma1, ma2⟩ := H.nm sa hka
      have mb := H.nnm ta hkb
      refine ⟨7, f + 2, s, e, d, pc, nI (pc + 1), kc, lc, rc, tk, km, lm, rm, π, H, Us, Ue, Ud, fun x hx => ⟨hx, rfl⟩, by omega, by omega, by omega, fun z => absurd z (by decide), fun _ => rfl, fun post hp => td _ (ud _ (sd _ (rd _ (word_op g2 g3 g4 (⟨fun z => absurd z (by decide), fun _ => ⟨fun z => absurd z (by decide), fun _ => ⟨fun z => absurd z (by decide), fun _ => ⟨fun z => absurd z (by decide), fun _ => ⟨fun z => absurd z (by decide), fun _ => ⟨fun z => absurd z (by decide), fun _ => ⟨fun z => absurd z (by decide), fun _ => ⟨fun z => absurd z (by decide), fun _ => ⟨fun z => absurd z (by decide), fun _ => ⟨fun z => absurd z (by decide), fun _ => ⟨fun z => absurd z (by decide), fun _ => ⟨fun z => absurd z (by decide), fun _ => ⟨fun z => absurd z (by decide), fun _ => ⟨fun z => absurd z (by decide), fun _ => ⟨fun z => absurd z (by decide), fun _ => ⟨fun z => absurd z (by decide), fun _ => ⟨fun z => absurd z (by decide), fun _ => ⟨fun _ => H.kindOf sa ⟨fun _ => H.kindOf ta ⟨fun z => absurd z hkb, fun _ => hp⟩, fun z => absurd hka z⟩, fun z => absurd rfl z⟩⟩⟩⟩⟩⟩⟩⟩⟩⟩⟩⟩⟩⟩⟩⟩⟩⟩))))), fun post hp => ⟨vs, vs, ⟨fun z => absurd z (by decide), fun _ => ⟨fun z => absurd z (by decide), fun _ => ⟨fun z => absurd z (by decide), fun _ => ⟨fun z => absurd z (by decide), fun _ => ⟨fun z => absurd z (by decide), fun _ => ⟨fun z => absurd z (by decide), fun _ => ⟨fun z => absurd z (by decide), fun _ => ⟨fun z => absurd z (by decide), fun _ => ⟨fun z => absurd z (by decide), fun _ => ?_⟩⟩⟩⟩⟩⟩⟩⟩⟩⟩⟩
      rw [es, um, eu, sm, tm, rm']
      refine ⟨vu, vu, ?_⟩
      unfold wp_Model_reckon
      rw [ea2, eb2]
      exact ⟨fun z => absurd z (by decide), fun _ => ⟨va2, fun _ => ⟨vb2, fun z => absurd z mb, fun _ => hp⟩, fun z => absurd ma1 z⟩⟩
  · have ma := H.nnm sa hka
    refine ⟨7, f + 2, s, e, d, pc, nI (pc + 1), kc, lc, rc, tk, km, lm, rm, π, H, Us, Ue, Ud, fun x hx => ⟨hx, rfl⟩, by omega, by omega, by omega, fun z => absurd z (by decide), fun _ => rfl, fun post hp => td _ (ud _ (sd _ (rd _ (word_op g2 g3 g4 (⟨fun z => absurd z (by decide), fun _ => ⟨fun z => absurd z (by decide), fun _ => ⟨fun z => absurd z (by decide), fun _ => ⟨fun z => absurd z (by decide), fun _ => ⟨fun z => absurd z (by decide), fun _ => ⟨fun z => absurd z (by decide), fun _ => ⟨fun z => absurd z (by decide), fun _ => ⟨fun z => absurd z (by decide), fun _ => ⟨fun z => absurd z (by decide), fun _ => ⟨fun z => absurd z (by decide), fun _ => ⟨fun z => absurd z (by decide), fun _ => ⟨fun z => absurd z (by decide), fun _ => ⟨fun z => absurd z (by decide), fun _ => ⟨fun z => absurd z (by decide), fun _ => ⟨fun z => absurd z (by decide), fun _ => ⟨fun z => absurd z (by decide), fun _ => ⟨fun z => absurd z (by decide), fun _ => ⟨fun _ => H.kindOf sa ⟨fun z => absurd z hka, fun _ => hp⟩, fun z => absurd rfl z⟩⟩⟩⟩⟩⟩⟩⟩⟩⟩⟩⟩⟩⟩⟩⟩⟩⟩))))), fun post hp => ⟨vs, vs, ⟨fun z => absurd z (by decide), fun _ => ⟨fun z => absurd z (by decide), fun _ => ⟨fun z => absurd z (by decide), fun _ => ⟨fun z => absurd z (by decide), fun _ => ⟨fun z => absurd z (by decide), fun _ => ⟨fun z => absurd z (by decide), fun _ => ⟨fun z => absurd z (by decide), fun _ => ⟨fun z => absurd z (by decide), fun _ => ⟨fun z => absurd z (by decide), fun _ => ?_⟩⟩⟩⟩⟩⟩⟩⟩⟩⟩⟩
    rw [es, um, eu, sm, tm, rm']
    refine ⟨vu, vu, ?_⟩
    unfold wp_Model_reckon
    rw [ea2, eb2]
    exact ⟨fun z => absurd z (by decide), fun _ => ⟨va2, fun z => absurd z ma, fun _ => hp⟩⟩
theorem x_div {ρ : Nat → Prop} {h q kk : Nat} {js : List Nat} {fn rap : Bool} (H : HP sz (f + 2) fre kc lc rc tk km lm rm π G) (Us : US sz (f + 2) fre s) (Ue : US sz (f + 2) fre e) (Ud : US sz (f + 2) fre d) (g : STEP cd n nco (GOOD cd n nco) pc h q js fn rap) (hcd : cd pc = (18, x, y)) (hn : n ≤ 512) (sh : SH (US sz (f + 2) fre) kc rc s h) (eh : EH (US sz (f + 2) fre) ρ kc rc e q) (dd : DD cd n nco (US sz (f + 2) fre) ρ kc lc rc kk d js fn) : EXR cd n nco sz (f + 2) fre kc lc rc tk km lm rm cons cn π G s e d pc 18 x y := by
  unfold STEP at g
  rw [hcd] at g
  simp only at g
  obtain ⟨g1, g2, g3, g4, t0, t1, t2, t3, t4, t5, t6, t7, t8, t9, t12, t20⟩ := g
  have lsz := H.2.1
  have lf := H.2.2.1
  obtain ⟨lt1, lt2, lt3⟩ := H.lt Us
  have vs : vp_in (nI (π s)) 200 := vp_in_nI (by omega) (by decide)
  have es : (nI (π s)).toNatClampNeg = π s := nI_clamp (by omega)
  obtain ⟨hh, g'⟩ := t12 (by decide)
  obtain ⟨h0, rfl⟩ : ∃ h0, h = h0 + 1 + 1 := ⟨h - 2, by omega⟩
  obtain ⟨top, und, ta, ua, ks, tb, ub, tm, um, shu, td, ud⟩ := SH.top H Us sh
  obtain ⟨sec, rst, sa, ra, ku, sb, rb, sm, rm', shr, sd, rd⟩ := SH.top H ua shu
  have lu := H.lt ua
  have vu : vp_in (nI (π und)) 200 := vp_in_nI (by omega) (by decide)
  have eu : (nI (π und)).toNatClampNeg = π und := nI_clamp (by omega)
  have lsc := H.lt sa
  have ltp := H.lt ta
  have va : vp_in (nI sec) sz := vp_in_nI (by omega) (by omega)
  have vb : vp_in (nI top) sz := vp_in_nI (by omega) (by omega)
  have va2 : vp_in (nI (π sec)) 200 := vp_in_nI (by omega) (by decide)
  have vb2 : vp_in (nI (π top)) 200 := vp_in_nI (by omega) (by decide)
  have ea : (nI sec).toNatClampNeg = sec := nI_clamp (by omega)
  have eb : (nI top).toNatClampNeg = top := nI_clamp (by omega)
  have ea2 : (nI (π sec)).toNatClampNeg = π sec := nI_clamp (by omega)
  have eb2 : (nI (π top)).toNatClampNeg = π top := nI_clamp (by omega)
  by_cases hka : kc sec = 0
  · by_cases hkb : kc top = 0
    · obtain ⟨ma1, ma2⟩ := H.nm sa hka
      obtain ⟨mb1, mb2⟩ := H.nm ta hkb
      have vals : ∀ P : Int32 → Int32 → Prop, P (lc sec) (lc top) → wp_Memory_valueOf sz lc (nI sec) (fun r_5 => wp_Memory_valueOf sz lc (nI top) (fun r_6 => P r_5 r_6)) := fun P hP => by
        unfold wp_Memory_valueOf
        rw [ea, eb]
        exact ⟨va, vb, hP⟩
      by_cases h0v : lc top = 0
      · refine ⟨8, f + 2, s, e, d, pc, nI (pc + 1), kc, lc, rc, tk, km, lm, rm, π, H, Us, Ue, Ud, fun x hx => ⟨hx, rfl⟩, by omega, by omega, by omega, fun z => absurd z (by decide), fun _ => rfl, fun post hp => td _ (ud _ (sd _ (rd _ (word_op g2 g3 g4 (⟨fun z => absurd z (by decide), fun _ => ⟨fun z => absurd z (by decide), fun _ => ⟨fun z => absurd z (by decide), fun _ => ⟨fun z => absurd z (by decide), fun _ => ⟨fun z => absurd z (by decide), fun _ => ⟨fun z => absurd z (by decide), fun _ => ⟨fun z => absurd z (by decide), fun _ => ⟨fun z => absurd z (by decide), fun _ => ⟨fun z => absurd z (by decide), fun _ => ⟨fun z => absurd z (by decide), fun _ => ⟨fun z => absurd z (by decide), fun _ => ⟨fun z => absurd z (by decide), fun _ => ⟨fun z => absurd z (by decide), fun _ => ⟨fun z => absurd z (by decide), fun _ => ⟨fun z => absurd z (by decide), fun _ => ⟨fun z => absurd z (by decide), fun _ => ⟨fun z => absurd z (by decide), fun _ => ⟨fun z => absurd z (by decide), fun _ => ⟨fun _ => H.kindOf sa ⟨fun _ => H.kindOf ta ⟨fun _ => vals _ ⟨fun z => absurd z (by decide), fun _ => ⟨fun _ => ⟨fun _ => hp, fun z => absurd rfl z⟩, fun z => absurd h0v z⟩⟩, fun z => absurd hkb z⟩, fun z => absurd hka z⟩, fun z => absurd rfl z⟩⟩⟩⟩⟩⟩⟩⟩⟩⟩⟩⟩⟩⟩⟩⟩⟩⟩⟩))))), fun post hp => ⟨vs, vs, ⟨fun z => absurd z (by decide), fun _ => ⟨fun z => absurd z (by decide), fun _ => ⟨fun z => absurd z (by decide), fun _ => ⟨fun z => absurd z (by decide), fun _ => ⟨fun z => absurd z (by decide), fun _ => ⟨fun z => absurd z (by decide), fun _ => ⟨fun z => absurd z (by decide), fun _ => ⟨fun z => absurd z (by decide), fun _ => ⟨fun z => absurd z (by decide), fun _ => ?_⟩⟩⟩⟩⟩⟩⟩⟩⟩⟩⟩
        rw [es, um, eu, sm, tm, rm']
        refine ⟨vu, vu, ?_⟩
        unfold wp_Model_reckon
        rw [ea2, eb2]
        rw [ma2, mb2]
        exact ⟨fun z => absurd z (by decide), fun _ => ⟨va2, fun _ => ⟨vb2, fun _ => ⟨va2, vb2, fun z => absurd z (by decide), fun _ => ⟨fun z => absurd z (by decide), fun _ => ⟨fun _ => hp, fun z => absurd h0v z⟩⟩⟩, fun z => absurd mb1 z⟩, fun z => absurd ma1 z⟩⟩
      · obtain ⟨c, kc1, lc1, rc1, tk1, km1, lm1, rm1, π1, h1, h2, h3, h4, h5, h6, h7, h8, h9⟩ := H.num (lc sec / lc top)
        have st : STAY (US sz (f + 2) fre) (US sz (f + 1) fre) ρ ρ kc lc rc kc1 lc1 rc1 := STAY.ext h2
        obtain ⟨c2, kc2, lc2, rc2, tk2, km2, lm2, rm2, π2, i1, i2, i3, i4, i5, i6⟩ := PUSH h1 h3 (h2 rst ra).1 (shr.to st) g' (eh.to st) (dd.to st)
        have hE := h2.trans i2
        have calc_ : ∀ P : Int32 → Prop, P (lc sec / lc top) → wp_Machine_calculate (nI 18) (lc sec) (lc top) P := fun P hP => ⟨fun z => absurd z (by decide), fun _ => ⟨fun z => absurd z (by decide), fun _ => ⟨fun z => absurd z (by decide), fun _ => ⟨fun _ => ⟨fun z => absurd z h0v, fun _ => ⟨h0v, hP⟩⟩, fun z => absurd rfl z⟩⟩⟩⟩
        refine ⟨1, f, c2, e, d, pc + 1, nI (pc + 1), kc2, lc2, rc2, tk2, km2, lm2, rm2, π2, i1, i3, (hE e Ue).1, (hE d Ud).1, fun x hx => ⟨(hE x hx).1, (hE x hx).2.1⟩, by omega, by omega, by omega, fun _ => ⟨rfl, i4⟩, fun z => absurd rfl z, fun post hp => td _ (ud _ (sd _ (rd _ (word_op g2 g3 g4 (⟨fun z => absurd z (by decide), fun _ => ⟨fun z => absurd z (by decide), fun _ => ⟨fun z => absurd z (by decide), fun _ => ⟨fun z => absurd z (by decide), fun _ => ⟨fun z => absurd z (by decide), fun _ => ⟨fun z => absurd z (by decide), fun _ => ⟨fun z => absurd z (by decide), fun _ => ⟨fun z => absurd z (by decide), fun _ => ⟨fun z => absurd z (by decide), fun _ => ⟨fun z => absurd z (by decide), fun _ => ⟨fun z => absurd z (by decide), fun _ => ⟨fun z => absurd z (by decide), fun _ => ⟨fun z => absurd z (by decide), fun _ => ⟨fun z => absurd z (by decide), fun _ => ⟨fun z => absurd z (by decide), fun _ => ⟨fun z => absurd z (by decide), fun _ => ⟨fun z => absurd z (by decide), fun _ => ⟨fun z => absurd z (by decide), fun _ => ⟨fun _ => H.kindOf sa ⟨fun _ => H.kindOf ta ⟨fun _ => vals _ ⟨fun z => absurd z (by decide), fun _ => ⟨fun z0 => absurd z0 h0v, fun _ => calc_ _ (h8 _ (i5 _ hp))⟩⟩, fun z => absurd hkb z⟩, fun z => absurd hka z⟩, fun z => absurd rfl z⟩⟩⟩⟩⟩⟩⟩⟩⟩⟩⟩⟩⟩⟩⟩⟩⟩⟩⟩))))), fun post hp => ⟨vs, vs, ⟨fun z => absurd z (by decide), fun _ => ⟨fun z => absurd z (by decide), fun _ => ⟨fun z => absurd z (by decide), fun _ => ⟨fun z => absurd z (by decide), fun _ => ⟨fun z => absurd z (by decide), fun _ => ⟨fun z => absurd z (by decide), fun _ => ⟨fun z => absurd z (by decide), fun _ => ⟨fun z => absurd z (by decide), fun _ => ⟨fun z => absurd z (by decide), fun _ => ?_⟩⟩⟩⟩⟩⟩⟩⟩⟩⟩⟩
        rw [es, um, eu, sm, tm, rm']
        refine ⟨vu, vu, ?_⟩
        unfold wp_Model_reckon
        rw [ea2, eb2]
        rw [ma2, mb2]
        have fin : wp_Model_reckon_J150 (nI sz) (fun r_51 used_52 i_pc_53 i_s_54 km_55 lm_56 rm_57 tk_58 => post r_51 used_52 i_pc_53 i_s_54 (nI (π e)) (nI (π d)) km_55 lm_56 rm_57 tk_58) (nI 18) (nI (π rst)) (lc sec) (lc top) (nI (sz - (f + 2))) (nI pc) (nI (π s)) km lm rm tk := by
          refine ⟨fun z => absurd z (by decide), fun _ => ⟨fun z => absurd z (by decide), fun _ => ⟨fun z => absurd z (by decide), fun _ => ⟨fun _ => ⟨h0v, h9 _ _ ?_⟩, fun z => absurd rfl z⟩⟩⟩⟩
          rw [used_up (by omega), ← (h2 rst ra).2.1]
          refine i6 _ _ ?_
          rw [used_up (by omega), nI_1, ← (hE e Ue).2.1, ← (hE d Ud).2.1]
          exact hp
        exact ⟨fun z => absurd z (by decide), fun _ => ⟨va2, fun _ => ⟨vb2, fun _ => ⟨va2, vb2, fun z => absurd z (by decide), fun _ => ⟨fun z => absurd z (by decide), fun _ => ⟨fun z => absurd z h0v, fun _ => fin⟩⟩⟩, fun z => absurd mb1 z⟩, fun z => absurd ma1 z⟩⟩
    · obtain ⟨ma1, ma2⟩ := H.nm sa hka
      have mb := H.nnm ta hkb
      refine ⟨7, f + 2, s, e, d, pc, nI (pc + 1), kc, lc, rc, tk, km, lm, rm, π, H, Us, Ue, Ud, fun x hx => ⟨hx, rfl⟩, by omega, by omega, by omega, fun z => absurd z (by decide), fun _ => rfl, fun post hp => td _ (ud _ (sd _ (rd _ (word_op g2 g3 g4 (⟨fun z => absurd z (by decide), fun _ => ⟨fun z => absurd z (by decide), fun _ => ⟨fun z => absurd z (by decide), fun _ => ⟨fun z => absurd z (by decide), fun _ => ⟨fun z => absurd z (by decide), fun _ => ⟨fun z => absurd z (by decide), fun _ => ⟨fun z => absurd z (by decide), fun _ => ⟨fun z => absurd z (by decide), fun _ => ⟨fun z => absurd z (by decide), fun _ => ⟨fun z => absurd z (by decide), fun _ => ⟨fun z => absurd z (by decide), fun _ => ⟨fun z => absurd z (by decide), fun _ => ⟨fun z => absurd z (by decide), fun _ => ⟨fun z => absurd z (by decide), fun _ => ⟨fun z => absurd z (by decide), fun _ => ⟨fun z => absurd z (by decide), fun _ => ⟨fun z => absurd z (by decide), fun _ => ⟨fun z => absurd z (by decide), fun _ => ⟨fun _ => H.kindOf sa ⟨fun _ => H.kindOf ta ⟨fun z => absurd z hkb, fun _ => hp⟩, fun z => absurd hka z⟩, fun z => absurd rfl z⟩⟩⟩⟩⟩⟩⟩⟩⟩⟩⟩⟩⟩⟩⟩⟩⟩⟩⟩))))), fun post hp => ⟨vs, vs, ⟨fun z => absurd z (by decide), fun _ => ⟨fun z => absurd z (by decide), fun _ => ⟨fun z => absurd z (by decide), fun _ => ⟨fun z => absurd z (by decide), fun _ => ⟨fun z => absurd z (by decide), fun _ => ⟨fun z => absurd z (by decide), fun _ => ⟨fun z => absurd z (by decide), fun _ => ⟨fun z => absurd z (by decide), fun _ => ⟨fun z => absurd z (by decide), fun _ => ?_⟩⟩⟩⟩⟩⟩⟩⟩⟩⟩⟩
      rw [es, um, eu, sm, tm, rm']
      refine ⟨vu, vu, ?_⟩
      unfold wp_Model_reckon
      rw [ea2, eb2]
      exact ⟨fun z => absurd z (by decide), fun _ => ⟨va2, fun _ => ⟨vb2, fun z => absurd z mb, fun _ => hp⟩, fun z => absurd ma1 z⟩⟩
  · have ma := H.nnm sa hka
    refine ⟨7, f + 2, s, e, d, pc, nI (pc + 1), kc, lc, rc, tk, km, lm, rm, π, H, Us, Ue, Ud, fun x hx => ⟨hx, rfl⟩, by omega, by omega, by omega, fun z => absurd z (by decide), fun _ => rfl, fun post hp => td _ (ud _ (sd _ (rd _ (word_op g2 g3 g4 (⟨fun z => absurd z (by decide), fun _ => ⟨fun z => absurd z (by decide), fun _ => ⟨fun z => absurd z (by decide), fun _ => ⟨fun z => absurd z (by decide), fun _ => ⟨fun z => absurd z (by decide), fun _ => ⟨fun z => absurd z (by decide), fun _ => ⟨fun z => absurd z (by decide), fun _ => ⟨fun z => absurd z (by decide), fun _ => ⟨fun z => absurd z (by decide), fun _ => ⟨fun z => absurd z (by decide), fun _ => ⟨fun z => absurd z (by decide), fun _ => ⟨fun z => absurd z (by decide), fun _ => ⟨fun z => absurd z (by decide), fun _ => ⟨fun z => absurd z (by decide), fun _ => ⟨fun z => absurd z (by decide), fun _ => ⟨fun z => absurd z (by decide), fun _ => ⟨fun z => absurd z (by decide), fun _ => ⟨fun z => absurd z (by decide), fun _ => ⟨fun _ => H.kindOf sa ⟨fun z => absurd z hka, fun _ => hp⟩, fun z => absurd rfl z⟩⟩⟩⟩⟩⟩⟩⟩⟩⟩⟩⟩⟩⟩⟩⟩⟩⟩⟩))))), fun post hp => ⟨vs, vs, ⟨fun z => absurd z (by decide), fun _ => ⟨fun z => absurd z (by decide), fun _ => ⟨fun z => absurd z (by decide), fun _ => ⟨fun z => absurd z (by decide), fun _ => ⟨fun z => absurd z (by decide), fun _ => ⟨fun z => absurd z (by decide), fun _ => ⟨fun z => absurd z (by decide), fun _ => ⟨fun z => absurd z (by decide), fun _ => ⟨fun z => absurd z (by decide), fun _ => ?_⟩⟩⟩⟩⟩⟩⟩⟩⟩⟩⟩
    rw [es, um, eu, sm, tm, rm']
    refine ⟨vu, vu, ?_⟩
    unfold wp_Model_reckon
    rw [ea2, eb2]
    exact ⟨fun z => absurd z (by decide), fun _ => ⟨va2, fun z => absurd z ma, fun _ => hp⟩⟩
theorem x_rem {ρ : Nat → Prop} {h q kk : Nat} {js : List Nat} {fn rap : Bool} (H : HP sz (f + 2) fre kc lc rc tk km lm rm π G) (Us : US sz (f + 2) fre s) (Ue : US sz (f + 2) fre e) (Ud : US sz (f + 2) fre d) (g : STEP cd n nco (GOOD cd n nco) pc h q js fn rap) (hcd : cd pc = (19, x, y)) (hn : n ≤ 512) (sh : SH (US sz (f + 2) fre) kc rc s h) (eh : EH (US sz (f + 2) fre) ρ kc rc e q) (dd : DD cd n nco (US sz (f + 2) fre) ρ kc lc rc kk d js fn) : EXR cd n nco sz (f + 2) fre kc lc rc tk km lm rm cons cn π G s e d pc 19 x y := by
  unfold STEP at g
  rw [hcd] at g
  simp only at g
  obtain ⟨g1, g2, g3, g4, t0, t1, t2, t3, t4, t5, t6, t7, t8, t9, t12, t20⟩ := g
  have lsz := H.2.1
  have lf := H.2.2.1
  obtain ⟨lt1, lt2, lt3⟩ := H.lt Us
  have vs : vp_in (nI (π s)) 200 := vp_in_nI (by omega) (by decide)
  have es : (nI (π s)).toNatClampNeg = π s := nI_clamp (by omega)
  obtain ⟨hh, g'⟩ := t12 (by decide)
  obtain ⟨h0, rfl⟩ : ∃ h0, h = h0 + 1 + 1 := ⟨h - 2, by omega⟩
  obtain ⟨top, und, ta, ua, ks, tb, ub, tm, um, shu, td, ud⟩ := SH.top H Us sh
  obtain ⟨sec, rst, sa, ra, ku, sb, rb, sm, rm', shr, sd, rd⟩ := SH.top H ua shu
  have lu := H.lt ua
  have vu : vp_in (nI (π und)) 200 := vp_in_nI (by omega) (by decide)
  have eu : (nI (π und)).toNatClampNeg = π und := nI_clamp (by omega)
  have lsc := H.lt sa
  have ltp := H.lt ta
  have va : vp_in (nI sec) sz := vp_in_nI (by omega) (by omega)
  have vb : vp_in (nI top) sz := vp_in_nI (by omega) (by omega)
  have va2 : vp_in (nI (π sec)) 200 := vp_in_nI (by omega) (by decide)
  have vb2 : vp_in (nI (π top)) 200 := vp_in_nI (by omega) (by decide)
  have ea : (nI sec).toNatClampNeg = sec := nI_clamp (by omega)
  have eb : (nI top).toNatClampNeg = top := nI_clamp (by omega)
  have ea2 : (nI (π sec)).toNatClampNeg = π sec := nI_clamp (by omega)
  have eb2 : (nI (π top)).toNatClampNeg = π top := nI_clamp (by omega)
  by_cases hka : kc sec = 0
  · by_cases hkb : kc top = 0
    · obtain ⟨ma1, ma2⟩ := H.nm sa hka
      obtain ⟨mb1, mb2⟩ := H.nm ta hkb
      have vals : ∀ P : Int32 → Int32 → Prop, P (lc sec) (lc top) → wp_Memory_valueOf sz lc (nI sec) (fun r_5 => wp_Memory_valueOf sz lc (nI top) (fun r_6 => P r_5 r_6)) := fun P hP => by
        unfold wp_Memory_valueOf
        rw [ea, eb]
        exact ⟨va, vb, hP⟩
      by_cases h0v : lc top = 0
      · refine ⟨8, f + 2, s, e, d, pc, nI (pc + 1), kc, lc, rc, tk, km, lm, rm, π, H, Us, Ue, Ud, fun x hx => ⟨hx, rfl⟩, by omega, by omega, by omega, fun z => absurd z (by decide), fun _ => rfl, fun post hp => td _ (ud _ (sd _ (rd _ (word_op g2 g3 g4 (⟨fun z => absurd z (by decide), fun _ => ⟨fun z => absurd z (by decide), fun _ => ⟨fun z => absurd z (by decide), fun _ => ⟨fun z => absurd z (by decide), fun _ => ⟨fun z => absurd z (by decide), fun _ => ⟨fun z => absurd z (by decide), fun _ => ⟨fun z => absurd z (by decide), fun _ => ⟨fun z => absurd z (by decide), fun _ => ⟨fun z => absurd z (by decide), fun _ => ⟨fun z => absurd z (by decide), fun _ => ⟨fun z => absurd z (by decide), fun _ => ⟨fun z => absurd z (by decide), fun _ => ⟨fun z => absurd z (by decide), fun _ => ⟨fun z => absurd z (by decide), fun _ => ⟨fun z => absurd z (by decide), fun _ => ⟨fun z => absurd z (by decide), fun _ => ⟨fun z => absurd z (by decide), fun _ => ⟨fun z => absurd z (by decide), fun _ => ⟨fun z => absurd z (by decide), fun _ => ⟨fun _ => H.kindOf sa ⟨fun _ => H.kindOf ta ⟨fun _ => vals _ ⟨fun z => absurd z (by decide), fun _ => ⟨fun _ => ⟨fun z => absurd z (by decide), fun _ => ⟨fun _ => hp, fun z => absurd rfl z⟩⟩, fun z => absurd h0v z⟩⟩, fun z => absurd hkb z⟩, fun z => absurd hka z⟩, fun z => absurd rfl z⟩⟩⟩⟩⟩⟩⟩⟩⟩⟩⟩⟩⟩⟩⟩⟩⟩⟩⟩⟩))))), fun post hp => ⟨vs, vs, ⟨fun z => absurd z (by decide), fun _ => ⟨fun z => absurd z (by decide), fun _ => ⟨fun z => absurd z (by decide), fun _ => ⟨fun z => absurd z (by decide), fun _ => ⟨fun z => absurd z (by decide), fun _ => ⟨fun z => absurd z (by decide), fun _ => ⟨fun z => absurd z (by decide), fun _ => ⟨fun z => absurd z (by decide), fun _ => ⟨fun z => absurd z (by decide), fun _ => ?_⟩⟩⟩⟩⟩⟩⟩⟩⟩⟩⟩
        rw [es, um, eu, sm, tm, rm']
        refine ⟨vu, vu, ?_⟩
        unfold wp_Model_reckon
        rw [ea2, eb2]
        rw [ma2, mb2]
        exact ⟨fun z => absurd z (by decide), fun _ => ⟨va2, fun _ => ⟨vb2, fun _ => ⟨va2, vb2, fun z => absurd z (by decide), fun _ => ⟨fun z => absurd z (by decide), fun _ => ⟨fun _ => hp, fun z => absurd h0v z⟩⟩⟩, fun z => absurd mb1 z⟩, fun z => absurd ma1 z⟩⟩
      · obtain ⟨c, kc1, lc1, rc1, tk1, km1, lm1, rm1, π1, h1, h2, h3, h4, h5, h6, h7, h8, h9⟩ := H.num (lc sec - lc sec / lc top * lc top)
        have st : STAY (US sz (f + 2) fre) (US sz (f + 1) fre) ρ ρ kc lc rc kc1 lc1 rc1 := STAY.ext h2
        obtain ⟨c2, kc2, lc2, rc2, tk2, km2, lm2, rm2, π2, i1, i2, i3, i4, i5, i6⟩ := PUSH h1 h3 (h2 rst ra).1 (shr.to st) g' (eh.to st) (dd.to st)
        have hE := h2.trans i2
        have calc_ : ∀ P : Int32 → Prop, P (lc sec - lc sec / lc top * lc top) → wp_Machine_calculate (nI 19) (lc sec) (lc top) P := fun P hP => ⟨fun z => absurd z (by decide), fun _ => ⟨fun z => absurd z (by decide), fun _ => ⟨fun z => absurd z (by decide), fun _ => ⟨fun z => absurd z (by decide), fun _ => ⟨fun z => absurd z h0v, fun _ => ⟨h0v, hP⟩⟩⟩⟩⟩⟩
        refine ⟨1, f, c2, e, d, pc + 1, nI (pc + 1), kc2, lc2, rc2, tk2, km2, lm2, rm2, π2, i1, i3, (hE e Ue).1, (hE d Ud).1, fun x hx => ⟨(hE x hx).1, (hE x hx).2.1⟩, by omega, by omega, by omega, fun _ => ⟨rfl, i4⟩, fun z => absurd rfl z, fun post hp => td _ (ud _ (sd _ (rd _ (word_op g2 g3 g4 (⟨fun z => absurd z (by decide), fun _ => ⟨fun z => absurd z (by decide), fun _ => ⟨fun z => absurd z (by decide), fun _ => ⟨fun z => absurd z (by decide), fun _ => ⟨fun z => absurd z (by decide), fun _ => ⟨fun z => absurd z (by decide), fun _ => ⟨fun z => absurd z (by decide), fun _ => ⟨fun z => absurd z (by decide), fun _ => ⟨fun z => absurd z (by decide), fun _ => ⟨fun z => absurd z (by decide), fun _ => ⟨fun z => absurd z (by decide), fun _ => ⟨fun z => absurd z (by decide), fun _ => ⟨fun z => absurd z (by decide), fun _ => ⟨fun z => absurd z (by decide), fun _ => ⟨fun z => absurd z (by decide), fun _ => ⟨fun z => absurd z (by decide), fun _ => ⟨fun z => absurd z (by decide), fun _ => ⟨fun z => absurd z (by decide), fun _ => ⟨fun z => absurd z (by decide), fun _ => ⟨fun _ => H.kindOf sa ⟨fun _ => H.kindOf ta ⟨fun _ => vals _ ⟨fun z => absurd z (by decide), fun _ => ⟨fun z0 => absurd z0 h0v, fun _ => calc_ _ (h8 _ (i5 _ hp))⟩⟩, fun z => absurd hkb z⟩, fun z => absurd hka z⟩, fun z => absurd rfl z⟩⟩⟩⟩⟩⟩⟩⟩⟩⟩⟩⟩⟩⟩⟩⟩⟩⟩⟩⟩))))), fun post hp => ⟨vs, vs, ⟨fun z => absurd z (by decide), fun _ => ⟨fun z => absurd z (by decide), fun _ => ⟨fun z => absurd z (by decide), fun _ => ⟨fun z => absurd z (by decide), fun _ => ⟨fun z => absurd z (by decide), fun _ => ⟨fun z => absurd z (by decide), fun _ => ⟨fun z => absurd z (by decide), fun _ => ⟨fun z => absurd z (by decide), fun _ => ⟨fun z => absurd z (by decide), fun _ => ?_⟩⟩⟩⟩⟩⟩⟩⟩⟩⟩⟩
        rw [es, um, eu, sm, tm, rm']
        refine ⟨vu, vu, ?_⟩
        unfold wp_Model_reckon
        rw [ea2, eb2]
        rw [ma2, mb2]
        have fin : wp_Model_reckon_J150 (nI sz) (fun r_51 used_52 i_pc_53 i_s_54 km_55 lm_56 rm_57 tk_58 => post r_51 used_52 i_pc_53 i_s_54 (nI (π e)) (nI (π d)) km_55 lm_56 rm_57 tk_58) (nI 19) (nI (π rst)) (lc sec) (lc top) (nI (sz - (f + 2))) (nI pc) (nI (π s)) km lm rm tk := by
          refine ⟨fun z => absurd z (by decide), fun _ => ⟨fun z => absurd z (by decide), fun _ => ⟨fun z => absurd z (by decide), fun _ => ⟨fun z => absurd z (by decide), fun _ => ⟨h0v, h9 _ _ ?_⟩⟩⟩⟩⟩
          rw [used_up (by omega), ← (h2 rst ra).2.1]
          refine i6 _ _ ?_
          rw [used_up (by omega), nI_1, ← (hE e Ue).2.1, ← (hE d Ud).2.1]
          exact hp
        exact ⟨fun z => absurd z (by decide), fun _ => ⟨va2, fun _ => ⟨vb2, fun _ => ⟨va2, vb2, fun z => absurd z (by decide), fun _ => ⟨fun z => absurd z (by decide), fun _ => ⟨fun z => absurd z h0v, fun _ => fin⟩⟩⟩, fun z => absurd mb1 z⟩, fun z => absurd ma1 z⟩⟩
    · obtain ⟨ma1, ma2⟩ := H.nm sa hka
      have mb := H.nnm ta hkb
      refine ⟨7, f + 2, s, e, d, pc, nI (pc + 1), kc, lc, rc, tk, km, lm, rm, π, H, Us, Ue, Ud, fun x hx => ⟨hx, rfl⟩, by omega, by omega, by omega, fun z => absurd z (by decide), fun _ => rfl, fun post hp => td _ (ud _ (sd _ (rd _ (word_op g2 g3 g4 (⟨fun z => absurd z (by decide), fun _ => ⟨fun z => absurd z (by decide), fun _ => ⟨fun z => absurd z (by decide), fun _ => ⟨fun z => absurd z (by decide), fun _ => ⟨fun z => absurd z (by decide), fun _ => ⟨fun z => absurd z (by decide), fun _ => ⟨fun z => absurd z (by decide), fun _ => ⟨fun z => absurd z (by decide), fun _ => ⟨fun z => absurd z (by decide), fun _ => ⟨fun z => absurd z (by decide), fun _ => ⟨fun z => absurd z (by decide), fun _ => ⟨fun z => absurd z (by decide), fun _ => ⟨fun z => absurd z (by decide), fun _ => ⟨fun z => absurd z (by decide), fun _ => ⟨fun z => absurd z (by decide), fun _ => ⟨fun z => absurd z (by decide), fun _ => ⟨fun z => absurd z (by decide), fun _ => ⟨fun z => absurd z (by decide), fun _ => ⟨fun z => absurd z (by decide), fun _ => ⟨fun _ => H.kindOf sa ⟨fun _ => H.kindOf ta ⟨fun z => absurd z hkb, fun _ => hp⟩, fun z => absurd hka z⟩, fun z => absurd rfl z⟩⟩⟩⟩⟩⟩⟩⟩⟩⟩⟩⟩⟩⟩⟩⟩⟩⟩⟩⟩))))), fun post hp => ⟨vs, vs, ⟨fun z => absurd z (by decide), fun _ => ⟨fun z => absurd z (by decide), fun _ => ⟨fun z => absurd z (by decide), fun _ => ⟨fun z => absurd z (by decide), fun _ => ⟨fun z => absurd z (by decide), fun _ => ⟨fun z => absurd z (by decide), fun _ => ⟨fun z => absurd z (by decide), fun _ => ⟨fun z => absurd z (by decide), fun _ => ⟨fun z => absurd z (by decide), fun _ => ?_⟩⟩⟩⟩⟩⟩⟩⟩⟩⟩⟩
      rw [es, um, eu, sm, tm, rm']
      refine ⟨vu, vu, ?_⟩
      unfold wp_Model_reckon
      rw [ea2, eb2]
      exact ⟨fun z => absurd z (by decide), fun _ => ⟨va2, fun _ => ⟨vb2, fun z => absurd z mb, fun _ => hp⟩, fun z => absurd ma1 z⟩⟩
  · have ma := H.nnm sa hka
    refine ⟨7, f + 2, s, e, d, pc, nI (pc + 1), kc, lc, rc, tk, km, lm, rm, π, H, Us, Ue, Ud, fun x hx => ⟨hx, rfl⟩, by omega, by omega, by omega, fun z => absurd z (by decide), fun _ => rfl, fun post hp => td _ (ud _ (sd _ (rd _ (word_op g2 g3 g4 (⟨fun z => absurd z (by decide), fun _ => ⟨fun z => absurd z (by decide), fun _ => ⟨fun z => absurd z (by decide), fun _ => ⟨fun z => absurd z (by decide), fun _ => ⟨fun z => absurd z (by decide), fun _ => ⟨fun z => absurd z (by decide), fun _ => ⟨fun z => absurd z (by decide), fun _ => ⟨fun z => absurd z (by decide), fun _ => ⟨fun z => absurd z (by decide), fun _ => ⟨fun z => absurd z (by decide), fun _ => ⟨fun z => absurd z (by decide), fun _ => ⟨fun z => absurd z (by decide), fun _ => ⟨fun z => absurd z (by decide), fun _ => ⟨fun z => absurd z (by decide), fun _ => ⟨fun z => absurd z (by decide), fun _ => ⟨fun z => absurd z (by decide), fun _ => ⟨fun z => absurd z (by decide), fun _ => ⟨fun z => absurd z (by decide), fun _ => ⟨fun z => absurd z (by decide), fun _ => ⟨fun _ => H.kindOf sa ⟨fun z => absurd z hka, fun _ => hp⟩, fun z => absurd rfl z⟩⟩⟩⟩⟩⟩⟩⟩⟩⟩⟩⟩⟩⟩⟩⟩⟩⟩⟩⟩))))), fun post hp => ⟨vs, vs, ⟨fun z => absurd z (by decide), fun _ => ⟨fun z => absurd z (by decide), fun _ => ⟨fun z => absurd z (by decide), fun _ => ⟨fun z => absurd z (by decide), fun _ => ⟨fun z => absurd z (by decide), fun _ => ⟨fun z => absurd z (by decide), fun _ => ⟨fun z => absurd z (by decide), fun _ => ⟨fun z => absurd z (by decide), fun _ => ⟨fun z => absurd z (by decide), fun _ => ?_⟩⟩⟩⟩⟩⟩⟩⟩⟩⟩⟩
    rw [es, um, eu, sm, tm, rm']
    refine ⟨vu, vu, ?_⟩
    unfold wp_Model_reckon
    rw [ea2, eb2]
    exact ⟨fun z => absurd z (by decide), fun _ => ⟨va2, fun z => absurd z ma, fun _ => hp⟩⟩
end
