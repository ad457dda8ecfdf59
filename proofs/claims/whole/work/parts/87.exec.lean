/-! one instruction, both -/
section
variable {cd : Nat → Nat × Nat × Nat} {n nco sz f : Nat} {fre kc lc rc tk km lm rm cons cn : Nat → Int32} {π : Nat → Nat} {G : Nat → Prop} {s e d pc x y : Nat}
/-- what both come to -/
def EXR (cd : Nat → Nat × Nat × Nat) (n nco sz f : Nat) (fre kc lc rc tk km lm rm cons cn : Nat → Int32) (π : Nat → Nat) (G : Nat → Prop) (s e d pc o x y : Nat) : Prop :=
  ∃ (st' f' s' e' d' pc' : Nat) (nx : Int32) (kc' lc' rc' tk' km' lm' rm' : Nat → Int32) (π' : Nat → Nat), HP sz f' fre kc' lc' rc' tk' km' lm' rm' π' G ∧ US sz f' fre s' ∧ US sz f' fre e' ∧ US sz f' fre d' ∧ (∀ x, US sz f fre x → US sz f' fre x ∧ π' x = π x ∧ (PL kc lc rc x → PL kc' lc' rc' x)) ∧ (NC kc rc d → NC kc' rc' d') ∧ f' ≤ f ∧ 1 ≤ st' ∧ st' ≤ 9 ∧ (st' = 1 → nx = nI pc' ∧ TYP cd n nco (US sz f' fre) kc' lc' rc' s' e' d' pc') ∧ (¬ st' = 1 → pc' = pc ∧ PL kc' lc' rc' s' ∧ (st' = 2 → kc' s' = 2)) ∧
    (∀ post : Int32 → Int32 → Int32 → Int32 → Int32 → Int32 → (Nat → Int32) → (Nat → Int32) → (Nat → Int32) → Prop, post (nI s') (nI e') (nI d') nx (nI st') (nI f') kc' lc' rc' → wp_Machine_execute sz sz sz sz (nI nco) (nI s) (nI e) (nI d) (nI (pc + 1)) 1 cons (nI f) fre kc lc rc (wd (o, x, y)) post) ∧
    (∀ post : Int32 → Int32 → Int32 → Int32 → Int32 → Int32 → (Nat → Int32) → (Nat → Int32) → (Nat → Int32) → (Nat → Int32) → Prop, post (nI st') (nI (sz - f')) (nI pc') (nI (π' s')) (nI (π' e')) (nI (π' d')) km' lm' rm' tk' → wp_Model_step (nI sz) (nI (sz - f)) (nI pc) (nI (π s)) (nI (π e)) (nI (π d)) cn km lm rm tk (nI o) (nI x) (nI y) post)
theorem used_up {sz f : Nat} (h : f + 1 ≤ sz) : nI (sz - (f + 1)) + 1 = nI (sz - f) := by
  rw [nI_1, show sz - (f + 1) + 1 = sz - f by omega]
/-- a value is put before a rest of S -/
theorem PUSH {ρ : Nat → Prop} {h q kk v r pc2 : Nat} {js : List Nat} {fn : Bool} (H : HP sz (f + 1) fre kc lc rc tk km lm rm π G) (Uv : US sz (f + 1) fre v) (Ur : US sz (f + 1) fre r) (sh : SH (US sz (f + 1) fre) kc rc r h) (g : GOOD cd n nco pc2 (h + 1) q js fn false) (eh : EH (US sz (f + 1) fre) ρ kc rc e q) (dd : DD cd n nco (US sz (f + 1) fre) ρ kc lc rc kk d js fn) (ph : PH (US sz (f + 1) fre) kc lc rc) (pv : PL kc lc rc v) (pr : PL kc lc rc r) (Ue : US sz (f + 1) fre e) (pe : PL kc lc rc e) :
    ∃ (c : Nat) (kc1 lc1 rc1 tk1 km1 lm1 rm1 : Nat → Int32) (π1 : Nat → Nat), HP sz f fre kc1 lc1 rc1 tk1 km1 lm1 rm1 π1 G ∧ EXT (US sz (f + 1) fre) (US sz f fre) π π1 kc lc rc km lm rm kc1 lc1 rc1 km1 lm1 rm1 ∧ US sz f fre c ∧ TYP cd n nco (US sz f fre) kc1 lc1 rc1 c e d pc2 ∧
      (∀ (post : Int32 → Int32 → (Nat → Int32) → (Nat → Int32) → (Nat → Int32) → Prop), post (nI c) (nI f) kc1 lc1 rc1 → wp_Memory_take sz sz sz sz (nI (f + 1)) fre kc lc rc 2 (nI v) (nI r) post) ∧
      (∀ (us : Int32) (post : Int32 → Int32 → (Nat → Int32) → (Nat → Int32) → (Nat → Int32) → (Nat → Int32) → Prop), post (nI (π1 c)) (us + 1) km1 lm1 rm1 tk1 → wp_Model_make (nI sz) us km lm rm tk 3 (nI (π v)) (nI (π r)) post) := by
  obtain ⟨c, kc1, lc1, rc1, tk1, km1, lm1, rm1, π1, h1, h2, h3, h4, h5, h6, h7, h8, h9⟩ := H.pair Uv Ur
  have st : STAY (US sz (f + 1) fre) (US sz f fre) ρ ρ kc lc rc kc1 lc1 rc1 := STAY.ext h2
  have hr := (H.lt Ur)
  exact ⟨c, kc1, lc1, rc1, tk1, km1, lm1, rm1, π1, h1, h2, h3, ⟨ρ, h + 1, q, js, fn, false, kk, g, ⟨h3, h5, r, by omega, h7, sh.to st⟩, eh.to st, dd.to st, fun z => absurd z (by decide), (PH.pair H h2 h3 h4 h5 h6 h7 Uv Ur ph pv).1, (PH.pair H h2 h3 h4 h5 h6 h7 Uv Ur ph pv).2 pr, PL.ext H h2 Ue pe⟩, h8, h9⟩
/-- the first of S, where it holds one -/
theorem SH.top {h : Nat} (H : HP sz f fre kc lc rc tk km lm rm π G) (Us : US sz f fre s) (sh : SH (US sz f fre) kc rc s (h + 1)) : ∃ t u, US sz f fre t ∧ US sz f fre u ∧ kc s = 2 ∧ lc s = nI t ∧ rc s = nI u ∧ lm (π s) = nI (π t) ∧ rm (π s) = nI (π u) ∧ SH (US sz f fre) kc rc u h ∧ (∀ post : Int32 → Prop, post (nI t) → wp_Memory_headOf sz sz kc lc (nI s) post) ∧ (∀ post : Int32 → Prop, post (nI u) → wp_Memory_tailOf sz sz kc rc (nI s) post) := by
  obtain ⟨z1, z2, b, z3, z4, z5⟩ := sh
  obtain ⟨t, t1, t2, t3, t4⟩ := H.head Us
  obtain ⟨u, u1, u2, u3, u4⟩ := H.tail Us
  have e : u = b := (nI_eq (by have := (H.lt u1); omega) (by omega)).mp ((u2 z2).1.symm.trans z4)
  subst e
  exact ⟨t, u, t1, u1, z2, (t2 z2).1, (u2 z2).1, (t2 z2).2, (u2 z2).2, z5, t4, u4⟩
theorem x_ldc {ρ : Nat → Prop} {h q kk : Nat} {js : List Nat} {fn rap : Bool} (H : HP sz (f + 1) fre kc lc rc tk km lm rm π G) (Us : US sz (f + 1) fre s) (Ue : US sz (f + 1) fre e) (Ud : US sz (f + 1) fre d) (g : STEP cd n nco (GOOD cd n nco) pc h q js fn rap) (hcd : cd pc = (1, x, y)) (hn : n ≤ 512) (sh : SH (US sz (f + 1) fre) kc rc s h) (eh : EH (US sz (f + 1) fre) ρ kc rc e q) (dd : DD cd n nco (US sz (f + 1) fre) ρ kc lc rc kk d js fn) (ph : PH (US sz (f + 1) fre) kc lc rc) (ps : PL kc lc rc s) (pe : PL kc lc rc e) (hcon : nco ≤ 200) (hk : ∀ k, k ≤ nco → ∃ c, US sz (f + 1) fre c ∧ cons k = nI c ∧ cn k = nI (π c)) (hpl : ∀ k c, k ≤ nco → c < 200 → cons k = nI c → PL kc lc rc c) : EXR cd n nco sz (f + 1) fre kc lc rc tk km lm rm cons cn π G s e d pc 1 x y := by
  unfold STEP at g
  rw [hcd] at g
  simp only at g
  obtain ⟨g1, g2, g3, g4, t0, t1, t2, t3, t4, t5, t6, t7, t8, t9, t12, t20⟩ := g
  have lsz := H.2.1
  have lf := H.2.2.1
  obtain ⟨lt1, lt2, lt3⟩ := H.lt Us
  have vs : vp_in (nI (π s)) 200 := vp_in_nI (by omega) (by decide)
  have es : (nI (π s)).toNatClampNeg = π s := nI_clamp (by omega)
  obtain ⟨hx, g'⟩ := t1 trivial
  obtain ⟨cc, c1, c2, c3⟩ := hk x hx
  obtain ⟨top, ta, tb, tc, td⟩ := H.head Us
  obtain ⟨und, ua, ub, uc, ud⟩ := H.tail Us
  obtain ⟨sec, sa, sb, sc, sd⟩ := H.head ua
  obtain ⟨rst, ra, rb, rc', rd⟩ := H.tail ua
  obtain ⟨c, kc1, lc1, rc1, tk1, km1, lm1, rm1, π1, h1, h2, h3, h4, h5, h6⟩ := PUSH H c1 Us sh g' eh dd ph (hpl x cc hx (by have := H.lt c1; omega) c2) ps Ue pe
  refine ⟨1, f, c, e, d, pc + 1, nI (pc + 1), kc1, lc1, rc1, tk1, km1, lm1, rm1, π1, h1, h3, (h2 e Ue).1, (h2 d Ud).1, fun x hx => ⟨(h2 x hx).1, (h2 x hx).2.1, PL.ext H h2 hx⟩, NC.ext H h2 Ud, by omega, by omega, by omega, fun _ => ⟨rfl, h4⟩, fun z => absurd rfl z, fun post hp => td _ (ud _ (sd _ (rd _ (word_op g2 g3 g4 (⟨fun z => absurd z (by decide), fun _ => ⟨fun _ => word_first g2 g3 g4 ?_, fun z => absurd rfl z⟩⟩))))), fun post hp => ⟨vs, vs, ⟨fun z => absurd z (by decide), fun _ => ⟨fun _ => ⟨vp_in_nI (by omega) (by decide), ?_⟩, fun z => absurd rfl z⟩⟩⟩⟩
  · rw [if_neg (nI_nlt hx (by omega)), nI_clamp (n := x) (by omega), c2]
    exact ⟨vp_in_nI (by omega) (by decide), h5 _ hp⟩
  · rw [nI_clamp (n := x) (by omega), c3]
    refine h6 _ _ ?_
    rw [used_up (by omega), nI_1, (h2 e Ue).2.1.symm, (h2 d Ud).2.1.symm]
    exact hp
theorem x_ldf {ρ : Nat → Prop} {h q kk : Nat} {js : List Nat} {fn rap : Bool} (H : HP sz (f + 2) fre kc lc rc tk km lm rm π G) (Us : US sz (f + 2) fre s) (Ue : US sz (f + 2) fre e) (Ud : US sz (f + 2) fre d) (g : STEP cd n nco (GOOD cd n nco) pc h q js fn rap) (hcd : cd pc = (2, x, y)) (hn : n ≤ 512) (sh : SH (US sz (f + 2) fre) kc rc s h) (eh : EH (US sz (f + 2) fre) ρ kc rc e q) (dd : DD cd n nco (US sz (f + 2) fre) ρ kc lc rc kk d js fn) (ph : PH (US sz (f + 2) fre) kc lc rc) (ps : PL kc lc rc s) (pe : PL kc lc rc e) (hG : ∀ a, GOOD cd n nco a 0 0 [] true false → G a) : EXR cd n nco sz (f + 2) fre kc lc rc tk km lm rm cons cn π G s e d pc 2 x y := by
  unfold STEP at g
  rw [hcd] at g
  simp only at g
  obtain ⟨g1, g2, g3, g4, t0, t1, t2, t3, t4, t5, t6, t7, t8, t9, t12, t20⟩ := g
  have lsz := H.2.1
  have lf := H.2.2.1
  obtain ⟨lt1, lt2, lt3⟩ := H.lt Us
  have vs : vp_in (nI (π s)) 200 := vp_in_nI (by omega) (by decide)
  have es : (nI (π s)).toNatClampNeg = π s := nI_clamp (by omega)
  obtain ⟨gb, ga⟩ := t2 trivial
  obtain ⟨top, ta, tb, tc, td⟩ := H.head Us
  obtain ⟨und, ua, ub, uc, ud⟩ := H.tail Us
  obtain ⟨sec, sa, sb, sc, sd⟩ := H.head ua
  obtain ⟨rst, ra, rb, rc', rd⟩ := H.tail ua
  have hgb : pc + 1 < 512 := by have := (GOOD.elim gb).1; omega
  obtain ⟨c, kc1, lc1, rc1, tk1, km1, lm1, rm1, π1, h1, h2, h3, h4, h5, h6, h7, h8, h9⟩ := H.clo hgb (hG _ gb) Ue
  have st : STAY (US sz (f + 2) fre) (US sz (f + 1) fre) ρ ρ kc lc rc kc1 lc1 rc1 := STAY.ext h2
  obtain ⟨c2, kc2, lc2, rc2, tk2, km2, lm2, rm2, π2, i1, i2, i3, i4, i5, i6, i7, i8, i9⟩ := h1.pair h3 (h2 s Us).1
  have st2 : STAY (US sz (f + 1) fre) (US sz f fre) ρ ρ kc1 lc1 rc1 kc2 lc2 rc2 := STAY.ext i2
  have hE := h2.trans i2
  have pc1 := PH.clo H h2 h3 h4 h5 h7 Ue ph pe
  have pc2 := PH.pair h1 i2 i3 i4 i5 i6 i7 h3 (h2 s Us).1 pc1.1 pc1.2
  have pend : PH (US sz f fre) kc2 lc2 rc2 ∧ PL kc2 lc2 rc2 c2 ∧ PL kc2 lc2 rc2 e := ⟨pc2.1, pc2.2 (PL.ext H h2 Us ps), PL.ext H hE Ue pe⟩
  have typ : TYP cd n nco (US sz f fre) kc2 lc2 rc2 c2 e d x := by
    have sh2 : SH (US sz f fre) kc2 rc2 c2 (h + 1) := ⟨i3, i5, s, by omega, i7, (sh.to st).to st2⟩
    rcases ga with ga | ⟨gq, ga⟩
    · exact ⟨ρ, h + 1, q, js, fn, false, kk, ga, sh2, (eh.to st).to st2, (dd.to st).to st2, fun z => absurd z (by decide), pend⟩
    · refine ⟨ρ, h + 1, q, js, fn, true, kk, ga, sh2, (eh.to st).to st2, (dd.to st).to st2, fun _ => ⟨c, by have := (h1.lt h3); omega, i6, (i2 c h3).1, ?_, ?_⟩, pend⟩
      · rw [(i2 c h3).2.2.1, h5]
      · exact ⟨by rw [(i2 c h3).2.2.2.2.1, h7], i5⟩
  refine ⟨1, f, c2, e, d, x, nI x, kc2, lc2, rc2, tk2, km2, lm2, rm2, π2, i1, i3, (hE e Ue).1, (hE d Ud).1, fun x hx => ⟨(hE x hx).1, (hE x hx).2.1, PL.ext H hE hx⟩, NC.ext H hE Ud, by omega, by omega, by omega, fun _ => ⟨rfl, typ⟩, fun z => absurd rfl z, fun post hp => td _ (ud _ (sd _ (rd _ (word_op g2 g3 g4 (⟨fun z => absurd z (by decide), fun _ => ⟨fun z => absurd z (by decide), fun _ => ⟨fun _ => h8 _ (i8 _ (word_first g2 g3 g4 hp)), fun z => absurd rfl z⟩⟩⟩))))), fun post hp => ⟨vs, vs, ⟨fun z => absurd z (by decide), fun _ => ⟨fun z => absurd z (by decide), fun _ => ⟨fun _ => ?_, fun z => absurd rfl z⟩⟩⟩⟩⟩
  rw [nI_1]
  refine h9 _ _ ?_
  rw [used_up (by omega), ← (h2 s Us).2.1]
  refine i9 _ _ ?_
  rw [used_up (by omega), ← (hE e Ue).2.1, ← (hE d Ud).2.1]
  exact hp
theorem x_dum {ρ : Nat → Prop} {h q kk : Nat} {js : List Nat} {fn rap : Bool} (H : HP sz (f + 1) fre kc lc rc tk km lm rm π G) (Us : US sz (f + 1) fre s) (Ue : US sz (f + 1) fre e) (Ud : US sz (f + 1) fre d) (g : STEP cd n nco (GOOD cd n nco) pc h q js fn rap) (hcd : cd pc = (5, x, y)) (hn : n ≤ 512) (sh : SH (US sz (f + 1) fre) kc rc s h) (eh : EH (US sz (f + 1) fre) ρ kc rc e q) (dd : DD cd n nco (US sz (f + 1) fre) ρ kc lc rc kk d js fn) (ph : PH (US sz (f + 1) fre) kc lc rc) (ps : PL kc lc rc s) (pe : PL kc lc rc e) : EXR cd n nco sz (f + 1) fre kc lc rc tk km lm rm cons cn π G s e d pc 5 x y := by
  unfold STEP at g
  rw [hcd] at g
  simp only at g
  obtain ⟨g1, g2, g3, g4, t0, t1, t2, t3, t4, t5, t6, t7, t8, t9, t12, t20⟩ := g
  have lsz := H.2.1
  have lf := H.2.2.1
  obtain ⟨lt1, lt2, lt3⟩ := H.lt Us
  have vs : vp_in (nI (π s)) 200 := vp_in_nI (by omega) (by decide)
  have es : (nI (π s)).toNatClampNeg = π s := nI_clamp (by omega)
  have g' := t5 trivial
  obtain ⟨top, ta, tb, tc, td⟩ := H.head Us
  obtain ⟨und, ua, ub, uc, ud⟩ := H.tail Us
  obtain ⟨sec, sa, sb, sc, sd⟩ := H.head ua
  obtain ⟨rst, ra, rb, rc', rd⟩ := H.tail ua
  have n0 := H.nil (c := 0) (by omega)
  obtain ⟨c, kc1, lc1, rc1, tk1, km1, lm1, rm1, π1, h1, h2, h3, h4, h5, h6, h7, h8, h9⟩ := H.pair n0.1 Ue
  have le := H.lt Ue
  have st : STAY (US sz (f + 1) fre) (US sz f fre) (fun x => ρ x ∧ US sz (f + 1) fre x) (fun x => ρ x ∧ US sz (f + 1) fre x) kc lc rc kc1 lc1 rc1 := STAY.ext h2
  have st0 : STAY (US sz (f + 1) fre) (US sz (f + 1) fre) ρ (fun x => ρ x ∧ US sz (f + 1) fre x) kc lc rc kc lc rc := fun x hx => ⟨hx, ⟨fun z => z.1, fun z => ⟨z, hx⟩⟩, rfl, rfl, fun _ => rfl⟩
  refine ⟨1, f, s, c, d, pc + 1, nI (pc + 1), kc1, lc1, rc1, tk1, km1, lm1, rm1, π1, h1, (h2 s Us).1, h3, (h2 d Ud).1, fun x hx => ⟨(h2 x hx).1, (h2 x hx).2.1, PL.ext H h2 hx⟩, NC.ext H h2 Ud, by omega, by omega, by omega, fun _ => ⟨rfl, fun x => ρ x ∧ US sz (f + 1) fre x, h, q + 1, js, fn, false, kk, g', (sh.to st0).to st, ⟨h3, fun z => h4 z.2, h5, e, by omega, h7, (eh.to st0).to st⟩, (dd.to st0).to st, fun z => absurd z (by decide), (PH.pair H h2 h3 h4 h5 h6 h7 n0.1 Ue ph (PL.atom (Or.inr n0.2.2))).1, PL.ext H h2 Us ps, (PH.pair H h2 h3 h4 h5 h6 h7 n0.1 Ue ph (PL.atom (Or.inr n0.2.2))).2 pe⟩, fun z => absurd rfl z, fun post hp => td _ (ud _ (sd _ (rd _ (word_op g2 g3 g4 (⟨fun z => absurd z (by decide), fun _ => ⟨fun z => absurd z (by decide), fun _ => ⟨fun z => absurd z (by decide), fun _ => ⟨fun z => absurd z (by decide), fun _ => ⟨fun z => absurd z (by decide), fun _ => ⟨fun _ => h8 _ hp, fun z => absurd rfl z⟩⟩⟩⟩⟩⟩))))), fun post hp => ⟨vs, vs, ⟨fun z => absurd z (by decide), fun _ => ⟨fun z => absurd z (by decide), fun _ => ⟨fun z => absurd z (by decide), fun _ => ⟨fun z => absurd z (by decide), fun _ => ⟨fun z => absurd z (by decide), fun _ => ⟨fun z => absurd z (by decide), fun _ => ⟨fun z => absurd z (by decide), fun _ => ⟨fun _ => ⟨fun _ => ?_, fun z => absurd rfl z⟩, fun z => absurd (by decide) z⟩⟩⟩⟩⟩⟩⟩⟩⟩⟩
  have := h9 (nI (sz - (f + 1))) (fun r_13 used_14 km_15 lm_16 rm_17 tk_18 => post (1 : Int32) used_14 (nI pc + (1 : Int32)) (nI (π s)) r_13 (nI (π d)) km_15 lm_16 rm_17 tk_18)
  rw [n0.2.1] at this
  refine this ?_
  rw [used_up (by omega), nI_1, ← (h2 s Us).2.1, ← (h2 d Ud).2.1]
  exact hp
theorem x_sel {ρ : Nat → Prop} {h q kk : Nat} {js : List Nat} {fn rap : Bool} (H : HP sz (f + 1) fre kc lc rc tk km lm rm π G) (Us : US sz (f + 1) fre s) (Ue : US sz (f + 1) fre e) (Ud : US sz (f + 1) fre d) (g : STEP cd n nco (GOOD cd n nco) pc h q js fn rap) (hcd : cd pc = (7, x, y)) (hn : n ≤ 512) (sh : SH (US sz (f + 1) fre) kc rc s h) (eh : EH (US sz (f + 1) fre) ρ kc rc e q) (dd : DD cd n nco (US sz (f + 1) fre) ρ kc lc rc kk d js fn) (ph : PH (US sz (f + 1) fre) kc lc rc) (ps : PL kc lc rc s) (pe : PL kc lc rc e) : EXR cd n nco sz (f + 1) fre kc lc rc tk km lm rm cons cn π G s e d pc 7 x y := by
  unfold STEP at g
  rw [hcd] at g
  simp only at g
  obtain ⟨g1, g2, g3, g4, t0, t1, t2, t3, t4, t5, t6, t7, t8, t9, t12, t20⟩ := g
  have lsz := H.2.1
  have lf := H.2.2.1
  obtain ⟨lt1, lt2, lt3⟩ := H.lt Us
  have vs : vp_in (nI (π s)) 200 := vp_in_nI (by omega) (by decide)
  have es : (nI (π s)).toNatClampNeg = π s := nI_clamp (by omega)
  obtain ⟨hh, ga, gb⟩ := t7 trivial
  obtain ⟨h0, rfl⟩ : ∃ h0, h = h0 + 1 := ⟨h - 1, by omega⟩
  obtain ⟨top, und, ta, ua, ks, tb, ub, tm, um, shu, td, ud⟩ := SH.top H Us sh
  obtain ⟨sec, sa, sb, sc, sd⟩ := H.head ua
  obtain ⟨rst, ra, rb, rc', rd⟩ := H.tail ua
  obtain ⟨c, kc1, lc1, rc1, tk1, km1, lm1, rm1, π1, h1, h2, h3, h4, h5, h6, h7, h8, h9⟩ := H.mark g4 Ud
  have st : STAY (US sz (f + 1) fre) (US sz f fre) ρ ρ kc lc rc kc1 lc1 rc1 := STAY.ext h2
  have ld := H.lt Ud
  have lu := H.lt ua
  have ltp := H.lt ta
  have n1 := H.nil (c := 1) (by omega)
  have dd2 : DD cd n nco (US sz f fre) ρ kc1 lc1 rc1 (kk + 1) c (y :: js) fn := ⟨h3, h5, h6, d, by omega, h7, dd.to st⟩
  have typ : ∀ p, GOOD cd n nco p (h0 + 1 - 1) q (y :: js) fn false → TYP cd n nco (US sz f fre) kc1 lc1 rc1 und e c p := fun p hp => ⟨ρ, h0, q, y :: js, fn, false, kk + 1, hp, shu.to st, eh.to st, dd2, fun z => absurd z (by decide), PH.oth H h2 h3 h4 (Or.inr h5) ph, PL.ext H h2 ua (ps.r lsz ua ks ub), PL.ext H h2 Ue pe⟩
  by_cases ht : top = 1
  · subst ht
    refine ⟨1, f, und, e, c, pc + 1, nI (pc + 1), kc1, lc1, rc1, tk1, km1, lm1, rm1, π1, h1, (h2 und ua).1, (h2 e Ue).1, h3, fun x hx => ⟨(h2 x hx).1, (h2 x hx).2.1, PL.ext H h2 hx⟩, fun z => NC.one (Or.inr h5) h7 (by omega) (NC.ext H h2 Ud z), by omega, by omega, by omega, fun _ => ⟨rfl, typ _ ga⟩, fun z => absurd rfl z, fun post hp => td _ (ud _ (sd _ (rd _ (word_op g2 g3 g4 (⟨fun z => absurd z (by decide), fun _ => ⟨fun z => absurd z (by decide), fun _ => ⟨fun z => absurd z (by decide), fun _ => ⟨fun z => absurd z (by decide), fun _ => ⟨fun z => absurd z (by decide), fun _ => ⟨fun z => absurd z (by decide), fun _ => ⟨fun z => absurd z (by decide), fun _ => ⟨fun _ => word_second g2 g3 g4 (h8 _ ⟨fun _ => hp, fun z => absurd rfl z⟩), fun z => absurd rfl z⟩⟩⟩⟩⟩⟩⟩⟩))))), fun post hp => ⟨vs, vs, ⟨fun z => absurd z (by decide), fun _ => ⟨fun z => absurd z (by decide), fun _ => ⟨fun z => absurd z (by decide), fun _ => ⟨fun z => absurd z (by decide), fun _ => ⟨fun z => absurd z (by decide), fun _ => ⟨fun z => absurd z (by decide), fun _ => ⟨fun z => absurd z (by decide), fun _ => ⟨fun _ => ⟨fun z => absurd z (by decide), fun _ => ⟨fun z => absurd z (by decide), fun _ => ⟨vs, vs, fun _ => ?_, fun z => absurd rfl z⟩⟩⟩, fun z => absurd (by decide) z⟩⟩⟩⟩⟩⟩⟩⟩⟩⟩
    rw [es, tm, um, n1.2.1]
    refine h9 _ _ ⟨fun _ => ?_, fun z => absurd rfl z⟩
    rw [used_up (by omega), nI_1, ← (h2 und ua).2.1, ← (h2 e Ue).2.1]
    exact hp
  · refine ⟨1, f, und, e, c, x, nI x, kc1, lc1, rc1, tk1, km1, lm1, rm1, π1, h1, (h2 und ua).1, (h2 e Ue).1, h3, fun x hx => ⟨(h2 x hx).1, (h2 x hx).2.1, PL.ext H h2 hx⟩, fun z => NC.one (Or.inr h5) h7 (by omega) (NC.ext H h2 Ud z), by omega, by omega, by omega, fun _ => ⟨rfl, typ _ gb⟩, fun z => absurd rfl z, fun post hp => td _ (ud _ (sd _ (rd _ (word_op g2 g3 g4 (⟨fun z => absurd z (by decide), fun _ => ⟨fun z => absurd z (by decide), fun _ => ⟨fun z => absurd z (by decide), fun _ => ⟨fun z => absurd z (by decide), fun _ => ⟨fun z => absurd z (by decide), fun _ => ⟨fun z => absurd z (by decide), fun _ => ⟨fun z => absurd z (by decide), fun _ => ⟨fun _ => word_second g2 g3 g4 (h8 _ ⟨fun z => absurd ((nI_eq (b := 1) (by omega) (by decide)).mp z) ht, fun _ => word_first g2 g3 g4 hp⟩), fun z => absurd rfl z⟩⟩⟩⟩⟩⟩⟩⟩))))), fun post hp => ⟨vs, vs, ⟨fun z => absurd z (by decide), fun _ => ⟨fun z => absurd z (by decide), fun _ => ⟨fun z => absurd z (by decide), fun _ => ⟨fun z => absurd z (by decide), fun _ => ⟨fun z => absurd z (by decide), fun _ => ⟨fun z => absurd z (by decide), fun _ => ⟨fun z => absurd z (by decide), fun _ => ⟨fun _ => ⟨fun z => absurd z (by decide), fun _ => ⟨fun z => absurd z (by decide), fun _ => ⟨vs, vs, fun _ => ?_, fun z => absurd rfl z⟩⟩⟩, fun z => absurd (by decide) z⟩⟩⟩⟩⟩⟩⟩⟩⟩⟩
    rw [es, tm, um]
    refine h9 _ _ ⟨fun z => absurd ((nI_eq (b := 1) (by omega) (by decide)).mp z) (fun z2 => ht (H.inj ta n1.1 (z2.trans n1.2.1.symm))), fun _ => ?_⟩
    rw [used_up (by omega), ← (h2 und ua).2.1, ← (h2 e Ue).2.1]
    exact hp
theorem x_join {ρ : Nat → Prop} {h q kk : Nat} {js : List Nat} {fn rap : Bool} (H : HP sz f fre kc lc rc tk km lm rm π G) (Us : US sz f fre s) (Ue : US sz f fre e) (Ud : US sz f fre d) (g : STEP cd n nco (GOOD cd n nco) pc h q js fn rap) (hcd : cd pc = (8, x, y)) (hn : n ≤ 512) (sh : SH (US sz f fre) kc rc s h) (eh : EH (US sz f fre) ρ kc rc e q) (dd : DD cd n nco (US sz f fre) ρ kc lc rc kk d js fn) (ph : PH (US sz f fre) kc lc rc) (ps : PL kc lc rc s) (pe : PL kc lc rc e) : EXR cd n nco sz f fre kc lc rc tk km lm rm cons cn π G s e d pc 8 x y := by
  unfold STEP at g
  rw [hcd] at g
  simp only at g
  obtain ⟨g1, g2, g3, g4, t0, t1, t2, t3, t4, t5, t6, t7, t8, t9, t12, t20⟩ := g
  have lsz := H.2.1
  have lf := H.2.2.1
  obtain ⟨lt1, lt2, lt3⟩ := H.lt Us
  have vs : vp_in (nI (π s)) 200 := vp_in_nI (by omega) (by decide)
  have es : (nI (π s)).toNatClampNeg = π s := nI_clamp (by omega)
  obtain ⟨z, js', ej, g'⟩ := t8 trivial
  subst ej
  obtain ⟨top, ta, tb, tc, td⟩ := H.head Us
  obtain ⟨und, ua, ub, uc, ud⟩ := H.tail Us
  obtain ⟨sec, sa, sb, sc, sd⟩ := H.head ua
  obtain ⟨rst, ra, rb, rc', rd⟩ := H.tail ua
  cases kk with
  | zero => exact (dd : False).elim
  | succ kk =>
    obtain ⟨d1, d2, d3, b, d4, d5, d6⟩ := dd
    obtain ⟨mk, a', b', p1, p2, p3, p4, p5, p6⟩ := H.mk Ud d2
    have lb := H.lt p6
    have eb : b' = b := (nI_eq (by omega) (by omega)).mp (p4.symm.trans d5)
    have zl : z < 512 := by have := (GOOD.elim g').1; omega
    have ea : a' = z := (nI_eq (by omega) (by omega)).mp (p2.symm.trans d3)
    subst eb ea
    obtain ⟨ld1, ld2, ld3⟩ := H.lt Ud
    have vd : vp_in (nI d) sz := vp_in_nI ld1 (by omega)
    have vd2 : vp_in (nI (π d)) 200 := vp_in_nI (by omega) (by decide)
    have ha : ∀ post : Int32 → Prop, post 1 → wp_Memory_hasAddress sz kc (nI d) post := fun post hp => by
      unfold wp_Memory_hasAddress
      rw [nI_clamp (n := d) (by omega), d2]
      exact ⟨vd, fun _ => hp, fun _ => ⟨vd, fun _ => hp, fun z => absurd rfl z⟩⟩
    refine ⟨1, f, s, e, b', a', nI a', kc, lc, rc, tk, km, lm, rm, π, H, Us, Ue, p6, fun x hx => ⟨hx, rfl, fun z => z⟩, fun z => z.edg ⟨by omega, Or.inr d2, p4⟩, by omega, by omega, by omega, fun _ => ⟨rfl, ρ, h, q, js', fn, false, kk, g', sh, eh, d6, fun z => absurd z (by decide), ph, ps, pe⟩, fun z => absurd rfl z, fun post hp => td _ (ud _ (sd _ (rd _ (word_op g2 g3 g4 (⟨fun z => absurd z (by decide), fun _ => ⟨fun z => absurd z (by decide), fun _ => ⟨fun z => absurd z (by decide), fun _ => ⟨fun z => absurd z (by decide), fun _ => ⟨fun z => absurd z (by decide), fun _ => ⟨fun z => absurd z (by decide), fun _ => ⟨fun z => absurd z (by decide), fun _ => ⟨fun z => absurd z (by decide), fun _ => ⟨fun _ => ha _ ⟨fun z => absurd z (by decide), fun _ => ⟨vd, ha _ ⟨fun z => absurd z (by decide), fun _ => ⟨vd, ?_⟩⟩⟩⟩, fun z => absurd rfl z⟩⟩⟩⟩⟩⟩⟩⟩⟩))))), fun post hp => ⟨vs, vs, ⟨fun z => absurd z (by decide), fun _ => ⟨fun z => absurd z (by decide), fun _ => ⟨fun z => absurd z (by decide), fun _ => ⟨fun z => absurd z (by decide), fun _ => ⟨fun z => absurd z (by decide), fun _ => ⟨fun z => absurd z (by decide), fun _ => ⟨fun z => absurd z (by decide), fun _ => ⟨fun _ => ⟨fun z => absurd z (by decide), fun _ => ⟨fun z => absurd z (by decide), fun _ => ⟨vs, vs, fun z => absurd z (by decide), fun _ => ⟨fun _ => ⟨vd2, vd2, ?_⟩, fun z => absurd rfl z⟩⟩⟩⟩, fun z => absurd (by decide) z⟩⟩⟩⟩⟩⟩⟩⟩⟩⟩
    · rw [nI_clamp (n := d) (by omega), p2, p4]
      exact hp
    · rw [nI_clamp (n := π d) (by omega), p3, p5]
      exact hp
theorem x_stop {ρ : Nat → Prop} {h q kk : Nat} {js : List Nat} {fn rap : Bool} (H : HP sz f fre kc lc rc tk km lm rm π G) (Us : US sz f fre s) (Ue : US sz f fre e) (Ud : US sz f fre d) (g : STEP cd n nco (GOOD cd n nco) pc h q js fn rap) (hcd : cd pc = (20, x, y)) (hn : n ≤ 512) (sh : SH (US sz f fre) kc rc s h) (eh : EH (US sz f fre) ρ kc rc e q) (dd : DD cd n nco (US sz f fre) ρ kc lc rc kk d js fn) (ph : PH (US sz f fre) kc lc rc) (ps : PL kc lc rc s) (pe : PL kc lc rc e) : EXR cd n nco sz f fre kc lc rc tk km lm rm cons cn π G s e d pc 20 x y := by
  unfold STEP at g
  rw [hcd] at g
  simp only at g
  obtain ⟨g1, g2, g3, g4, t0, t1, t2, t3, t4, t5, t6, t7, t8, t9, t12, t20⟩ := g
  have lsz := H.2.1
  have lf := H.2.2.1
  obtain ⟨lt1, lt2, lt3⟩ := H.lt Us
  have vs : vp_in (nI (π s)) 200 := vp_in_nI (by omega) (by decide)
  have es : (nI (π s)).toNatClampNeg = π s := nI_clamp (by omega)
  obtain ⟨top, ta, tb, tc, td⟩ := H.head Us
  obtain ⟨und, ua, ub, uc, ud⟩ := H.tail Us
  obtain ⟨sec, sa, sb, sc, sd⟩ := H.head ua
  obtain ⟨rst, ra, rb, rc', rd⟩ := H.tail ua
  have ks2 : kc s = 2 := by
    obtain ⟨h0, rfl⟩ : ∃ h0, h = h0 + 1 := ⟨h - 1, by have := t20 trivial; omega⟩
    exact sh.2.1
  refine ⟨2, f, s, e, d, pc, nI (pc + 1), kc, lc, rc, tk, km, lm, rm, π, H, Us, Ue, Ud, fun x hx => ⟨hx, rfl, fun z => z⟩, fun z => z, by omega, by omega, by omega, fun z => absurd z (by decide), fun _ => ⟨rfl, ps, fun _ => ks2⟩, fun post hp => td _ (ud _ (sd _ (rd _ (word_op g2 g3 g4 (⟨fun z => absurd z (by decide), fun _ => ⟨fun z => absurd z (by decide), fun _ => ⟨fun z => absurd z (by decide), fun _ => ⟨fun z => absurd z (by decide), fun _ => ⟨fun z => absurd z (by decide), fun _ => ⟨fun z => absurd z (by decide), fun _ => ⟨fun z => absurd z (by decide), fun _ => ⟨fun z => absurd z (by decide), fun _ => ⟨fun z => absurd z (by decide), fun _ => ⟨fun z => absurd z (by decide), fun _ => ⟨fun z => absurd z (by decide), fun _ => ⟨fun z => absurd z (by decide), fun _ => ⟨fun z => absurd z (by decide), fun _ => ⟨fun z => absurd z (by decide), fun _ => ⟨fun z => absurd z (by decide), fun _ => ⟨fun z => absurd z (by decide), fun _ => ⟨fun z => absurd z (by decide), fun _ => ⟨fun z => absurd z (by decide), fun _ => ⟨fun z => absurd z (by decide), fun _ => ⟨fun z => absurd z (by decide), fun _ => ⟨fun _ => hp, fun z => absurd rfl z⟩⟩⟩⟩⟩⟩⟩⟩⟩⟩⟩⟩⟩⟩⟩⟩⟩⟩⟩⟩⟩))))), fun post hp => ⟨vs, vs, ⟨fun z => absurd z (by decide), fun _ => ⟨fun z => absurd z (by decide), fun _ => ⟨fun z => absurd z (by decide), fun _ => ⟨fun z => absurd z (by decide), fun _ => ⟨fun z => absurd z (by decide), fun _ => ⟨fun z => absurd z (by decide), fun _ => ⟨fun z => absurd z (by decide), fun _ => ⟨fun z => absurd z (by decide), fun _ => ⟨fun _ => ⟨fun z => absurd z (by decide), fun _ => ⟨fun _ => hp, fun z => absurd rfl z⟩⟩, fun z => absurd (by decide) z⟩⟩⟩⟩⟩⟩⟩⟩⟩⟩⟩
theorem x_cons {ρ : Nat → Prop} {h q kk : Nat} {js : List Nat} {fn rap : Bool} (H : HP sz (f + 2) fre kc lc rc tk km lm rm π G) (Us : US sz (f + 2) fre s) (Ue : US sz (f + 2) fre e) (Ud : US sz (f + 2) fre d) (g : STEP cd n nco (GOOD cd n nco) pc h q js fn rap) (hcd : cd pc = (12, x, y)) (hn : n ≤ 512) (sh : SH (US sz (f + 2) fre) kc rc s h) (eh : EH (US sz (f + 2) fre) ρ kc rc e q) (dd : DD cd n nco (US sz (f + 2) fre) ρ kc lc rc kk d js fn) (ph : PH (US sz (f + 2) fre) kc lc rc) (ps : PL kc lc rc s) (pe : PL kc lc rc e) : EXR cd n nco sz (f + 2) fre kc lc rc tk km lm rm cons cn π G s e d pc 12 x y := by
  unfold STEP at g
  rw [hcd] at g
  simp only at g
  obtain ⟨g1, g2, g3, g4, t0, t1, t2, t3, t4, t5, t6, t7, t8, t9, t12, t20⟩ := g
  have lsz := H.2.1
  have lf := H.2.2.1
  obtain ⟨lt1, lt2, lt3⟩ := H.lt Us
  have vs : vp_in (nI (π s)) 200 := vp_in_nI (by omega) (by decide)
  have es : (nI (π s)).toNatClampNeg = π s := nI_clamp (by omega)
  obtain ⟨hh, g'⟩ := t12 ⟨by omega, by omega⟩
  obtain ⟨h0, rfl⟩ : ∃ h0, h = h0 + 1 + 1 := ⟨h - 2, by omega⟩
  obtain ⟨top, und, ta, ua, ks, tb, ub, tm, um, shu, td, ud⟩ := SH.top H Us sh
  obtain ⟨sec, rst, sa, ra, ku, sb, rb, sm, rm', shr, sd, rd⟩ := SH.top H ua shu
  obtain ⟨c, kc1, lc1, rc1, tk1, km1, lm1, rm1, π1, h1, h2, h3, h4, h5, h6, h7, h8, h9⟩ := H.pair ta sa
  have st : STAY (US sz (f + 2) fre) (US sz (f + 1) fre) ρ ρ kc lc rc kc1 lc1 rc1 := STAY.ext h2
  obtain ⟨c2, kc2, lc2, rc2, tk2, km2, lm2, rm2, π2, i1, i2, i3, i4, i5, i6⟩ := PUSH h1 h3 (h2 rst ra).1 (shr.to st) g' (eh.to st) (dd.to st) (PH.pair H h2 h3 h4 h5 h6 h7 ta sa ph (ps.l lsz ta ks tb)).1 ((PH.pair H h2 h3 h4 h5 h6 h7 ta sa ph (ps.l lsz ta ks tb)).2 ((ps.r lsz ua ks ub).l lsz sa ku sb)) (PL.ext H h2 ra ((ps.r lsz ua ks ub).r lsz ra ku rb)) (h2 e Ue).1 (PL.ext H h2 Ue pe)
  have hE := h2.trans i2
  have lu := H.lt ua
  have vu : vp_in (nI (π und)) 200 := vp_in_nI (by omega) (by decide)
  refine ⟨1, f, c2, e, d, pc + 1, nI (pc + 1), kc2, lc2, rc2, tk2, km2, lm2, rm2, π2, i1, i3, (hE e Ue).1, (hE d Ud).1, fun x hx => ⟨(hE x hx).1, (hE x hx).2.1, PL.ext H hE hx⟩, NC.ext H hE Ud, by omega, by omega, by omega, fun _ => ⟨rfl, i4⟩, fun z => absurd rfl z, fun post hp => td _ (ud _ (sd _ (rd _ (word_op g2 g3 g4 (⟨fun z => absurd z (by decide), fun _ => ⟨fun z => absurd z (by decide), fun _ => ⟨fun z => absurd z (by decide), fun _ => ⟨fun z => absurd z (by decide), fun _ => ⟨fun z => absurd z (by decide), fun _ => ⟨fun z => absurd z (by decide), fun _ => ⟨fun z => absurd z (by decide), fun _ => ⟨fun z => absurd z (by decide), fun _ => ⟨fun z => absurd z (by decide), fun _ => ⟨fun z => absurd z (by decide), fun _ => ⟨fun z => absurd z (by decide), fun _ => ⟨fun z => absurd z (by decide), fun _ => ⟨fun _ => h8 _ (i5 _ hp), fun z => absurd rfl z⟩⟩⟩⟩⟩⟩⟩⟩⟩⟩⟩⟩⟩))))), fun post hp => ⟨vs, vs, ⟨fun z => absurd z (by decide), fun _ => ⟨fun z => absurd z (by decide), fun _ => ⟨fun z => absurd z (by decide), fun _ => ⟨fun _ => ?_, fun z => absurd rfl z⟩⟩⟩⟩⟩⟩
  rw [es, tm, um, nI_clamp (n := π und) (by omega), sm]
  refine ⟨vu, h9 _ _ ⟨vu, ?_⟩⟩
  rw [used_up (by omega), (h2 und ua).2.2.2.2.2.2.2, rm', ← (h2 rst ra).2.1]
  refine i6 _ _ ?_
  rw [used_up (by omega), nI_1, ← (hE e Ue).2.1, ← (hE d Ud).2.1]
  exact hp
end
/-! one instruction, both: the rest of them -/
section
variable {cd : Nat → Nat × Nat × Nat} {n nco sz f : Nat} {fre kc lc rc tk km lm rm cons cn : Nat → Int32} {π : Nat → Nat} {G : Nat → Prop} {s e d pc x y : Nat}
theorem x_car {ρ : Nat → Prop} {h q kk : Nat} {js : List Nat} {fn rap : Bool} (H : HP sz (f + 1) fre kc lc rc tk km lm rm π G) (Us : US sz (f + 1) fre s) (Ue : US sz (f + 1) fre e) (Ud : US sz (f + 1) fre d) (g : STEP cd n nco (GOOD cd n nco) pc h q js fn rap) (hcd : cd pc = (9, x, y)) (hn : n ≤ 512) (sh : SH (US sz (f + 1) fre) kc rc s h) (eh : EH (US sz (f + 1) fre) ρ kc rc e q) (dd : DD cd n nco (US sz (f + 1) fre) ρ kc lc rc kk d js fn) (ph : PH (US sz (f + 1) fre) kc lc rc) (ps : PL kc lc rc s) (pe : PL kc lc rc e) : EXR cd n nco sz (f + 1) fre kc lc rc tk km lm rm cons cn π G s e d pc 9 x y := by
  unfold STEP at g
  rw [hcd] at g
  simp only at g
  obtain ⟨g1, g2, g3, g4, t0, t1, t2, t3, t4, t5, t6, t7, t8, t9, t12, t20⟩ := g
  have lsz := H.2.1
  have lf := H.2.2.1
  obtain ⟨lt1, lt2, lt3⟩ := H.lt Us
  have vs : vp_in (nI (π s)) 200 := vp_in_nI (by omega) (by decide)
  have es : (nI (π s)).toNatClampNeg = π s := nI_clamp (by omega)
  obtain ⟨hh, g'⟩ := t9 (by decide)
  obtain ⟨h0, rfl⟩ : ∃ h0, h = h0 + 1 := ⟨h - 1, by omega⟩
  obtain ⟨top, und, ta, ua, ks, tb, ub, tm, um, shu, td, ud⟩ := SH.top H Us sh
  obtain ⟨sec, sa, sb, sc, sd⟩ := H.head ua
  obtain ⟨rst, ra, rb, rc', rd⟩ := H.tail ua
  have ltp := H.lt ta
  have vt : vp_in (nI (π top)) 200 := vp_in_nI (by omega) (by decide)
  have et : (nI (π top)).toNatClampNeg = π top := nI_clamp (by omega)
  by_cases hk : kc top = 2
  · obtain ⟨v, v1, v2, v3, v4⟩ := H.head ta
    obtain ⟨c, kc1, lc1, rc1, tk1, km1, lm1, rm1, π1, h1, h2, h3, h4, h5, h6⟩ := PUSH H v1 ua shu g' eh dd ph (PL.h H v1 v2 v3 (ps.l lsz ta ks tb)) (ps.r lsz ua ks ub) Ue pe
    refine ⟨1, f, c, e, d, pc + 1, nI (pc + 1), kc1, lc1, rc1, tk1, km1, lm1, rm1, π1, h1, h3, (h2 e Ue).1, (h2 d Ud).1, fun x hx => ⟨(h2 x hx).1, (h2 x hx).2.1, PL.ext H h2 hx⟩, NC.ext H h2 Ud, by omega, by omega, by omega, fun _ => ⟨rfl, h4⟩, fun z => absurd rfl z, fun post hp => td _ (ud _ (sd _ (rd _ (word_op g2 g3 g4 (⟨fun z => absurd z (by decide), fun _ => ⟨fun z => absurd z (by decide), fun _ => ⟨fun z => absurd z (by decide), fun _ => ⟨fun z => absurd z (by decide), fun _ => ⟨fun z => absurd z (by decide), fun _ => ⟨fun z => absurd z (by decide), fun _ => ⟨fun z => absurd z (by decide), fun _ => ⟨fun z => absurd z (by decide), fun _ => ⟨fun z => absurd z (by decide), fun _ => ⟨fun _ => H.isPair ta (fun _ => ⟨fun z => absurd z (by decide), fun _ => ⟨fun _ => v4 _ (h5 _ hp), fun z => absurd rfl z⟩⟩) (fun z => absurd hk z), fun z => absurd rfl z⟩⟩⟩⟩⟩⟩⟩⟩⟩⟩))))), fun post hp => ⟨vs, vs, ⟨fun z => absurd z (by decide), fun _ => ⟨fun z => absurd z (by decide), fun _ => ⟨fun z => absurd z (by decide), fun _ => ⟨fun z => absurd z (by decide), fun _ => ⟨fun _ => ?_, fun z => absurd rfl z⟩⟩⟩⟩⟩⟩⟩
    rw [es, tm, um]
    refine H.mpair ta (fun _ => ⟨fun z => absurd z (by decide), fun _ => ⟨fun _ => ⟨vt, ?_⟩, fun z => absurd rfl z⟩⟩) (fun z => absurd hk z)
    rw [et, (v2 hk).2]
    refine h6 _ _ ?_
    rw [used_up (by omega), nI_1, ← (h2 e Ue).2.1, ← (h2 d Ud).2.1]
    exact hp
  · refine ⟨6, f + 1, s, e, d, pc, nI (pc + 1), kc, lc, rc, tk, km, lm, rm, π, H, Us, Ue, Ud, fun x hx => ⟨hx, rfl, fun z => z⟩, fun z => z, by omega, by omega, by omega, fun z => absurd z (by decide), fun _ => ⟨rfl, ps, fun z => absurd z (by decide)⟩, fun post hp => td _ (ud _ (sd _ (rd _ (word_op g2 g3 g4 (⟨fun z => absurd z (by decide), fun _ => ⟨fun z => absurd z (by decide), fun _ => ⟨fun z => absurd z (by decide), fun _ => ⟨fun z => absurd z (by decide), fun _ => ⟨fun z => absurd z (by decide), fun _ => ⟨fun z => absurd z (by decide), fun _ => ⟨fun z => absurd z (by decide), fun _ => ⟨fun z => absurd z (by decide), fun _ => ⟨fun z => absurd z (by decide), fun _ => ⟨fun _ => H.isPair ta (fun z => absurd z hk) (fun _ => ⟨fun _ => hp, fun z => absurd rfl z⟩), fun z => absurd rfl z⟩⟩⟩⟩⟩⟩⟩⟩⟩⟩))))), fun post hp => ⟨vs, vs, ⟨fun z => absurd z (by decide), fun _ => ⟨fun z => absurd z (by decide), fun _ => ⟨fun z => absurd z (by decide), fun _ => ⟨fun z => absurd z (by decide), fun _ => ⟨fun _ => ?_, fun z => absurd rfl z⟩⟩⟩⟩⟩⟩⟩
    rw [es, tm, um]
    exact H.mpair ta (fun z => absurd z hk) (fun _ => ⟨fun _ => hp, fun z => absurd rfl z⟩)
theorem x_cdr {ρ : Nat → Prop} {h q kk : Nat} {js : List Nat} {fn rap : Bool} (H : HP sz (f + 1) fre kc lc rc tk km lm rm π G) (Us : US sz (f + 1) fre s) (Ue : US sz (f + 1) fre e) (Ud : US sz (f + 1) fre d) (g : STEP cd n nco (GOOD cd n nco) pc h q js fn rap) (hcd : cd pc = (10, x, y)) (hn : n ≤ 512) (sh : SH (US sz (f + 1) fre) kc rc s h) (eh : EH (US sz (f + 1) fre) ρ kc rc e q) (dd : DD cd n nco (US sz (f + 1) fre) ρ kc lc rc kk d js fn) (ph : PH (US sz (f + 1) fre) kc lc rc) (ps : PL kc lc rc s) (pe : PL kc lc rc e) : EXR cd n nco sz (f + 1) fre kc lc rc tk km lm rm cons cn π G s e d pc 10 x y := by
  unfold STEP at g
  rw [hcd] at g
  simp only at g
  obtain ⟨g1, g2, g3, g4, t0, t1, t2, t3, t4, t5, t6, t7, t8, t9, t12, t20⟩ := g
  have lsz := H.2.1
  have lf := H.2.2.1
  obtain ⟨lt1, lt2, lt3⟩ := H.lt Us
  have vs : vp_in (nI (π s)) 200 := vp_in_nI (by omega) (by decide)
  have es : (nI (π s)).toNatClampNeg = π s := nI_clamp (by omega)
  obtain ⟨hh, g'⟩ := t9 (by decide)
  obtain ⟨h0, rfl⟩ : ∃ h0, h = h0 + 1 := ⟨h - 1, by omega⟩
  obtain ⟨top, und, ta, ua, ks, tb, ub, tm, um, shu, td, ud⟩ := SH.top H Us sh
  obtain ⟨sec, sa, sb, sc, sd⟩ := H.head ua
  obtain ⟨rst, ra, rb, rc', rd⟩ := H.tail ua
  have ltp := H.lt ta
  have vt : vp_in (nI (π top)) 200 := vp_in_nI (by omega) (by decide)
  have et : (nI (π top)).toNatClampNeg = π top := nI_clamp (by omega)
  by_cases hk : kc top = 2
  · obtain ⟨v, v1, v2, v3, v4⟩ := H.tail ta
    obtain ⟨c, kc1, lc1, rc1, tk1, km1, lm1, rm1, π1, h1, h2, h3, h4, h5, h6⟩ := PUSH H v1 ua shu g' eh dd ph (PL.t H v1 v2 v3 (ps.l lsz ta ks tb)) (ps.r lsz ua ks ub) Ue pe
    refine ⟨1, f, c, e, d, pc + 1, nI (pc + 1), kc1, lc1, rc1, tk1, km1, lm1, rm1, π1, h1, h3, (h2 e Ue).1, (h2 d Ud).1, fun x hx => ⟨(h2 x hx).1, (h2 x hx).2.1, PL.ext H h2 hx⟩, NC.ext H h2 Ud, by omega, by omega, by omega, fun _ => ⟨rfl, h4⟩, fun z => absurd rfl z, fun post hp => td _ (ud _ (sd _ (rd _ (word_op g2 g3 g4 (⟨fun z => absurd z (by decide), fun _ => ⟨fun z => absurd z (by decide), fun _ => ⟨fun z => absurd z (by decide), fun _ => ⟨fun z => absurd z (by decide), fun _ => ⟨fun z => absurd z (by decide), fun _ => ⟨fun z => absurd z (by decide), fun _ => ⟨fun z => absurd z (by decide), fun _ => ⟨fun z => absurd z (by decide), fun _ => ⟨fun z => absurd z (by decide), fun _ => ⟨fun z => absurd z (by decide), fun _ => ⟨fun _ => H.isPair ta (fun _ => ⟨fun z => absurd z (by decide), fun _ => ⟨fun z => absurd z (by decide), fun _ => v4 _ (h5 _ hp)⟩⟩) (fun z => absurd hk z), fun z => absurd rfl z⟩⟩⟩⟩⟩⟩⟩⟩⟩⟩⟩))))), fun post hp => ⟨vs, vs, ⟨fun z => absurd z (by decide), fun _ => ⟨fun z => absurd z (by decide), fun _ => ⟨fun z => absurd z (by decide), fun _ => ⟨fun z => absurd z (by decide), fun _ => ⟨fun z => absurd z (by decide), fun _ => ⟨fun _ => ?_, fun z => absurd rfl z⟩⟩⟩⟩⟩⟩⟩⟩
    rw [es, tm, um]
    refine H.mpair ta (fun _ => ⟨fun z => absurd z (by decide), fun _ => ⟨fun z => absurd z (by decide), fun _ => ⟨vt, ?_⟩⟩⟩) (fun z => absurd hk z)
    rw [et, (v2 hk).2]
    refine h6 _ _ ?_
    rw [used_up (by omega), nI_1, ← (h2 e Ue).2.1, ← (h2 d Ud).2.1]
    exact hp
  · refine ⟨6, f + 1, s, e, d, pc, nI (pc + 1), kc, lc, rc, tk, km, lm, rm, π, H, Us, Ue, Ud, fun x hx => ⟨hx, rfl, fun z => z⟩, fun z => z, by omega, by omega, by omega, fun z => absurd z (by decide), fun _ => ⟨rfl, ps, fun z => absurd z (by decide)⟩, fun post hp => td _ (ud _ (sd _ (rd _ (word_op g2 g3 g4 (⟨fun z => absurd z (by decide), fun _ => ⟨fun z => absurd z (by decide), fun _ => ⟨fun z => absurd z (by decide), fun _ => ⟨fun z => absurd z (by decide), fun _ => ⟨fun z => absurd z (by decide), fun _ => ⟨fun z => absurd z (by decide), fun _ => ⟨fun z => absurd z (by decide), fun _ => ⟨fun z => absurd z (by decide), fun _ => ⟨fun z => absurd z (by decide), fun _ => ⟨fun z => absurd z (by decide), fun _ => ⟨fun _ => H.isPair ta (fun z => absurd z hk) (fun _ => ⟨fun _ => hp, fun z => absurd rfl z⟩), fun z => absurd rfl z⟩⟩⟩⟩⟩⟩⟩⟩⟩⟩⟩))))), fun post hp => ⟨vs, vs, ⟨fun z => absurd z (by decide), fun _ => ⟨fun z => absurd z (by decide), fun _ => ⟨fun z => absurd z (by decide), fun _ => ⟨fun z => absurd z (by decide), fun _ => ⟨fun z => absurd z (by decide), fun _ => ⟨fun _ => ?_, fun z => absurd rfl z⟩⟩⟩⟩⟩⟩⟩⟩
    rw [es, tm, um]
    exact H.mpair ta (fun z => absurd z hk) (fun _ => ⟨fun _ => hp, fun z => absurd rfl z⟩)
theorem x_atom {ρ : Nat → Prop} {h q kk : Nat} {js : List Nat} {fn rap : Bool} (H : HP sz (f + 1) fre kc lc rc tk km lm rm π G) (Us : US sz (f + 1) fre s) (Ue : US sz (f + 1) fre e) (Ud : US sz (f + 1) fre d) (g : STEP cd n nco (GOOD cd n nco) pc h q js fn rap) (hcd : cd pc = (11, x, y)) (hn : n ≤ 512) (sh : SH (US sz (f + 1) fre) kc rc s h) (eh : EH (US sz (f + 1) fre) ρ kc rc e q) (dd : DD cd n nco (US sz (f + 1) fre) ρ kc lc rc kk d js fn) (ph : PH (US sz (f + 1) fre) kc lc rc) (ps : PL kc lc rc s) (pe : PL kc lc rc e) : EXR cd n nco sz (f + 1) fre kc lc rc tk km lm rm cons cn π G s e d pc 11 x y := by
  unfold STEP at g
  rw [hcd] at g
  simp only at g
  obtain ⟨g1, g2, g3, g4, t0, t1, t2, t3, t4, t5, t6, t7, t8, t9, t12, t20⟩ := g
  have lsz := H.2.1
  have lf := H.2.2.1
  obtain ⟨lt1, lt2, lt3⟩ := H.lt Us
  have vs : vp_in (nI (π s)) 200 := vp_in_nI (by omega) (by decide)
  have es : (nI (π s)).toNatClampNeg = π s := nI_clamp (by omega)
  obtain ⟨hh, g'⟩ := t9 (by decide)
  obtain ⟨h0, rfl⟩ : ∃ h0, h = h0 + 1 := ⟨h - 1, by omega⟩
  obtain ⟨top, und, ta, ua, ks, tb, ub, tm, um, shu, td, ud⟩ := SH.top H Us sh
  obtain ⟨sec, sa, sb, sc, sd⟩ := H.head ua
  obtain ⟨rst, ra, rb, rc', rd⟩ := H.tail ua
  have ltp := H.lt ta
  have vt : vp_in (nI (π top)) 200 := vp_in_nI (by omega) (by decide)
  have et : (nI (π top)).toNatClampNeg = π top := nI_clamp (by omega)
  obtain ⟨k, k1, k2, k3⟩ := H.kind ta
  by_cases hk : k ≤ 1
  · have n1 := H.nil (c := 1) (by omega)
    obtain ⟨c, kc1, lc1, rc1, tk1, km1, lm1, rm1, π1, h1, h2, h3, h4, h5, h6⟩ := PUSH H n1.1 ua shu g' eh dd ph (PL.atom (Or.inr n1.2.2)) (ps.r lsz ua ks ub) Ue pe
    rw [n1.2.1] at h6
    refine ⟨1, f, c, e, d, pc + 1, nI (pc + 1), kc1, lc1, rc1, tk1, km1, lm1, rm1, π1, h1, h3, (h2 e Ue).1, (h2 d Ud).1, fun x hx => ⟨(h2 x hx).1, (h2 x hx).2.1, PL.ext H h2 hx⟩, NC.ext H h2 Ud, by omega, by omega, by omega, fun _ => ⟨rfl, h4⟩, fun z => absurd rfl z, fun post hp => td _ (ud _ (sd _ (rd _ (word_op g2 g3 g4 (⟨fun z => absurd z (by decide), fun _ => ⟨fun z => absurd z (by decide), fun _ => ⟨fun z => absurd z (by decide), fun _ => ⟨fun z => absurd z (by decide), fun _ => ⟨fun z => absurd z (by decide), fun _ => ⟨fun z => absurd z (by decide), fun _ => ⟨fun z => absurd z (by decide), fun _ => ⟨fun z => absurd z (by decide), fun _ => ⟨fun z => absurd z (by decide), fun _ => ⟨fun z => absurd z (by decide), fun _ => ⟨fun z => absurd z (by decide), fun _ => ⟨fun _ => H.kindOf ta ⟨fun _ => ⟨fun z => absurd z (by decide), fun _ => h5 _ hp⟩, fun z0 => ⟨fun _ => ⟨fun z => absurd z (by decide), fun _ => h5 _ hp⟩, fun z1 => ?_⟩⟩, fun z => absurd rfl z⟩⟩⟩⟩⟩⟩⟩⟩⟩⟩⟩⟩))))), fun post hp => ⟨vs, vs, ⟨fun z => absurd z (by decide), fun _ => ⟨fun z => absurd z (by decide), fun _ => ⟨fun z => absurd z (by decide), fun _ => ⟨fun z => absurd z (by decide), fun _ => ⟨fun z => absurd z (by decide), fun _ => ⟨fun z => absurd z (by decide), fun _ => ⟨fun _ => ?_, fun z => absurd rfl z⟩⟩⟩⟩⟩⟩⟩⟩⟩
    · rw [k2] at z0 z1
      rcases (show k = 0 ∨ k = 1 by omega) with rfl | rfl
      · exact absurd rfl z0
      · exact absurd rfl z1
    · rw [es, tm, um, et, k3]
      refine ⟨vt, fun z => absurd z (nI_nlt (a := 2) (by omega) (by decide)), fun _ => h6 _ _ ?_⟩
      rw [used_up (by omega), nI_1, ← (h2 e Ue).2.1, ← (h2 d Ud).2.1]
      exact hp
  · have n2 := H.nil (c := 2) (by omega)
    obtain ⟨c, kc1, lc1, rc1, tk1, km1, lm1, rm1, π1, h1, h2, h3, h4, h5, h6⟩ := PUSH H n2.1 ua shu g' eh dd ph (PL.atom (Or.inr n2.2.2)) (ps.r lsz ua ks ub) Ue pe
    rw [n2.2.1] at h6
    have m0 : ¬ kc top = 0 := fun z => hk (by have := (nI_eq (b := 0) (by omega) (by decide)).mp (k2.symm.trans z); omega)
    have m1 : ¬ kc top = 1 := fun z => hk (by have := (nI_eq (b := 1) (by omega) (by decide)).mp (k2.symm.trans z); omega)
    refine ⟨1, f, c, e, d, pc + 1, nI (pc + 1), kc1, lc1, rc1, tk1, km1, lm1, rm1, π1, h1, h3, (h2 e Ue).1, (h2 d Ud).1, fun x hx => ⟨(h2 x hx).1, (h2 x hx).2.1, PL.ext H h2 hx⟩, NC.ext H h2 Ud, by omega, by omega, by omega, fun _ => ⟨rfl, h4⟩, fun z => absurd rfl z, fun post hp => td _ (ud _ (sd _ (rd _ (word_op g2 g3 g4 (⟨fun z => absurd z (by decide), fun _ => ⟨fun z => absurd z (by decide), fun _ => ⟨fun z => absurd z (by decide), fun _ => ⟨fun z => absurd z (by decide), fun _ => ⟨fun z => absurd z (by decide), fun _ => ⟨fun z => absurd z (by decide), fun _ => ⟨fun z => absurd z (by decide), fun _ => ⟨fun z => absurd z (by decide), fun _ => ⟨fun z => absurd z (by decide), fun _ => ⟨fun z => absurd z (by decide), fun _ => ⟨fun z => absurd z (by decide), fun _ => ⟨fun _ => H.kindOf ta ⟨fun z => absurd z m0, fun _ => ⟨fun z => absurd z m1, fun _ => ⟨fun _ => h5 _ hp, fun z => absurd rfl z⟩⟩⟩, fun z => absurd rfl z⟩⟩⟩⟩⟩⟩⟩⟩⟩⟩⟩⟩))))), fun post hp => ⟨vs, vs, ⟨fun z => absurd z (by decide), fun _ => ⟨fun z => absurd z (by decide), fun _ => ⟨fun z => absurd z (by decide), fun _ => ⟨fun z => absurd z (by decide), fun _ => ⟨fun z => absurd z (by decide), fun _ => ⟨fun z => absurd z (by decide), fun _ => ⟨fun _ => ?_, fun z => absurd rfl z⟩⟩⟩⟩⟩⟩⟩⟩⟩
    rw [es, tm, um, et, k3]
    refine ⟨vt, fun _ => h6 _ _ ?_, fun z => absurd (nI_lt (a := 2) (by omega) (by omega)) z⟩
    rw [used_up (by omega), nI_1, ← (h2 e Ue).2.1, ← (h2 d Ud).2.1]
    exact hp
theorem x_eq {ρ : Nat → Prop} {h q kk : Nat} {js : List Nat} {fn rap : Bool} (H : HP sz (f + 1) fre kc lc rc tk km lm rm π G) (Us : US sz (f + 1) fre s) (Ue : US sz (f + 1) fre e) (Ud : US sz (f + 1) fre d) (g : STEP cd n nco (GOOD cd n nco) pc h q js fn rap) (hcd : cd pc = (13, x, y)) (hn : n ≤ 512) (sh : SH (US sz (f + 1) fre) kc rc s h) (eh : EH (US sz (f + 1) fre) ρ kc rc e q) (dd : DD cd n nco (US sz (f + 1) fre) ρ kc lc rc kk d js fn) (ph : PH (US sz (f + 1) fre) kc lc rc) (ps : PL kc lc rc s) (pe : PL kc lc rc e) : EXR cd n nco sz (f + 1) fre kc lc rc tk km lm rm cons cn π G s e d pc 13 x y := by
  unfold STEP at g
  rw [hcd] at g
  simp only at g
  obtain ⟨g1, g2, g3, g4, t0, t1, t2, t3, t4, t5, t6, t7, t8, t9, t12, t20⟩ := g
  have lsz := H.2.1
  have lf := H.2.2.1
  obtain ⟨lt1, lt2, lt3⟩ := H.lt Us
  have vs : vp_in (nI (π s)) 200 := vp_in_nI (by omega) (by decide)
  have es : (nI (π s)).toNatClampNeg = π s := nI_clamp (by omega)
  obtain ⟨hh, g'⟩ := t12 (by decide)
  obtain ⟨h0, rfl⟩ : ∃ h0, h = h0 + 1 + 1 := ⟨h - 2, by omega⟩
  obtain ⟨top, und, ta, ua, ks, tb, ub, tm, um, shu, td, ud⟩ := SH.top H Us sh
  obtain ⟨sec, rst, sa, ra, ku, sb, rb, sm, rm', shr, sd, rd⟩ := SH.top H ua shu
  have lu := H.lt ua
  have vu : vp_in (nI (π und)) 200 := vp_in_nI (by omega) (by decide)
  have eu : (nI (π und)).toNatClampNeg = π und := nI_clamp (by omega)
  obtain ⟨k, k1, k2, k3⟩ := H.kind sa
  obtain ⟨l, l1, l2, l3⟩ := H.kind ta
  have n1 := H.nil (c := 1) (by omega)
  have n2 := H.nil (c := 2) (by omega)
  have lsc := H.lt sa
  have ltp := H.lt ta
  have va : vp_in (nI sec) sz := vp_in_nI (by omega) (by omega)
  have vb : vp_in (nI top) sz := vp_in_nI (by omega) (by omega)
  have va2 : vp_in (nI (π sec)) 200 := vp_in_nI (by omega) (by decide)
  have vb2 : vp_in (nI (π top)) 200 := vp_in_nI (by omega) (by decide)
  have ea : (nI sec).toNatClampNeg = sec := nI_clamp (by omega)
  have eb : (nI top).toNatClampNeg = top := nI_clamp (by omega)
  have ea2 : (nI (π sec)).toNatClampNeg = π sec := nI_clamp (by omega)
  have eb2 : (nI (π top)).toNatClampNeg = π top := nI_clamp (by omega)
  have veq : k ≤ 1 → k = l → (lc sec = lc top ↔ lm (π sec) = lm (π top)) := fun hk e => by
    subst e
    rcases (H.2.2.2.2.2.1 sec sa).2.2 with z | z | z | z | z
    · rcases (H.2.2.2.2.2.1 top ta).2.2 with y | y | y | y | y
      · rw [z.2.2, y.2.2]
      · exact absurd (k2.symm.trans z.1) (fun q => by rw [l2.symm.trans y.1] at q; exact absurd q (by decide))
      · exact absurd (k2.symm.trans z.1) (fun q => by rw [l2.symm.trans y.1] at q; exact absurd q (by decide))
      · exact absurd (k2.symm.trans z.1) (fun q => by rw [l2.symm.trans y.1] at q; exact absurd q (by decide))
      · exact absurd (k2.symm.trans z.1) (fun q => by rw [l2.symm.trans y.1] at q; exact absurd q (by decide))
    · rcases (H.2.2.2.2.2.1 top ta).2.2 with y | y | y | y | y
      · exact absurd (k2.symm.trans z.1) (fun q => by rw [l2.symm.trans y.1] at q; exact absurd q (by decide))
      · exact nameR_eq z.2.2 y.2.2
      · exact absurd (k2.symm.trans z.1) (fun q => by rw [l2.symm.trans y.1] at q; exact absurd q (by decide))
      · exact absurd (k2.symm.trans z.1) (fun q => by rw [l2.symm.trans y.1] at q; exact absurd q (by decide))
      · exact absurd (k2.symm.trans z.1) (fun q => by rw [l2.symm.trans y.1] at q; exact absurd q (by decide))
    · exact absurd ((nI_eq (b := 2) (by omega) (by decide)).mp (k2.symm.trans z.1)) (by omega)
    · exact absurd ((nI_eq (b := 3) (by omega) (by decide)).mp (k2.symm.trans z.1)) (by omega)
    · exact absurd ((nI_eq (b := 4) (by omega) (by decide)).mp (k2.symm.trans z.1)) (by omega)
  -- the class: an atom, of one kind, of one value
  have cl0 : ¬ k ≤ 1 → ∀ post : Int32 → Prop, post 0 → wp_Machine_isSameAtom sz sz kc lc (nI sec) (nI top) post := fun hk post hp => by
    unfold wp_Machine_isSameAtom wp_Machine_isAtom
    exact H.kindOf sa ⟨fun z => absurd ((nI_eq (b := 0) (by omega) (by decide)).mp (k2.symm.trans z)) (by omega), fun _ => ⟨fun z => absurd ((nI_eq (b := 1) (by omega) (by decide)).mp (k2.symm.trans z)) (by omega), fun _ => ⟨fun _ => hp, fun z => absurd rfl z⟩⟩⟩
  have cl1 : k ≤ 1 → ∀ post : Int32 → Prop, (k = l → lc sec = lc top → post 1) → (¬ (k = l ∧ lc sec = lc top) → post 0) → wp_Machine_isSameAtom sz sz kc lc (nI sec) (nI top) post := fun hk post hp1 hp0 => by
    have rest : wp_Memory_kindOf sz kc (nI sec) (fun r_3 => wp_Memory_kindOf sz kc (nI top) (fun r_4 => ((r_3 = r_4 → (wp_Memory_valueOf sz lc (nI sec) (fun r_6 => wp_Memory_valueOf sz lc (nI top) (fun r_7 => ((r_6 = r_7 → (post (1 : Int32))) ∧ (¬ r_6 = r_7 → (post (0 : Int32)))))))) ∧ (¬ r_3 = r_4 → (post (0 : Int32)))))) := by
      refine H.kindOf sa (H.kindOf ta ⟨fun z => ?_, fun z => hp0 (fun q => z (by rw [k2, l2, q.1]))⟩)
      have ekl : k = l := (nI_eq (by omega) (by omega)).mp (k2.symm.trans (z.trans l2))
      unfold wp_Memory_valueOf
      rw [ea, eb]
      exact ⟨va, vb, fun z2 => hp1 ekl z2, fun z2 => hp0 (fun q => z2 q.2)⟩
    unfold wp_Machine_isSameAtom wp_Machine_isAtom
    exact H.kindOf sa ⟨fun _ => ⟨fun z => absurd z (by decide), fun _ => rest⟩, fun z0 => ⟨fun _ => ⟨fun z => absurd z (by decide), fun _ => rest⟩, fun z1 => by
      rw [k2] at z0 z1
      rcases (show k = 0 ∨ k = 1 by omega) with rfl | rfl
      · exact absurd rfl z0
      · exact absurd rfl z1⟩⟩
  by_cases hk : k ≤ 1
  · by_cases hq : k = l ∧ lc sec = lc top
    · obtain ⟨c, kc1, lc1, rc1, tk1, km1, lm1, rm1, π1, h1, h2, h3, h4, h5, h6⟩ := PUSH H n1.1 ra shr g' eh dd ph (PL.atom (Or.inr n1.2.2)) ((ps.r lsz ua ks ub).r lsz ra ku rb) Ue pe
      rw [n1.2.1] at h6
      refine ⟨1, f, c, e, d, pc + 1, nI (pc + 1), kc1, lc1, rc1, tk1, km1, lm1, rm1, π1, h1, h3, (h2 e Ue).1, (h2 d Ud).1, fun x hx => ⟨(h2 x hx).1, (h2 x hx).2.1, PL.ext H h2 hx⟩, NC.ext H h2 Ud, by omega, by omega, by omega, fun _ => ⟨rfl, h4⟩, fun z => absurd rfl z, fun post hp => td _ (ud _ (sd _ (rd _ (word_op g2 g3 g4 (⟨fun z => absurd z (by decide), fun _ => ⟨fun z => absurd z (by decide), fun _ => ⟨fun z => absurd z (by decide), fun _ => ⟨fun z => absurd z (by decide), fun _ => ⟨fun z => absurd z (by decide), fun _ => ⟨fun z => absurd z (by decide), fun _ => ⟨fun z => absurd z (by decide), fun _ => ⟨fun z => absurd z (by decide), fun _ => ⟨fun z => absurd z (by decide), fun _ => ⟨fun z => absurd z (by decide), fun _ => ⟨fun z => absurd z (by decide), fun _ => ⟨fun z => absurd z (by decide), fun _ => ⟨fun z => absurd z (by decide), fun _ => ⟨fun _ => cl1 hk _ (fun _ _ => ⟨fun z => absurd z (by decide), fun _ => h5 _ hp⟩) (fun z => absurd hq z), fun z => absurd rfl z⟩⟩⟩⟩⟩⟩⟩⟩⟩⟩⟩⟩⟩⟩))))), fun post hp => ⟨vs, vs, ⟨fun z => absurd z (by decide), fun _ => ⟨fun z => absurd z (by decide), fun _ => ⟨fun z => absurd z (by decide), fun _ => ⟨fun z => absurd z (by decide), fun _ => ⟨fun z => absurd z (by decide), fun _ => ⟨fun z => absurd z (by decide), fun _ => ⟨fun z => absurd z (by decide), fun _ => ⟨fun z => absurd z (by decide), fun _ => ⟨fun z => absurd z (by decide), fun _ => ?_⟩⟩⟩⟩⟩⟩⟩⟩⟩⟩⟩
      rw [es, um, eu, sm, tm, rm']
      refine ⟨vu, vu, ?_⟩
      unfold wp_Model_reckon
      rw [ea2, eb2, k3, l3]
      refine ⟨fun _ => ⟨va2, fun z => absurd z (nI_nlt (a := 2) (by omega) (by decide)), fun _ => ⟨va2, vb2, fun _ => ⟨va2, vb2, fun _ => ⟨fun z => absurd z (by decide), fun _ => h6 _ _ ?_⟩, fun z => absurd ((veq hk hq.1).mp hq.2) z⟩, fun z => absurd (by rw [hq.1]) z⟩⟩, fun z => absurd rfl z⟩
      rw [used_up (by omega), nI_1, ← (h2 e Ue).2.1, ← (h2 d Ud).2.1]
      exact hp
    · obtain ⟨c, kc1, lc1, rc1, tk1, km1, lm1, rm1, π1, h1, h2, h3, h4, h5, h6⟩ := PUSH H n2.1 ra shr g' eh dd ph (PL.atom (Or.inr n2.2.2)) ((ps.r lsz ua ks ub).r lsz ra ku rb) Ue pe
      rw [n2.2.1] at h6
      refine ⟨1, f, c, e, d, pc + 1, nI (pc + 1), kc1, lc1, rc1, tk1, km1, lm1, rm1, π1, h1, h3, (h2 e Ue).1, (h2 d Ud).1, fun x hx => ⟨(h2 x hx).1, (h2 x hx).2.1, PL.ext H h2 hx⟩, NC.ext H h2 Ud, by omega, by omega, by omega, fun _ => ⟨rfl, h4⟩, fun z => absurd rfl z, fun post hp => td _ (ud _ (sd _ (rd _ (word_op g2 g3 g4 (⟨fun z => absurd z (by decide), fun _ => ⟨fun z => absurd z (by decide), fun _ => ⟨fun z => absurd z (by decide), fun _ => ⟨fun z => absurd z (by decide), fun _ => ⟨fun z => absurd z (by decide), fun _ => ⟨fun z => absurd z (by decide), fun _ => ⟨fun z => absurd z (by decide), fun _ => ⟨fun z => absurd z (by decide), fun _ => ⟨fun z => absurd z (by decide), fun _ => ⟨fun z => absurd z (by decide), fun _ => ⟨fun z => absurd z (by decide), fun _ => ⟨fun z => absurd z (by decide), fun _ => ⟨fun z => absurd z (by decide), fun _ => ⟨fun _ => cl1 hk _ (fun z1 z2 => absurd ⟨z1, z2⟩ hq) (fun _ => ⟨fun _ => h5 _ hp, fun z => absurd rfl z⟩), fun z => absurd rfl z⟩⟩⟩⟩⟩⟩⟩⟩⟩⟩⟩⟩⟩⟩))))), fun post hp => ⟨vs, vs, ⟨fun z => absurd z (by decide), fun _ => ⟨fun z => absurd z (by decide), fun _ => ⟨fun z => absurd z (by decide), fun _ => ⟨fun z => absurd z (by decide), fun _ => ⟨fun z => absurd z (by decide), fun _ => ⟨fun z => absurd z (by decide), fun _ => ⟨fun z => absurd z (by decide), fun _ => ⟨fun z => absurd z (by decide), fun _ => ⟨fun z => absurd z (by decide), fun _ => ?_⟩⟩⟩⟩⟩⟩⟩⟩⟩⟩⟩
      rw [es, um, eu, sm, tm, rm']
      refine ⟨vu, vu, ?_⟩
      unfold wp_Model_reckon
      rw [ea2, eb2, k3, l3]
      have lst : ∀ us, us = nI (sz - (f + 1)) → wp_Model_push (nI sz) us (nI pc) (nI (π s)) km lm rm tk (2 : Int32) (nI (π rst)) (fun used_151 i_pc_152 i_s_153 km_154 lm_155 rm_156 tk_157 => post (1 : Int32) used_151 i_pc_152 i_s_153 (nI (π e)) (nI (π d)) km_154 lm_155 rm_156 tk_157) := fun us hu => by
        subst hu
        refine h6 _ _ ?_
        rw [used_up (by omega), nI_1, ← (h2 e Ue).2.1, ← (h2 d Ud).2.1]
        exact hp
      refine ⟨fun _ => ⟨va2, fun z => absurd z (nI_nlt (a := 2) (by omega) (by decide)), fun _ => ⟨va2, vb2, fun z1 => ⟨va2, vb2, fun z2 => absurd ⟨by have := (nI_eq (by omega) (by omega)).mp z1; omega, ?_⟩ hq, fun _ => ⟨fun _ => lst _ rfl, fun z => absurd rfl z⟩⟩, fun _ => ⟨fun _ => lst _ rfl, fun z => absurd rfl z⟩⟩⟩, fun z => absurd rfl z⟩
      exact (veq hk (by have := (nI_eq (by omega) (by omega)).mp z1; omega)).mpr z2
  · obtain ⟨c, kc1, lc1, rc1, tk1, km1, lm1, rm1, π1, h1, h2, h3, h4, h5, h6⟩ := PUSH H n2.1 ra shr g' eh dd ph (PL.atom (Or.inr n2.2.2)) ((ps.r lsz ua ks ub).r lsz ra ku rb) Ue pe
    rw [n2.2.1] at h6
    refine ⟨1, f, c, e, d, pc + 1, nI (pc + 1), kc1, lc1, rc1, tk1, km1, lm1, rm1, π1, h1, h3, (h2 e Ue).1, (h2 d Ud).1, fun x hx => ⟨(h2 x hx).1, (h2 x hx).2.1, PL.ext H h2 hx⟩, NC.ext H h2 Ud, by omega, by omega, by omega, fun _ => ⟨rfl, h4⟩, fun z => absurd rfl z, fun post hp => td _ (ud _ (sd _ (rd _ (word_op g2 g3 g4 (⟨fun z => absurd z (by decide), fun _ => ⟨fun z => absurd z (by decide), fun _ => ⟨fun z => absurd z (by decide), fun _ => ⟨fun z => absurd z (by decide), fun _ => ⟨fun z => absurd z (by decide), fun _ => ⟨fun z => absurd z (by decide), fun _ => ⟨fun z => absurd z (by decide), fun _ => ⟨fun z => absurd z (by decide), fun _ => ⟨fun z => absurd z (by decide), fun _ => ⟨fun z => absurd z (by decide), fun _ => ⟨fun z => absurd z (by decide), fun _ => ⟨fun z => absurd z (by decide), fun _ => ⟨fun z => absurd z (by decide), fun _ => ⟨fun _ => cl0 hk _ ⟨fun _ => h5 _ hp, fun z => absurd rfl z⟩, fun z => absurd rfl z⟩⟩⟩⟩⟩⟩⟩⟩⟩⟩⟩⟩⟩⟩))))), fun post hp => ⟨vs, vs, ⟨fun z => absurd z (by decide), fun _ => ⟨fun z => absurd z (by decide), fun _ => ⟨fun z => absurd z (by decide), fun _ => ⟨fun z => absurd z (by decide), fun _ => ⟨fun z => absurd z (by decide), fun _ => ⟨fun z => absurd z (by decide), fun _ => ⟨fun z => absurd z (by decide), fun _ => ⟨fun z => absurd z (by decide), fun _ => ⟨fun z => absurd z (by decide), fun _ => ?_⟩⟩⟩⟩⟩⟩⟩⟩⟩⟩⟩
    rw [es, um, eu, sm, tm, rm']
    refine ⟨vu, vu, ?_⟩
    unfold wp_Model_reckon
    rw [ea2, eb2, k3, l3]
    refine ⟨fun _ => ⟨va2, fun _ => ⟨fun _ => h6 _ _ ?_, fun z => absurd rfl z⟩, fun z => absurd (nI_lt (a := 2) (by omega) (by omega)) z⟩, fun z => absurd rfl z⟩
    rw [used_up (by omega), nI_1, ← (h2 e Ue).2.1, ← (h2 d Ud).2.1]
    exact hp
end
