/-! one instruction, both: LD; all of them -/
section
variable {cd : Nat → Nat × Nat × Nat} {n nco sz f : Nat} {fre kc lc rc tk km lm rm cons cn : Nat → Int32} {π : Nat → Nat} {G : Nat → Prop} {s e d pc x y : Nat}
/-- both go r tails on; i and j are what LD says, k the step of the reference that they are at -/
theorem tails_both (H : HP sz f fre kc lc rc tk km lm rm π G) {i j : Nat} (hij : i + j < 2000) : ∀ (r c k : Nat), US sz f fre c → k + r ≤ i + j + 1 → (∀ m, m < r → k + m ≠ i ∧ k + m ≠ i + j + 1) →
    ∃ p, US sz f fre p ∧
      (∀ (K32 : Int32 → Prop) (post : Int32 → Prop) (t tot : Nat), t + r = tot → tot < 2000 → K32 (nI p) → wp_Memory_pairBehind_L5 sz sz kc rc K32 post (r + 1) (nI tot) (nI c) (nI t)) ∧
      ((kc p = 2 ∧ ∀ (ie us pcI sI : Int32) (K78 : Int32 → Int32 → Int32 → Int32 → (Nat → Int32) → (Nat → Int32) → (Nat → Int32) → (Nat → Int32) → Prop) (mp : Int32 → Int32 → Int32 → Int32 → (Nat → Int32) → (Nat → Int32) → (Nat → Int32) → (Nat → Int32) → Prop) (fu : Nat), wp_Model_fetch_L8 (nI sz) ie K78 mp (fu + 1) (nI i) (nI j) (nI (π p)) (nI (k + r)) us pcI sI km lm rm tk → wp_Model_fetch_L8 (nI sz) ie K78 mp (fu + r + 1) (nI i) (nI j) (nI (π c)) (nI k) us pcI sI km lm rm tk) ∨
       (¬ kc p = 2 ∧ ∀ (ie us pcI sI : Int32) (K78 : Int32 → Int32 → Int32 → Int32 → (Nat → Int32) → (Nat → Int32) → (Nat → Int32) → (Nat → Int32) → Prop) (mp : Int32 → Int32 → Int32 → Int32 → (Nat → Int32) → (Nat → Int32) → (Nat → Int32) → (Nat → Int32) → Prop) (fu : Nat), mp 5 us pcI sI km lm rm tk → wp_Model_fetch_L8 (nI sz) ie K78 mp (fu + r + 1) (nI i) (nI j) (nI (π c)) (nI k) us pcI sI km lm rm tk))
  | 0, c, k, Uc, hk, hm => by
    refine ⟨c, Uc, fun K32 post t tot e ht hp => ?_, ?_⟩
    · have : t = tot := e
      subst this
      exact ⟨fun _ => hp, fun z => absurd (Int32.le_refl _) z⟩
    · by_cases hp : kc c = 2
      · exact Or.inl ⟨hp, fun ie us pcI sI K78 mp fu h => h⟩
      · refine Or.inr ⟨hp, fun ie us pcI sI K78 mp fu h => ?_⟩
        have e1 : nI i + nI j + 1 = nI (i + j + 1) := by rw [nI_add, nI_1]
        refine ⟨fun z => ?_, fun _ => H.mpair Uc (fun z => absurd z hp) (fun _ => ⟨fun _ => h, fun z => absurd rfl z⟩)⟩
        rw [e1] at z
        exact absurd z (nI_nlt (by omega) (by omega))
  | r + 1, c, k, Uc, hk, hm => by
    have e1 : nI i + nI j + 1 = nI (i + j + 1) := by rw [nI_add, nI_1]
    have nlt : ¬ nI (i + j + 1) < nI k := nI_nlt (by omega) (by omega)
    obtain ⟨l1, l2, l3⟩ := H.lt Uc
    by_cases hp : kc c = 2
    · obtain ⟨-, a, b, p1, p2, p3, p4, p5, p6⟩ := H.pr Uc hp
      obtain ⟨p, q1, q2, q3⟩ := tails_both H hij r b (k + 1) p6 (by omega) (fun m hm2 => by have := hm (m + 1) (by omega); omega)
      have stepm : ∀ (ie us pcI sI : Int32) (K78 : Int32 → Int32 → Int32 → Int32 → (Nat → Int32) → (Nat → Int32) → (Nat → Int32) → (Nat → Int32) → Prop) (mp : Int32 → Int32 → Int32 → Int32 → (Nat → Int32) → (Nat → Int32) → (Nat → Int32) → (Nat → Int32) → Prop) (fu : Nat), wp_Model_fetch_L8 (nI sz) ie K78 mp fu (nI i) (nI j) (nI (π b)) (nI (k + 1)) us pcI sI km lm rm tk → wp_Model_fetch_L8 (nI sz) ie K78 mp (fu + 1) (nI i) (nI j) (nI (π c)) (nI k) us pcI sI km lm rm tk := fun ie us pcI sI K78 mp fu h => by
        refine ⟨fun z => ?_, fun _ => H.mpair Uc (fun _ => ⟨fun z => absurd z (by decide), fun _ => ⟨fun z => ?_, fun _ => ⟨fun z => ?_, fun _ => ⟨fun _ => ⟨vp_in_nI (by omega) (by decide), ?_⟩, fun z => absurd rfl z⟩⟩⟩⟩) (fun z => absurd hp z)⟩
        · rw [e1] at z; exact absurd z nlt
        · exact absurd ((nI_eq (by omega) (by omega)).mp z) (by have := hm 0 (by omega); omega)
        · rw [e1] at z; exact absurd ((nI_eq (by omega) (by omega)).mp z) (by have := hm 0 (by omega); omega)
        · unfold wp_Model_fetch_J71
          rw [nI_clamp (n := π c) (by omega), p4, nI_1]
          exact h
      refine ⟨p, q1, fun K32 post t tot e ht hk2 => ?_, ?_⟩
      · refine ⟨fun z => absurd z (nI_ge (by omega) (by omega)), fun _ => H.isPair Uc (fun _ => ⟨fun z => absurd z (by decide), fun _ => ⟨vp_in_nI l1 (by omega), ?_⟩⟩) (fun z => absurd hp z)⟩
        rw [nI_clamp (n := c) (by omega), p2, nI_1]
        exact q2 K32 post (t + 1) tot (by omega) ht hk2
      · rcases q3 with ⟨z1, z2⟩ | ⟨z1, z2⟩
        · exact Or.inl ⟨z1, fun ie us pcI sI K78 mp fu h => stepm _ _ _ _ _ _ _ (z2 ie us pcI sI K78 mp fu (by rw [show k + 1 + r = k + (r + 1) by omega]; exact h))⟩
        · exact Or.inr ⟨z1, fun ie us pcI sI K78 mp fu h => stepm _ _ _ _ _ _ _ (z2 ie us pcI sI K78 mp fu h)⟩
    · refine ⟨c, Uc, fun K32 post t tot e ht hk2 => ?_, Or.inr ⟨hp, fun ie us pcI sI K78 mp fu h => ?_⟩⟩
      · exact ⟨fun z => absurd z (nI_ge (by omega) (by omega)), fun _ => H.isPair Uc (fun z => absurd z hp) (fun _ => ⟨fun _ => hk2, fun z => absurd rfl z⟩)⟩
      · refine ⟨fun z => ?_, fun _ => H.mpair Uc (fun z => absurd z hp) (fun _ => ⟨fun _ => h, fun z => absurd rfl z⟩)⟩
        rw [e1] at z
        exact absurd z nlt
theorem x_ld {ρ : Nat → Prop} {h q kk : Nat} {js : List Nat} {fn rap : Bool} (H : HP sz (f + 1) fre kc lc rc tk km lm rm π G) (Us : US sz (f + 1) fre s) (Ue : US sz (f + 1) fre e) (Ud : US sz (f + 1) fre d) (g : STEP cd n nco (GOOD cd n nco) pc h q js fn rap) (hcd : cd pc = (0, x, y)) (hn : n ≤ 512) (sh : SH (US sz (f + 1) fre) kc rc s h) (eh : EH (US sz (f + 1) fre) ρ kc rc e q) (dd : DD cd n nco (US sz (f + 1) fre) ρ kc lc rc kk d js fn) : EXR cd n nco sz (f + 1) fre kc lc rc tk km lm rm cons cn π G s e d pc 0 x y := by
  unfold STEP at g
  rw [hcd] at g
  simp only at g
  obtain ⟨g1, g2, g3, g4, t0, t1, t2, t3, t4, t5, t6, t7, t8, t9, t12, t20⟩ := g
  have lsz := H.2.1
  have lf := H.2.2.1
  obtain ⟨lt1, lt2, lt3⟩ := H.lt Us
  have vs : vp_in (nI (π s)) 200 := vp_in_nI (by omega) (by decide)
  have es : (nI (π s)).toNatClampNeg = π s := nI_clamp (by omega)
  have g' := t0 trivial
  obtain ⟨top, ta, tb, tc, td⟩ := H.head Us
  obtain ⟨und, ua, ub, uc, ud⟩ := H.tail Us
  obtain ⟨sec, sa, sb, sc, sd⟩ := H.head ua
  obtain ⟨rst, ra, rb, rc', rd⟩ := H.tail ua
  have e1 : nI x + nI y + 1 = nI (x + y + 1) := by rw [nI_add, nI_1]
  have pbk : ∀ (c p r : Nat), US sz (f + 1) fre p → r < 2000 → (∀ (K32 : Int32 → Prop) (post : Int32 → Prop) (t tot : Nat), t + r = tot → tot < 2000 → K32 (nI p) → wp_Memory_pairBehind_L5 sz sz kc rc K32 post (r + 1) (nI tot) (nI c) (nI t)) → ∀ P : Int32 → Prop, (kc p = 2 → P (nI p)) → (¬ kc p = 2 → P (-1)) → wp_Memory_pairBehind sz sz kc rc (nI c) (nI r) P := fun c p r Up hr hq P h1 h0 => ⟨r + 1, hq _ _ 0 r (by omega) hr (H.isPair Up (fun z => ⟨fun z2 => absurd z2 (by decide), fun _ => h1 z⟩) (fun z => ⟨fun _ => h0 z, fun z2 => absurd rfl z2⟩))⟩
  obtain ⟨p, p1, p2, p3⟩ := tails_both H (i := x) (j := y) (by omega) x e 0 Ue (by omega) (fun m hm => by omega)
  rcases p3 with ⟨hp2, p3⟩ | ⟨hp2, p3⟩
  · obtain ⟨hd, a1, a2, a3, a4⟩ := H.head p1
    have lp := H.lt p1
    have np : ¬ nI p = -1 := nI_m1 (by omega)
    have vp2 : vp_in (nI (π p)) 200 := vp_in_nI (by omega) (by decide)
    have ep2 : (nI (π p)).toNatClampNeg = π p := nI_clamp (by omega)
    obtain ⟨w, w1, w2, w3⟩ := tails_both H (i := x) (j := y) (by omega) y hd (x + 1) a1 (by omega) (fun m hm => by omega)
    have lw := H.lt w1
    have nw : ¬ nI w = -1 := nI_m1 (by omega)
    have vw2 : vp_in (nI (π w)) 200 := vp_in_nI (by omega) (by decide)
    have ew2 : (nI (π w)).toNatClampNeg = π w := nI_clamp (by omega)
    have mid : ∀ (K78 : Int32 → Int32 → Int32 → Int32 → (Nat → Int32) → (Nat → Int32) → (Nat → Int32) → (Nat → Int32) → Prop) (mp : Int32 → Int32 → Int32 → Int32 → (Nat → Int32) → (Nat → Int32) → (Nat → Int32) → (Nat → Int32) → Prop) (fu : Nat), wp_Model_fetch_L8 (nI sz) (nI (π e)) K78 mp fu (nI x) (nI y) (nI (π hd)) (nI (x + 1)) (nI (sz - (f + 1))) (nI pc) (nI (π s)) km lm rm tk → ∃ fu, wp_Model_fetch_L8 (nI sz) (nI (π e)) K78 mp fu (nI x) (nI y) (nI (π e)) 0 (nI (sz - (f + 1))) (nI pc) (nI (π s)) km lm rm tk := fun K78 mp fu h => by
      refine ⟨fu + x + 1, p3 _ _ _ _ _ _ fu ?_⟩
      rw [Nat.zero_add]
      refine ⟨fun z => ?_, fun _ => H.mpair p1 (fun _ => ⟨fun z => absurd z (by decide), fun _ => ⟨fun _ => ?_, fun z => absurd rfl z⟩⟩) (fun z => absurd hp2 z)⟩
      · rw [e1] at z; exact absurd z (nI_nlt (by omega) (by omega))
      · unfold wp_Model_fetch_J44 wp_Model_fetch_J49 wp_Model_fetch_J71
        rw [ep2, (a2 hp2).2, nI_1]
        exact ⟨fun z => absurd z (by decide), fun _ => ⟨vp2, h⟩⟩
    rcases w3 with ⟨hw2, w3⟩ | ⟨hw2, w3⟩
    · obtain ⟨v, b1, b2, b3, b4⟩ := H.head w1
      obtain ⟨c, kc1, lc1, rc1, tk1, km1, lm1, rm1, π1, h1, h2, h3, h4, h5, h6⟩ := PUSH H b1 Us sh g' eh dd
      refine ⟨1, f, c, e, d, pc + 1, nI (pc + 1), kc1, lc1, rc1, tk1, km1, lm1, rm1, π1, h1, h3, (h2 e Ue).1, (h2 d Ud).1, fun x hx => ⟨(h2 x hx).1, (h2 x hx).2.1⟩, by omega, by omega, by omega, fun _ => ⟨rfl, h4⟩, fun z => absurd rfl z, fun post hp => td _ (ud _ (sd _ (rd _ (word_op g2 g3 g4 (⟨fun _ => word_first g2 g3 g4 (word_second g2 g3 g4 (pbk e p x p1 (by omega) p2 _ (fun _ => ⟨fun z => absurd z np, fun _ => a4 _ (pbk hd w y w1 (by omega) w2 _ (fun _ => ⟨fun z => absurd z nw, fun _ => b4 _ (h5 _ hp)⟩) (fun z => absurd hw2 z))⟩) (fun z => absurd hp2 z))), fun z => absurd rfl z⟩))))), fun post hp => ⟨vs, vs, ⟨fun _ => mid _ _ (0 + 1 + y + 1) (w3 _ _ _ _ _ _ (0 + 1) ?_), fun z => absurd rfl z⟩⟩⟩
      refine ⟨fun z => ?_, fun _ => H.mpair w1 (fun _ => ⟨fun z => absurd z (by decide), fun _ => ⟨fun z => absurd ((nI_eq (by omega) (by omega)).mp z) (by omega), fun _ => ⟨fun _ => ?_, fun z => absurd ?_ z⟩⟩⟩) (fun z => absurd hw2 z)⟩
      · rw [e1] at z; exact absurd z (nI_nlt (by omega) (by omega))
      · unfold wp_Model_fetch_J44 wp_Model_fetch_J49 wp_Model_fetch_J71
        rw [ew2, (b2 hw2).2, nI_1]
        refine ⟨fun z => absurd z (by decide), fun _ => ⟨vw2, fun _ => ?_, fun z => absurd ?_ z⟩⟩
        · refine h6 _ _ ?_
          rw [used_up (by omega), nI_1, ← (h2 e Ue).2.1, ← (h2 d Ud).2.1]
          exact hp
        · rw [e1]; exact nI_lt (by omega) (by omega)
      · rw [e1]; exact congrArg nI (by omega)
    · refine ⟨5, f + 1, s, e, d, pc, nI (pc + 1), kc, lc, rc, tk, km, lm, rm, π, H, Us, Ue, Ud, fun x hx => ⟨hx, rfl⟩, by omega, by omega, by omega, fun z => absurd z (by decide), fun _ => rfl, fun post hp => td _ (ud _ (sd _ (rd _ (word_op g2 g3 g4 (⟨fun _ => word_first g2 g3 g4 (word_second g2 g3 g4 (pbk e p x p1 (by omega) p2 _ (fun _ => ⟨fun z => absurd z np, fun _ => a4 _ (pbk hd w y w1 (by omega) w2 _ (fun z => absurd z hw2) (fun _ => ⟨fun _ => hp, fun z => absurd rfl z⟩))⟩) (fun z => absurd hp2 z))), fun z => absurd rfl z⟩))))), fun post hp => ⟨vs, vs, ⟨fun _ => mid _ _ (0 + y + 1) (w3 _ _ _ _ _ _ 0 hp), fun z => absurd rfl z⟩⟩⟩
  · refine ⟨5, f + 1, s, e, d, pc, nI (pc + 1), kc, lc, rc, tk, km, lm, rm, π, H, Us, Ue, Ud, fun x hx => ⟨hx, rfl⟩, by omega, by omega, by omega, fun z => absurd z (by decide), fun _ => rfl, fun post hp => td _ (ud _ (sd _ (rd _ (word_op g2 g3 g4 (⟨fun _ => word_first g2 g3 g4 (word_second g2 g3 g4 (pbk e p x p1 (by omega) p2 _ (fun z => absurd z hp2) (fun _ => ⟨fun _ => ⟨fun _ => hp, fun z => absurd rfl z⟩, fun z => absurd rfl z⟩))), fun z => absurd rfl z⟩))))), fun post hp => ⟨vs, vs, ⟨fun _ => ⟨0 + x + 1, p3 _ _ _ _ _ _ 0 hp⟩, fun z => absurd rfl z⟩⟩⟩
def takesN : List Nat := [1, 1, 2, 4, 1, 1, 3, 1, 0, 1, 1, 1, 2, 1, 1, 2, 2, 2, 2, 2, 0]
/-- every instruction, where there is room for what it takes -/
theorem exec_both (H : HP sz f fre kc lc rc tk km lm rm π G) (Us : US sz f fre s) (Ue : US sz f fre e) (Ud : US sz f fre d) (T : TYP cd n nco (US sz f fre) kc lc rc s e d pc) (hn : n ≤ 512) (hnco : nco ≤ 200) (hG : ∀ a, G a ↔ GOOD cd n nco a 0 0 [] true false) (hcons : ∀ k, k ≤ nco → ∃ c, US sz f fre c ∧ cons k = nI c ∧ cn k = nI (π c)) (hroom : takesN.getD (cd pc).1 0 ≤ f) : EXR cd n nco sz f fre kc lc rc tk km lm rm cons cn π G s e d pc (cd pc).1 (cd pc).2.1 (cd pc).2.2 := by
  obtain ⟨ρ, h, q, js, fn, rap, kk, g, sh, eh, dd, hr⟩ := T
  have g := g.elim
  have go := g.2.1
  rcases hcd : cd pc with ⟨o, x, y⟩
  rw [hcd] at go hroom
  simp only at go hroom ⊢
  by_cases c0 : o = 0
  · subst c0
    obtain ⟨f0, rfl⟩ : ∃ f0, f = f0 + 1 := ⟨f - 1, by have : 1 ≤ f := hroom; omega⟩
    exact x_ld H Us Ue Ud g hcd hn sh eh dd
  by_cases c1 : o = 1
  · subst c1
    obtain ⟨f0, rfl⟩ : ∃ f0, f = f0 + 1 := ⟨f - 1, by have : 1 ≤ f := hroom; omega⟩
    exact x_ldc H Us Ue Ud g hcd hn sh eh dd hnco hcons
  by_cases c2 : o = 2
  · subst c2
    obtain ⟨f0, rfl⟩ : ∃ f0, f = f0 + 2 := ⟨f - 2, by have : 2 ≤ f := hroom; omega⟩
    exact x_ldf H Us Ue Ud g hcd hn sh eh dd (fun a z => (hG a).mpr z)
  by_cases c3 : o = 3
  · subst c3
    obtain ⟨f0, rfl⟩ : ∃ f0, f = f0 + 4 := ⟨f - 4, by have : 4 ≤ f := hroom; omega⟩
    exact x_ap H Us Ue Ud g hcd hn sh eh dd (fun a z => (hG a).mp z)
  by_cases c4 : o = 4
  · subst c4
    obtain ⟨f0, rfl⟩ : ∃ f0, f = f0 + 1 := ⟨f - 1, by have : 1 ≤ f := hroom; omega⟩
    exact x_rtn H Us Ue Ud g hcd hn sh eh dd
  by_cases c5 : o = 5
  · subst c5
    obtain ⟨f0, rfl⟩ : ∃ f0, f = f0 + 1 := ⟨f - 1, by have : 1 ≤ f := hroom; omega⟩
    exact x_dum H Us Ue Ud g hcd hn sh eh dd
  by_cases c6 : o = 6
  · subst c6
    obtain ⟨f0, rfl⟩ : ∃ f0, f = f0 + 3 := ⟨f - 3, by have : 3 ≤ f := hroom; omega⟩
    exact x_rap H Us Ue Ud g hcd hn sh eh dd (fun a z => (hG a).mp z) hr
  by_cases c7 : o = 7
  · subst c7
    obtain ⟨f0, rfl⟩ : ∃ f0, f = f0 + 1 := ⟨f - 1, by have : 1 ≤ f := hroom; omega⟩
    exact x_sel H Us Ue Ud g hcd hn sh eh dd
  by_cases c8 : o = 8
  · subst c8
    exact x_join H Us Ue Ud g hcd hn sh eh dd
  by_cases c9 : o = 9
  · subst c9
    obtain ⟨f0, rfl⟩ : ∃ f0, f = f0 + 1 := ⟨f - 1, by have : 1 ≤ f := hroom; omega⟩
    exact x_car H Us Ue Ud g hcd hn sh eh dd
  by_cases c10 : o = 10
  · subst c10
    obtain ⟨f0, rfl⟩ : ∃ f0, f = f0 + 1 := ⟨f - 1, by have : 1 ≤ f := hroom; omega⟩
    exact x_cdr H Us Ue Ud g hcd hn sh eh dd
  by_cases c11 : o = 11
  · subst c11
    obtain ⟨f0, rfl⟩ : ∃ f0, f = f0 + 1 := ⟨f - 1, by have : 1 ≤ f := hroom; omega⟩
    exact x_atom H Us Ue Ud g hcd hn sh eh dd
  by_cases c12 : o = 12
  · subst c12
    obtain ⟨f0, rfl⟩ : ∃ f0, f = f0 + 2 := ⟨f - 2, by have : 2 ≤ f := hroom; omega⟩
    exact x_cons H Us Ue Ud g hcd hn sh eh dd
  by_cases c13 : o = 13
  · subst c13
    obtain ⟨f0, rfl⟩ : ∃ f0, f = f0 + 1 := ⟨f - 1, by have : 1 ≤ f := hroom; omega⟩
    exact x_eq H Us Ue Ud g hcd hn sh eh dd
  by_cases c14 : o = 14
  · subst c14
    obtain ⟨f0, rfl⟩ : ∃ f0, f = f0 + 1 := ⟨f - 1, by have : 1 ≤ f := hroom; omega⟩
    exact x_leq H Us Ue Ud g hcd hn sh eh dd
  by_cases c15 : o = 15
  · subst c15
    obtain ⟨f0, rfl⟩ : ∃ f0, f = f0 + 2 := ⟨f - 2, by have : 2 ≤ f := hroom; omega⟩
    exact x_add H Us Ue Ud g hcd hn sh eh dd
  by_cases c16 : o = 16
  · subst c16
    obtain ⟨f0, rfl⟩ : ∃ f0, f = f0 + 2 := ⟨f - 2, by have : 2 ≤ f := hroom; omega⟩
    exact x_sub H Us Ue Ud g hcd hn sh eh dd
  by_cases c17 : o = 17
  · subst c17
    obtain ⟨f0, rfl⟩ : ∃ f0, f = f0 + 2 := ⟨f - 2, by have : 2 ≤ f := hroom; omega⟩
    exact x_mul H Us Ue Ud g hcd hn sh eh dd
  by_cases c18 : o = 18
  · subst c18
    obtain ⟨f0, rfl⟩ : ∃ f0, f = f0 + 2 := ⟨f - 2, by have : 2 ≤ f := hroom; omega⟩
    exact x_div H Us Ue Ud g hcd hn sh eh dd
  by_cases c19 : o = 19
  · subst c19
    obtain ⟨f0, rfl⟩ : ∃ f0, f = f0 + 2 := ⟨f - 2, by have : 2 ≤ f := hroom; omega⟩
    exact x_rem H Us Ue Ud g hcd hn sh eh dd
  by_cases c20 : o = 20
  · subst c20
    exact x_stop H Us Ue Ud g hcd hn sh eh dd
  exact absurd go (by omega)
end
