/-! collecting, both -/
section
variable {sz f : Nat} {fre kc lc rc tk km lm rm cons cn fx : Nat → Int32} {π : Nat → Nat} {G : Nat → Prop} {s e d nco bk : Nat}
theorem q_free {L : List Nat} {ir rw fre : Nat → Int32} {X : Nat → Prop} {fc : Int32} (hs : sz ≤ 200) (hR : RI sz X L ir rw) : ∃ (P : List Nat) (fre' : Nat → Int32), P.Nodup ∧ (∀ c, c ∈ P ↔ c < sz ∧ c ∉ L) ∧ P.length + L.length = sz ∧ (∀ i, i < P.length → fre' i = nI (P.getD i 0)) ∧ ∀ post : Int32 → (Nat → Int32) → Prop, post (nI P.length) fre' → wp_Memory_freeUnreached sz sz (nI sz) fc fre ir post := by
  have cl : cnt ir sz = L.length := by
    rw [← cnt_chi hR.1 (fun x hx => (hR.2.1 x hx).1)]
    exact cnt_same sz (fun c hc => by rw [chi0]; exact hR.2.2.2 c hc)
  have loop : ∀ (k : Nat) (P : List Nat) (fre : Nat → Int32), k ≤ sz → P.Nodup → (∀ c, c ∈ P ↔ k ≤ c ∧ c < sz ∧ c ∉ L) → P.length + (cnt ir sz - cnt ir k) = sz - k → cnt ir k ≤ cnt ir sz → (∀ i, i < P.length → fre i = nI (P.getD i 0)) → ∃ (P' : List Nat) (fre' : Nat → Int32), P'.Nodup ∧ (∀ c, c ∈ P' ↔ c < sz ∧ c ∉ L) ∧ P'.length + L.length = sz ∧ (∀ i, i < P'.length → fre' i = nI (P'.getD i 0)) ∧ ∀ post : Int32 → (Nat → Int32) → Prop, post (nI P'.length) fre' → wp_Memory_freeUnreached_L12 sz sz (nI sz) ir post (k + 1) (nI k + (-1)) (nI P.length) fre := by
    intro k
    induction k with
    | zero =>
      intro P fre hk h1 h2 h3 h4 h5
      have c0 : cnt ir 0 = 0 := rfl
      refine ⟨P, fre, h1, fun c => by rw [h2 c]; exact ⟨fun z => z.2, fun z => ⟨Nat.zero_le _, z⟩⟩, by omega, h5, fun post hp => ⟨fun _ => hp, fun z => absurd (by decide) z⟩⟩
    | succ k ih =>
      intro P fre hk h1 h2 h3 h4 h5
      have cu : cnt ir (k + 1) = cnt ir k + (if ir k = 0 then 0 else 1) := rfl
      by_cases hz : ir k = 0
      · rw [if_pos hz] at cu
        have nl : k ∉ L := (hR.2.2.2 k (by omega)).mp hz
        have nP : k ∉ P := fun z => by have := ((h2 k).mp z).1; omega
        have l1 : (P ++ [k]).length = P.length + 1 := List.length_append
        obtain ⟨P', fre', q1, q2, q3, q4, q5⟩ := ih (P ++ [k]) (upd fre P.length (nI k)) (by omega) (nd_snoc h1 nP) (fun c => by
          rw [List.mem_append, h2 c, List.mem_singleton]
          exact ⟨fun z => by
            rcases z with z | z
            · exact ⟨by omega, z.2⟩
            · rw [z]; exact ⟨Nat.le_refl _, by omega, nl⟩, fun z => by
            by_cases e : c = k
            · exact Or.inr e
            · exact Or.inl ⟨by omega, z.2⟩⟩) (by omega) (by omega) (fun i hi => by
          by_cases e : i = P.length
          · rw [e, pk_us, List.getD_eq_getElem?_getD, List.getElem?_append_right (Nat.le_refl _), Nat.sub_self]
            rfl
          · rw [pk_un e, getD_app (by omega)]
            exact h5 i (by omega))
        refine ⟨P', fre', q1, q2, q3, q4, fun post hp => ⟨fun z => ?_, fun _ => ?_⟩⟩
        · rw [pk_m1] at z
          exact absurd z (nI_pos (by omega))
        · unfold wp_Memory_freeUnreached_J45
          rw [pk_m1, nI_clamp (n := k) (by omega), nI_clamp (n := P.length) (by omega), nI_1]
          have q6 := q5 post hp
          rw [l1] at q6
          exact ⟨vp_in_nI (by omega) (by omega), fun _ => ⟨vp_in_nI (by omega) (by omega), q6⟩, fun z => absurd hz z⟩
      · rw [if_neg hz] at cu
        have nl : k ∈ L := by
          by_cases y : k ∈ L
          · exact y
          · exact absurd ((hR.2.2.2 k (by omega)).mpr y) hz
        obtain ⟨P', fre', q1, q2, q3, q4, q5⟩ := ih P fre (by omega) h1 (fun c => by
          rw [h2 c]
          exact ⟨fun z => ⟨by omega, z.2⟩, fun z => by
            by_cases e : c = k
            · exact absurd nl (by rw [← e]; exact z.2.2)
            · exact ⟨by omega, z.2⟩⟩) (by omega) (by omega) h5
        refine ⟨P', fre', q1, q2, q3, q4, fun post hp => ⟨fun z => ?_, fun _ => ?_⟩⟩
        · rw [pk_m1] at z
          exact absurd z (nI_pos (by omega))
        · unfold wp_Memory_freeUnreached_J45
          rw [pk_m1, nI_clamp (n := k) (by omega)]
          exact ⟨vp_in_nI (by omega) (by omega), fun z => absurd z hz, fun _ => q5 post hp⟩
  obtain ⟨P', fre', q1, q2, q3, q4, q5⟩ := loop sz [] fre (Nat.le_refl _) List.nodup_nil (fun c => ⟨fun z => (List.not_mem_nil z).elim, fun z => absurd z.1 (by omega)⟩) (by show 0 + _ = _; omega) (Nat.le_refl _) (fun i hi => absurd hi (Nat.not_lt_zero _))
  refine ⟨P', fre', q1, q2, q3, q4, fun post hp => ⟨sz + 1, ?_⟩⟩
  have := q5 post hp
  rw [Int32.sub_eq_add_neg]
  exact this
theorem SH.cut {U X : Nat → Prop} {kc lc rc : Nat → Int32} (hX : ∀ c a, X c → EDG kc lc rc c a → X a) : ∀ {h s : Nat}, X s → SH U kc rc s h → SH X kc rc s h
  | 0, _, _, _ => trivial
  | h + 1, s, hs, ⟨_, z2, b, z3, z4, z5⟩ => ⟨hs, z2, b, z3, z4, SH.cut hX (hX s b hs ⟨z3, Or.inl ⟨z2, Or.inr z4⟩⟩) z5⟩
theorem EH.cut {U X ρ : Nat → Prop} {kc lc rc : Nat → Int32} (hX : ∀ c a, X c → EDG kc lc rc c a → X a) : ∀ {h s : Nat}, X s → EH U ρ kc rc s h → EH X ρ kc rc s h
  | 0, _, _, _ => trivial
  | h + 1, s, hs, ⟨_, z0, z2, b, z3, z4, z5⟩ => ⟨hs, z0, z2, b, z3, z4, EH.cut hX (hX s b hs ⟨z3, Or.inl ⟨z2, Or.inr z4⟩⟩) z5⟩
theorem DD.cut {cd : Nat → Nat × Nat × Nat} {n nco : Nat} {U X ρ : Nat → Prop} {kc lc rc : Nat → Int32} (hX : ∀ c a, X c → EDG kc lc rc c a → X a) : ∀ {k d : Nat} {js : List Nat} {fn : Bool}, X d → DD cd n nco U ρ kc lc rc k d js fn → DD cd n nco X ρ kc lc rc k d js fn
  | 0, _, _, _, _, z => z
  | k + 1, d, x :: js, fn, hd, ⟨_, z2, z3, b, z4, z5, z6⟩ => ⟨hd, z2, z3, b, z4, z5, DD.cut hX (hX d b hd ⟨z4, Or.inr ⟨Or.inr z2, z5⟩⟩) z6⟩
  | _ + 1, _, [], false, _, _ => trivial
  | k + 1, d, [], true, hd, z => by
    obtain ⟨z1, z2, z3, a, b, z4, z5, z6, z7, z8, z9, z10, a2, b2, z11, z12, z13, z14, z15, z16, ret, d2, z17, z18, z19, z20, hh, q, js, fn, z21, z22, z23, z24⟩ := z
    have xa := hX d a hd ⟨z4, Or.inl ⟨z2, Or.inl z6⟩⟩
    have xb := hX d b hd ⟨z5, Or.inl ⟨z2, Or.inr z7⟩⟩
    have xa2 := hX b a2 xb ⟨z11, Or.inl ⟨z9, Or.inl z13⟩⟩
    have xb2 := hX b b2 xb ⟨z12, Or.inl ⟨z9, Or.inr z14⟩⟩
    have xd2 := hX b2 d2 xb2 ⟨z18, Or.inr ⟨Or.inr z16, z20⟩⟩
    exact ⟨hd, z2, z3, a, b, z4, z5, z6, z7, xb, z9, z10, a2, b2, z11, z12, z13, z14, xb2, z16, ret, d2, z17, z18, z19, z20, hh, q, js, fn, z21, z22.cut hX xa, z23.cut hX xa2, DD.cut hX xd2 z24⟩
/-- the constants of both -/
def CNS (sz f : Nat) (fre cons cn : Nat → Int32) (π : Nat → Nat) (nco : Nat) : Prop := (∀ k, k ≤ nco → ∃ c, US sz f fre c ∧ cons k = nI c ∧ cn k = nI (π c)) ∧ cn 0 = nI 0
theorem collect_both {cd : Nat → Nat × Nat × Nat} {n pc : Nat} (H : HP sz f fre kc lc rc tk km lm rm π G) (Us : US sz f fre s) (Ue : US sz f fre e) (Ud : US sz f fre d) (hn : nco ≤ 200) (hc : CNS sz f fre cons cn π nco) (hbk : bk < 2) (hfx : fx bk = nI nco) (T : TYP cd n nco (US sz f fre) kc lc rc s e d pc) (rn : Int32) (ir rw w : Nat → Int32) :
    ∃ (f' m : Nat) (fre' ir' rw' tk' w' : Nat → Int32), HP sz f' fre' kc lc rc tk' km lm rm π G ∧ US sz f' fre' s ∧ US sz f' fre' e ∧ US sz f' fre' d ∧ CNS sz f' fre' cons cn π nco ∧ TYP cd n nco (US sz f' fre') kc lc rc s e d pc ∧ m = sz - f' ∧ f' ≤ sz ∧
      (∀ post : Int32 → Int32 → (Nat → Int32) → (Nat → Int32) → Prop, post (nI m) (nI m) ir' rw' → wp_Machine_reachLive sz sz sz sz sz (nI nco) (nI s) (nI e) (nI d) cons (nI sz) rn ir kc lc rw rc post) ∧
      (∀ (fc : Int32) (post : Int32 → (Nat → Int32) → Prop), post (nI f') fre' → wp_Memory_freeUnreached sz sz (nI sz) fc fre ir' post) ∧
      (∀ (us sp rd : Int32) (post : Int32 → Int32 → Int32 → (Nat → Int32) → (Nat → Int32) → Prop), post (nI m) (sp + (nI sz + nI m)) (rd + 1) w' tk' → wp_Model_collect (nI bk) (nI sz) us sp (nI (π s)) (nI (π e)) (nI (π d)) rd cn fx km lm w rm tk post) := by
  have hs := H.2.1
  have hU := H.rchU Us Ue Ud hc.1
  obtain ⟨L, ir', rw', q1, q2, q3, q4⟩ := q_reachLive H Us Ue Ud hn hc.1 rn ir rw
  obtain ⟨P, fre', p1, p2, p3, p4, p5⟩ := q_free (fre := fre) (fc := 0) hs q1
  obtain ⟨w', w1, w2, w3⟩ := q_mreach H Us Ue Ud hn hc.1 hc.2 hbk hfx w
  have LX : ∀ c, c ∈ L ↔ RCH kc lc rc (ROOT cons nco s e d) c := fun c => ⟨fun z => (q1.2.1 c z).2, fun z => z (fun c => c ∈ L) q2 (fun c a hc ha => q3 c hc a ha)⟩
  have cnt_e := live_count H hU q1.1 LX w1
  have US' : ∀ c, US sz P.length fre' c ↔ c ∈ L := fun c => by
    refine ⟨fun z => ?_, fun z => ⟨(q1.2.1 c z).1, fun i hi ei => ?_⟩⟩
    · by_cases y : c ∈ L
      · exact y
      · have : c ∈ P := (p2 c).mpr ⟨z.1, y⟩
        obtain ⟨i, hi, e2⟩ := List.getElem_of_mem this
        refine absurd ?_ (z.2 i hi)
        rw [p4 i hi, List.getD_eq_getElem?_getD, List.getElem?_eq_getElem hi]
        show nI (P[i]) = nI c
        rw [e2]
    · rw [p4 i hi] at ei
      have hm := getD_mem hi
      have l1 := ((p2 _).mp hm).1
      have l2 := (q1.2.1 c z).1
      rw [(nI_eq (by omega) (by omega)).mp ei] at hm
      exact ((p2 c).mp hm).2 z
  have LU : ∀ c, c ∈ L → US sz f fre c := fun c hcc => hU c ((LX c).mp hcc)
  have edgX : ∀ c a, US sz P.length fre' c → EDG kc lc rc c a → US sz P.length fre' a := fun c a hcc ha => (US' a).mpr (q3 c ((US' c).mp hcc) a ha)
  have three : 3 ≤ L.length := by
    have h012 : ∀ c, c ∈ [0, 1, 2] → c ∈ L := fun c hcc => q2 c (Or.inl (by
      rcases List.mem_cons.mp hcc with y | y
      · omega
      rcases List.mem_cons.mp y with y | y
      · omega
      rcases List.mem_cons.mp y with y | y
      · omega
      · exact (List.not_mem_nil y).elim))
    have m1 := cnt_chi (l := [0, 1, 2]) (n := sz) (by decide) (fun x hx => (q1.2.1 x (h012 x hx)).1)
    have m2 := cnt_chi (l := L) (n := sz) q1.1 (fun x hx => (q1.2.1 x hx).1)
    have m3 := cnt_mono (p := chi [0, 1, 2]) (q := chi L) sz (fun c _ hcc z => hcc (chi0.mpr (fun y => chi0.mp z (h012 c y))))
    have : [0, 1, 2].length = 3 := rfl
    omega
  -- what the reference takes over
  have tkl : ∀ (r k : Nat) (tk : Nat → Int32), k + r = sz → ∃ tk' : Nat → Int32, (∀ x, x < k → tk' x = tk x) ∧ (∀ x, k ≤ x → x < sz → (tk' x = 0 ↔ w' x = 0)) ∧ ∀ (v1 us sp rd : Int32) (K33 : Int32 → Int32 → Int32 → Int32 → (Nat → Int32) → (Nat → Int32) → Prop) (post : Int32 → Int32 → Int32 → (Nat → Int32) → (Nat → Int32) → Prop), K33 v1 us sp rd w' tk' → wp_Model_collect_L7 (nI bk) (nI sz) (nI (π s)) (nI (π e)) (nI (π d)) cn fx km lm rm K33 post (r + 1) v1 (nI k) us sp rd w' tk := by
    intro r
    induction r with
    | zero =>
      intro k tk ek
      have : k = sz := ek
      subst this
      exact ⟨tk, fun _ _ => rfl, fun x h1 h2 => absurd h1 (by omega), fun v1 us sp rd K33 post hp => ⟨fun _ => hp, fun z => absurd (Int32.le_refl _) z⟩⟩
    | succ r ih =>
      intro k tk ek
      obtain ⟨tk', t1, t2, t3⟩ := ih (k + 1) (upd tk k (vp_nar .boolean (w' k))) (by omega)
      have nb : vp_nar .boolean (w' k) = 0 ↔ w' k = 0 := by
        by_cases y : w' k = 0
        · rw [y]; exact ⟨fun _ => rfl, fun _ => rfl⟩
        · rw [w2 k (by omega) y]; exact ⟨fun z => absurd z (by decide), fun z => absurd z (by decide)⟩
      refine ⟨tk', fun x hx => (t1 x (by omega)).trans (pk_un (by omega)), fun x h1 h2 => ?_, fun v1 us sp rd K33 post hp => ⟨fun z => absurd z (nI_ge (by omega) (by omega)), fun _ => ⟨vp_in_nI (by omega) (by decide), vp_in_nI (by omega) (by decide), ?_⟩⟩⟩
      · by_cases ex : x = k
        · subst ex
          rw [t1 x (by omega), pk_us]
          exact nb
        · exact t2 x (by omega) h2
      · rw [nI_clamp (n := k) (by omega), nI_1]
        exact t3 v1 us sp rd K33 post hp
  obtain ⟨tk', t1, t2, t3⟩ := tkl sz 0 tk (by omega)
  have tk0 : ∀ x, x < sz → (tk' x = 0 ↔ w' x = 0) := fun x hx => t2 x (by omega) hx
  have ctk : cnt tk' sz = L.length := by rw [cnt_same (p := tk') (q := w') sz tk0]; exact cnt_e
  refine ⟨P.length, L.length, fre', ir', rw', tk', w', ⟨H.1, hs, by omega, fun i hi => ⟨_, ((p2 _).mp (getD_mem hi)).1, p4 i hi⟩, fun i j hi hj eij => ?_, fun c hcc => ?_, fun c c' hcc hcc' => H.inj (LU c ((US' c).mp hcc)) (LU c' ((US' c').mp hcc')), by omega, fun c hcc => ⟨(US' c).mpr (q2 c (Or.inl hcc)), (H.nil hcc).2⟩, by
    obtain ⟨rk, hrk⟩ := H.2.2.2.2.2.2.2.2.2
    exact ⟨rk, fun c b hcc hb hk hr => ⟨(hrk c b (LU c ((US' c).mp hcc)) hb hk hr).1, edgX c b hcc ⟨hb, by
      rcases hk with hk | hk
      · exact Or.inl ⟨hk, Or.inr hr⟩
      · exact Or.inr ⟨Or.inr hk, hr⟩⟩⟩⟩⟩, (US' s).mpr (q2 s (Or.inr (Or.inl rfl))), (US' e).mpr (q2 e (Or.inr (Or.inr (Or.inl rfl)))), (US' d).mpr (q2 d (Or.inr (Or.inr (Or.inr (Or.inl rfl))))), ⟨fun k hk => ?_, hc.2⟩, ?_, by omega, by omega, q4, fun fc post hp => ?_, fun us sp rd post hp => ?_⟩
  · rw [p4 i hi, p4 j hj] at eij
    have l1 := ((p2 _).mp (getD_mem hi)).1
    have l2 := ((p2 _).mp (getD_mem hj)).1
    have e3 := (nI_eq (by omega) (by omega)).mp eij
    rw [List.getD_eq_getElem?_getD, List.getElem?_eq_getElem hi, List.getD_eq_getElem?_getD, List.getElem?_eq_getElem hj] at e3
    have e4 : P[i] = P[j] := e3
    have pw := List.pairwise_iff_getElem.mp p1
    rcases Nat.lt_trichotomy i j with y | y | y
    · exact absurd e4 (pw i j hi hj y)
    · exact y
    · exact absurd e4.symm (pw j i hj hi y)
  · have hL := (US' c).mp hcc
    have Uc := LU c hL
    obtain ⟨a1, a2, a3⟩ := H.2.2.2.2.2.1 c Uc
    refine ⟨a1, fun z => ?_, ?_⟩
    · exact absurd ((tk0 _ a1).mp z) ((w1 _ a1).mpr ⟨c, (LX c).mp hL, rfl⟩)
    · rcases a3 with z | z | ⟨z1, z2, a, b, z3, z4, z5, z6, z7, z8⟩ | ⟨z1, z2, a, b, z0, z3, z4, z5, z6, z7, z8⟩ | ⟨z1, z2, a, b, z0, z3, z4, z5, z6, z7⟩
      · exact Or.inl z
      · exact Or.inr (Or.inl z)
      · have la := H.lt z7
        have lb := H.lt z8
        exact Or.inr (Or.inr (Or.inl ⟨z1, z2, a, b, z3, z4, z5, z6, edgX c a hcc ⟨by omega, Or.inl ⟨z1, Or.inl z3⟩⟩, edgX c b hcc ⟨by omega, Or.inl ⟨z1, Or.inr z4⟩⟩⟩))
      · have lb := H.lt z7
        exact Or.inr (Or.inr (Or.inr (Or.inl ⟨z1, z2, a, b, z0, z3, z4, z5, z6, edgX c b hcc ⟨by omega, Or.inr ⟨Or.inl z1, z5⟩⟩, z8⟩)))
      · have lb := H.lt z7
        exact Or.inr (Or.inr (Or.inr (Or.inr ⟨z1, z2, a, b, z0, z3, z4, z5, z6, edgX c b hcc ⟨by omega, Or.inr ⟨Or.inr z1, z5⟩⟩⟩)))
  · obtain ⟨c, c1, c2, c3⟩ := hc.1 k hk
    by_cases hk0 : k = 0
    · subst hk0
      have lc1 := H.lt c1
      have : π c = 0 := (nI_eq (by omega) (by omega)).mp (c3.symm.trans hc.2)
      have e0 : c = 0 := H.inj c1 (H.nil (by omega)).1 (this.trans (H.nil (c := 0) (by omega)).2.1.symm)
      exact ⟨c, by rw [e0]; exact (US' 0).mpr (q2 0 (Or.inl (by omega))), c2, c3⟩
    · have lc1 := H.lt c1
      exact ⟨c, (US' c).mpr (q2 c (Or.inr (Or.inr (Or.inr (Or.inr ⟨k, by omega, hk, c2, by omega⟩))))), c2, c3⟩
  · obtain ⟨ρ, h, q, js, fn, rap, kk, g, sh, eh, dd, hr, ph, ps, pe⟩ := T
    have Xs := (US' s).mpr (q2 s (Or.inr (Or.inl rfl)))
    have Xe := (US' e).mpr (q2 e (Or.inr (Or.inr (Or.inl rfl))))
    have Xd := (US' d).mpr (q2 d (Or.inr (Or.inr (Or.inr (Or.inl rfl)))))
    refine ⟨ρ, h, q, js, fn, rap, kk, g, sh.cut edgX Xs, eh.cut edgX Xe, dd.cut edgX Xd, fun z => ?_, fun c a hcc => ph c a (LU c ((US' c).mp hcc)), ps, pe⟩
    obtain ⟨c, c1, c2, c3, c4, c5, ks⟩ := hr z
    exact ⟨c, c1, c2, edgX s c Xs ⟨c1, Or.inl ⟨ks, Or.inl c2⟩⟩, c4, c5, ks⟩
  · have := p5 post hp
    unfold wp_Memory_freeUnreached at this ⊢
    exact this
  · refine w3 _ ⟨sz + 1, t3 _ _ _ _ _ _ ?_⟩
    rw [cnt_e, Int32.add_assoc]
    exact hp
end
