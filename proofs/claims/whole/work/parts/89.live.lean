/-! what can be reached: the class's side -/
/-! lists without repetition, and their lengths -/
def chi (l : List Nat) : Nat → Int32 := fun c => if c ∈ l then 1 else 0
theorem chi0 {l : List Nat} {c : Nat} : chi l c = 0 ↔ c ∉ l := by
  unfold chi
  by_cases h : c ∈ l
  · rw [if_pos h]
    exact ⟨fun z => absurd z (by decide), fun z => absurd h z⟩
  · rw [if_neg h]
    exact ⟨fun _ => h, fun _ => rfl⟩
theorem cnt_chi : ∀ {l : List Nat} {n : Nat}, l.Nodup → (∀ x ∈ l, x < n) → cnt (chi l) n = l.length
  | [], n, _, _ => by
    have : ∀ n, cnt (chi []) n = 0 := by
      intro n
      induction n with
      | zero => rfl
      | succ n ih =>
        show cnt (chi []) n + (if chi [] n = 0 then 0 else 1) = 0
        rw [ih, if_pos (chi0.mpr List.not_mem_nil)]
    exact this n
  | a :: l, n, h, hb => by
    obtain ⟨h1, h2⟩ := List.nodup_cons.mp h
    have ih := cnt_chi h2 (fun x hx => hb x (List.mem_cons_of_mem _ hx))
    have := cnt_upd (p := chi l) (c := a) (v := 1) (by decide) (chi0.mpr h1) n (hb a List.mem_cons_self)
    rw [ih] at this
    rw [cnt_same (p := chi (a :: l)) (q := upd (chi l) a 1) n (fun c _ => ?_), this]
    · rfl
    · by_cases e : c = a
      · subst e
        rw [pk_us, chi0]
        exact ⟨fun z => absurd List.mem_cons_self z, fun z => absurd z (by decide)⟩
      · rw [pk_un e, chi0, chi0]
        exact ⟨fun z z2 => z (List.mem_cons_of_mem _ z2), fun z z2 => by
          rcases List.mem_cons.mp z2 with y | y
          · exact e y
          · exact z y⟩
theorem cnt_mono {p q : Nat → Int32} : ∀ n, (∀ c, c < n → p c ≠ 0 → q c ≠ 0) → cnt p n ≤ cnt q n
  | 0, _ => Nat.le_refl _
  | n + 1, h => by
    have ih := cnt_mono n (fun c hc => h c (by omega))
    show cnt p n + (if p n = 0 then 0 else 1) ≤ cnt q n + (if q n = 0 then 0 else 1)
    by_cases e : p n = 0
    · rw [if_pos e]; split <;> omega
    · rw [if_neg e, if_neg (h n (by omega) e)]; omega
theorem nd_snoc {c : Nat} : ∀ {l : List Nat}, l.Nodup → c ∉ l → (l ++ [c]).Nodup
  | [], _, _ => List.nodup_cons.mpr ⟨List.not_mem_nil, List.nodup_nil⟩
  | a :: l, h, hc => by
    obtain ⟨h1, h2⟩ := List.nodup_cons.mp h
    refine List.nodup_cons.mpr ⟨fun z => ?_, nd_snoc h2 (fun z => hc (List.mem_cons_of_mem _ z))⟩
    rcases List.mem_append.mp z with y | y
    · exact h1 y
    · exact hc (by rw [List.mem_singleton.mp y]; exact List.mem_cons_self)
theorem nd_len {l : List Nat} {n : Nat} (h : l.Nodup) (hb : ∀ x ∈ l, x < n) : l.length ≤ n := by
  rw [← cnt_chi h hb]
  exact cnt_le _ _
/-- the class's row of reached cells; X: what may be in it -/
def RI (sz : Nat) (X : Nat → Prop) (L : List Nat) (ir rw : Nat → Int32) : Prop := L.Nodup ∧ (∀ c ∈ L, c < sz ∧ X c) ∧ (∀ i, i < L.length → rw i = nI (L.getD i 0)) ∧ (∀ c, c < sz → (ir c = 0 ↔ c ∉ L))
theorem getD_app {L M : List Nat} {i : Nat} (h : i < L.length) : (L ++ M).getD i 0 = L.getD i 0 := by
  rw [List.getD_eq_getElem?_getD, List.getD_eq_getElem?_getD, List.getElem?_append_left h]
theorem q_reach {sz c : Nat} {X : Nat → Prop} {L : List Nat} {ir rw : Nat → Int32} (h : RI sz X L ir rw) (hs : sz ≤ 200) (hc : c < sz) (hX : X c) : ∃ (L' : List Nat) (ir' rw' : Nat → Int32), RI sz X L' ir' rw' ∧ c ∈ L' ∧ (∃ t, L' = L ++ t) ∧ ∀ post : Int32 → (Nat → Int32) → (Nat → Int32) → Prop, post (nI L'.length) ir' rw' → wp_Memory_reach sz sz (nI L.length) ir rw (nI c) post := by
  obtain ⟨h1, h2, h3, h4⟩ := h
  have vc : vp_in (nI c) sz := vp_in_nI hc (by omega)
  have ec : (nI c).toNatClampNeg = c := nI_clamp (by omega)
  by_cases hm : c ∈ L
  · refine ⟨L, ir, rw, ⟨h1, h2, h3, h4⟩, hm, ⟨[], (List.append_nil _).symm⟩, fun post hp => ?_⟩
    unfold wp_Memory_reach
    rw [ec]
    exact ⟨vc, fun z => absurd hm ((h4 c hc).mp z), fun _ => hp⟩
  · have nd := nd_snoc h1 hm
    have bd : ∀ x ∈ L ++ [c], x < sz := fun x hx => by
      rcases List.mem_append.mp hx with y | y
      · exact (h2 x y).1
      · rw [List.mem_singleton.mp y]; exact hc
    have ll := nd_len nd bd
    have l1 : (L ++ [c]).length = L.length + 1 := List.length_append
    refine ⟨L ++ [c], upd ir c 1, upd rw L.length (nI c), ⟨nd, fun x hx => ⟨bd x hx, ?_⟩, fun i hi => ?_, fun x hx => ?_⟩, List.mem_append_right _ List.mem_cons_self, ⟨[c], rfl⟩, fun post hp => ?_⟩
    · rcases List.mem_append.mp hx with y | y
      · exact (h2 x y).2
      · rw [List.mem_singleton.mp y]; exact hX
    · by_cases e : i = L.length
      · subst e
        rw [pk_us, List.getD_eq_getElem?_getD, List.getElem?_append_right (Nat.le_refl _), Nat.sub_self]
        rfl
      · rw [pk_un e, getD_app (by omega)]
        exact h3 i (by omega)
    · by_cases e : x = c
      · subst e
        rw [pk_us]
        exact ⟨fun z => absurd z (by decide), fun z => absurd (List.mem_append_right _ List.mem_cons_self) z⟩
      · rw [pk_un e, h4 x hx]
        exact ⟨fun z z2 => by
          rcases List.mem_append.mp z2 with y | y
          · exact z y
          · exact e (List.mem_singleton.mp y), fun z z2 => z (List.mem_append_left _ z2)⟩
    · unfold wp_Memory_reach
      rw [ec]
      refine ⟨vc, fun _ => ⟨vc, vp_in_nI (by omega) (by omega), ?_⟩, fun z => absurd ((h4 c hc).mpr hm) z⟩
      rw [nI_clamp (n := L.length) (by omega), nI_1]
      rw [l1] at hp
      exact hp
theorem q_beginReach {sz : Nat} {X : Nat → Prop} {ir rw : Nat → Int32} {rn : Int32} (hs : sz ≤ 200) (h24 : 24 ≤ sz) (h3 : ∀ c, c < 3 → X c) : ∃ (L : List Nat) (ir' rw' : Nat → Int32), RI sz X L ir' rw' ∧ (∀ c, c < 3 → c ∈ L) ∧ ∀ post : Int32 → (Nat → Int32) → (Nat → Int32) → Prop, post (nI L.length) ir' rw' → wp_Memory_beginReach sz sz (nI sz) rn ir rw post := by
  have clr : ∀ (r k : Nat) (ir : Nat → Int32), k + r = sz → ∃ ir' : Nat → Int32, (∀ c, c < sz → (k ≤ c ∨ ir c = 0) → ir' c = 0) ∧ ∀ (K23 : Int32 → (Nat → Int32) → (Nat → Int32) → Prop) (post : Int32 → (Nat → Int32) → (Nat → Int32) → Prop), K23 rn ir' rw → wp_Memory_beginReach_L2 sz sz (nI sz) K23 post (r + 1) (nI k) rn ir rw := by
    intro r
    induction r with
    | zero =>
      intro k ir e
      have : k = sz := e
      subst this
      exact ⟨ir, fun c hc z => by
        rcases z with z | z
        · omega
        · exact z, fun K23 post hp => ⟨fun _ => hp, fun z => absurd (Int32.le_refl _) z⟩⟩
    | succ r ih =>
      intro k ir e
      obtain ⟨ir', i1, i2⟩ := ih (k + 1) (upd ir k 0) (by omega)
      refine ⟨ir', fun c hc z => i1 c hc ?_, fun K23 post hp => ⟨fun z => absurd z (nI_ge (by omega) (by omega)), fun _ => ⟨vp_in_nI (by omega) (by omega), ?_⟩⟩⟩
      · by_cases e2 : c = k
        · right; rw [e2, pk_us]
        · rcases z with z | z
          · left; omega
          · right; rw [pk_un e2]; exact z
      · rw [nI_clamp (n := k) (by omega), nI_1]
        exact i2 K23 post hp
  obtain ⟨ir', i1, i2⟩ := clr sz 0 ir (by omega)
  have r0 : RI sz X [] ir' rw := ⟨List.nodup_nil, fun c hc => (List.not_mem_nil hc).elim, fun i hi => absurd hi (Nat.not_lt_zero _), fun c hc => ⟨fun _ => List.not_mem_nil, fun _ => i1 c hc (Or.inl (Nat.zero_le _))⟩⟩
  obtain ⟨L1, a1, b1, r1, m1, ⟨t1, e1⟩, w1⟩ := q_reach r0 hs (c := 0) (by omega) (h3 0 (by omega))
  obtain ⟨L2, a2, b2, r2, m2, ⟨t2, e2⟩, w2⟩ := q_reach r1 hs (c := 1) (by omega) (h3 1 (by omega))
  obtain ⟨L3, a3, b3, r3, m3, ⟨t3, e3⟩, w3⟩ := q_reach r2 hs (c := 2) (by omega) (h3 2 (by omega))
  refine ⟨L3, a3, b3, r3, fun c hc => ?_, fun post hp => ⟨sz + 1, i2 _ _ ⟨4, ?_⟩⟩⟩
  · rcases (show c = 0 ∨ c = 1 ∨ c = 2 by omega) with rfl | rfl | rfl
    · rw [e3, e2]; exact List.mem_append_left _ (List.mem_append_left _ m1)
    · rw [e3]; exact List.mem_append_left _ m2
    · exact m3
  · exact ⟨fun z => absurd z (by decide), fun _ => w1 _ ⟨fun z => absurd z (by decide), fun _ => w2 _ ⟨fun z => absurd z (by decide), fun _ => w3 _ ⟨fun _ => hp, fun z => absurd (by decide) z⟩⟩⟩⟩
/-! the class: all that is live -/
section
variable {sz f : Nat} {fre kc lc rc tk km lm rm cons cn : Nat → Int32} {π : Nat → Nat} {G : Nat → Prop} {s e d nco : Nat}
theorem RI.sub {X : Nat → Prop} {L L' : List Nat} (h : ∃ t, L' = L ++ t) : ∀ x ∈ L, x ∈ L' := fun x hx => by
  obtain ⟨t, rfl⟩ := h
  exact List.mem_append_left _ hx
theorem q_spread (H : HP sz f fre kc lc rc tk km lm rm π G) {X : Nat → Prop} (hU : ∀ c, X c → US sz f fre c) (hX : ∀ c a, X c → EDG kc lc rc c a → X a) : ∀ (r k : Nat) (L : List Nat) (ir rw : Nat → Int32), k + r = sz → k ≤ L.length → RI sz X L ir rw → (∀ i, i < k → ∀ a, EDG kc lc rc (L.getD i 0) a → a ∈ L) →
    ∃ (L' : List Nat) (ir' rw' : Nat → Int32), RI sz X L' ir' rw' ∧ (∃ t, L' = L ++ t) ∧ (∀ c ∈ L', ∀ a, EDG kc lc rc c a → a ∈ L') ∧ ∀ post : Int32 → Int32 → (Nat → Int32) → (Nat → Int32) → Prop, post (nI L'.length) (nI L'.length) ir' rw' → wp_Memory_spreadReach_L2 sz sz sz sz sz (nI sz) kc lc rc post (r + 1) (nI k) (nI L.length) ir rw := by
  have hs := H.2.1
  have done : ∀ (k : Nat) (L : List Nat) (ir rw : Nat → Int32), L.length ≤ k → (∀ i, i < k → ∀ a, EDG kc lc rc (L.getD i 0) a → a ∈ L) → ∀ c ∈ L, ∀ a, EDG kc lc rc c a → a ∈ L := fun k L ir rw hk hcl c hc a ha => by
    obtain ⟨i, hi, ei⟩ := List.getElem_of_mem hc
    refine hcl i (by omega) a ?_
    rw [List.getD_eq_getElem?_getD, List.getElem?_eq_getElem hi]
    show EDG kc lc rc (L[i]) a
    rw [ei]
    exact ha
  intro r
  induction r with
  | zero =>
    intro k L ir rw e hk hR hcl
    have ek : k = sz := e
    have hl := nd_len hR.1 (fun x hx => (hR.2.1 x hx).1)
    refine ⟨L, ir, rw, hR, ⟨[], (List.append_nil _).symm⟩, done k L ir rw (by omega) hcl, fun post hp => ⟨fun _ => hp, fun z => absurd (nI_le (by omega) (by omega)) z⟩⟩
  | succ r ih =>
    intro k L ir rw e hk hR hcl
    have hl := nd_len hR.1 (fun x hx => (hR.2.1 x hx).1)
    by_cases hkl : k < L.length
    · have hmem := getD_mem hkl
      obtain ⟨c1, c2⟩ := hR.2.1 _ hmem
      have Uc := hU _ c2
      have ew := hR.2.2.1 k hkl
      generalize hcc : L.getD k 0 = c at hmem c1 c2 Uc ew
      obtain ⟨lc1, lc2, lc3⟩ := H.lt Uc
      have vc : vp_in (nI c) sz := vp_in_nI c1 (by omega)
      have ecl : (nI c).toNatClampNeg = c := nI_clamp (by omega)
      -- what goes on, once c's own are in the row
      have next : ∀ (L2 : List Nat) (ir2 rw2 : Nat → Int32), RI sz X L2 ir2 rw2 → (∃ t, L2 = L ++ t) → (∀ a, EDG kc lc rc c a → a ∈ L2) → ∃ (L' : List Nat) (ir' rw' : Nat → Int32), RI sz X L' ir' rw' ∧ (∃ t, L' = L ++ t) ∧ (∀ c ∈ L', ∀ a, EDG kc lc rc c a → a ∈ L') ∧ ∀ post : Int32 → Int32 → (Nat → Int32) → (Nat → Int32) → Prop, post (nI L'.length) (nI L'.length) ir' rw' → wp_Memory_spreadReach_L2 sz sz sz sz sz (nI sz) kc lc rc post (r + 1) (nI (k + 1)) (nI L2.length) ir2 rw2 := fun L2 ir2 rw2 hR2 ht hc2 => by
        obtain ⟨t, et⟩ := ht
        have l2 : L2.length = L.length + t.length := by rw [et]; exact List.length_append
        obtain ⟨L', ir', rw', q1, ⟨t', q2⟩, q3, q4⟩ := ih (k + 1) L2 ir2 rw2 (by omega) (by omega) hR2 (fun i hi a ha => by
          have e1 : L2.getD i 0 = L.getD i 0 := by rw [et]; exact getD_app (by omega)
          rw [e1] at ha
          by_cases ei : i = k
          · rw [ei, hcc] at ha
            exact hc2 a ha
          · rw [et]
            exact List.mem_append_left _ (hcl i (by omega) a ha))
        exact ⟨L', ir', rw', q1, ⟨t ++ t', by rw [q2, et, List.append_assoc]⟩, q3, q4⟩
      have pre : ∀ post : Int32 → Int32 → (Nat → Int32) → (Nat → Int32) → Prop, wp_Memory_isPair sz kc (nI c) (fun r_12 => ((r_12 = 0 → (wp_Memory_spreadReach_J43 sz sz sz sz sz (nI sz) kc lc rc (wp_Memory_spreadReach_L2 sz sz sz sz sz (nI sz) kc lc rc post (r + 1)) post (nI k) (nI c) (nI L.length) ir rw)) ∧ (¬ r_12 = 0 → (vp_in (nI c) sz ∧ (wp_Memory_reach sz sz (nI L.length) ir rw (lc c) (fun rcn_15 ir_16 rw_17 => wp_Memory_spreadReach_J43 sz sz sz sz sz (nI sz) kc lc rc (wp_Memory_spreadReach_L2 sz sz sz sz sz (nI sz) kc lc rc post (r + 1)) post (nI k) (nI c) rcn_15 ir_16 rw_17)))))) → wp_Memory_spreadReach_L2 sz sz sz sz sz (nI sz) kc lc rc post (r + 1 + 1) (nI k) (nI L.length) ir rw := fun post z => by
        refine ⟨fun z => absurd z (nI_ge (by omega) (by omega)), fun _ => ⟨fun z => absurd z (nI_ge (by omega) (by omega)), fun _ => ⟨vp_in_nI (by omega) (by omega), ?_⟩⟩⟩
        rw [nI_clamp (n := k) (by omega), ew, ecl]
        exact z
      have j59 : ∀ (L2 : List Nat) (ir2 rw2 : Nat → Int32) (b : Nat), rc c = nI b → RI sz X L2 ir2 rw2 → b < sz → X b → ∃ (L3 : List Nat) (ir3 rw3 : Nat → Int32), RI sz X L3 ir3 rw3 ∧ b ∈ L3 ∧ (∃ t, L3 = L2 ++ t) ∧ ∀ post : Int32 → Int32 → (Nat → Int32) → (Nat → Int32) → Prop, wp_Memory_spreadReach_L2 sz sz sz sz sz (nI sz) kc lc rc post (r + 1) (nI (k + 1)) (nI L3.length) ir3 rw3 → wp_Memory_spreadReach_J59 sz sz sz sz sz (nI sz) kc lc rc (wp_Memory_spreadReach_L2 sz sz sz sz sz (nI sz) kc lc rc post (r + 1)) post (nI k) (nI c) (nI L2.length) ir2 rw2 := fun L2 ir2 rw2 b eb hR2 hb hXb => by
        obtain ⟨L3, a3, b3, r3, m3, t3, w3⟩ := q_reach hR2 hs hb hXb
        refine ⟨L3, a3, b3, r3, m3, t3, fun post hp => ?_⟩
        unfold wp_Memory_spreadReach_J59 wp_Memory_spreadReach_J69
        rw [ecl, eb, nI_1]
        exact ⟨vc, w3 _ hp⟩
      by_cases k2 : kc c = 2
      · obtain ⟨-, a, b, p1, p2, p3, p4, p5, p6⟩ := H.pr Uc k2
        have la := H.lt p5
        have lb := H.lt p6
        have ea : EDG kc lc rc c a := ⟨by omega, Or.inl ⟨k2, Or.inl p1⟩⟩
        have eb : EDG kc lc rc c b := ⟨by omega, Or.inl ⟨k2, Or.inr p2⟩⟩
        obtain ⟨L2, a2, b2, r2, m2, ⟨t2, e2⟩, w2⟩ := q_reach hR hs la.1 (hX c a c2 ea)
        obtain ⟨L3, a3, b3, r3, m3, ⟨t3, e3⟩, w3⟩ := j59 L2 a2 b2 b p2 r2 lb.1 (hX c b c2 eb)
        obtain ⟨L', ir', rw', q1, q2, q3, q4⟩ := next L3 a3 b3 r3 ⟨t2 ++ t3, by rw [e3, e2, List.append_assoc]⟩ (fun x hx => by
          obtain ⟨x1, x2⟩ := hx
          rcases x2 with ⟨_, y | y⟩ | ⟨y, _⟩
          · rw [(nI_eq (by omega) (by omega)).mp (y.symm.trans p1), e3]; exact List.mem_append_left _ m2
          · rw [(nI_eq (by omega) (by omega)).mp (y.symm.trans p2)]; exact m3
          · rcases y with y | y
            · exact absurd (k2.symm.trans y) (by decide)
            · exact absurd (k2.symm.trans y) (by decide))
        refine ⟨L', ir', rw', q1, q2, q3, fun post hp => pre post (H.isPair Uc (fun _ => ⟨fun z => absurd z (by decide), fun _ => ⟨vc, ?_⟩⟩) (fun z => absurd k2 z))⟩
        rw [p1]
        exact w2 _ (H.isPair Uc (fun _ => ⟨fun z => absurd z (by decide), fun _ => w3 _ (q4 _ hp)⟩) (fun z => absurd k2 z))
      · by_cases k34 : kc c = 3 ∨ kc c = 4
        · have hb : ∃ b, rc c = nI b ∧ US sz f fre b := by
            rcases k34 with z | z
            · obtain ⟨-, x, y, p0, p1, p2, p3, p4, p5, p6⟩ := H.cl Uc z
              exact ⟨y, p3, p5⟩
            · obtain ⟨-, x, y, p0, p1, p2, p3, p4, p5⟩ := H.mk Uc z
              exact ⟨y, p3, p5⟩
          obtain ⟨b, p2, p6⟩ := hb
          have lb := H.lt p6
          have eb : EDG kc lc rc c b := ⟨by omega, Or.inr ⟨k34, p2⟩⟩
          obtain ⟨L3, a3, b3, r3, m3, ⟨t3, e3⟩, w3⟩ := j59 L ir rw b p2 hR lb.1 (hX c b c2 eb)
          obtain ⟨L', ir', rw', q1, q2, q3, q4⟩ := next L3 a3 b3 r3 ⟨t3, e3⟩ (fun x hx => by
            obtain ⟨x1, x2⟩ := hx
            rcases x2 with ⟨y, _⟩ | ⟨_, y⟩
            · exact absurd y k2
            · rw [(nI_eq (by omega) (by omega)).mp (y.symm.trans p2)]; exact m3)
          refine ⟨L', ir', rw', q1, q2, q3, fun post hp => pre post (H.isPair Uc (fun z => absurd z k2) (fun _ => ⟨fun _ => H.isPair Uc (fun z => absurd z k2) (fun _ => ⟨fun _ => ?_, fun z => absurd rfl z⟩), fun z => absurd rfl z⟩))⟩
          unfold wp_Memory_hasAddress
          rw [ecl]
          have fin := w3 _ (q4 _ hp)
          refine ⟨vc, fun _ => ⟨fun z => absurd z (by decide), fun _ => fin⟩, fun z3 => ⟨vc, fun _ => ⟨fun z => absurd z (by decide), fun _ => fin⟩, fun z4 => ?_⟩⟩
          rcases k34 with z | z
          · exact absurd z z3
          · exact absurd z z4
        · obtain ⟨L', ir', rw', q1, q2, q3, q4⟩ := next L ir rw hR ⟨[], (List.append_nil _).symm⟩ (fun x hx => by
            obtain ⟨x1, x2⟩ := hx
            rcases x2 with ⟨y, _⟩ | ⟨y, _⟩
            · exact absurd y k2
            · exact absurd y k34)
          refine ⟨L', ir', rw', q1, q2, q3, fun post hp => pre post (H.isPair Uc (fun z => absurd z k2) (fun _ => ⟨fun _ => H.isPair Uc (fun z => absurd z k2) (fun _ => ⟨fun _ => ?_, fun z => absurd rfl z⟩), fun z => absurd rfl z⟩))⟩
          unfold wp_Memory_hasAddress wp_Memory_spreadReach_J69
          rw [ecl, nI_1]
          have fin := q4 _ hp
          exact ⟨vc, fun z => absurd (Or.inl z) k34, fun _ => ⟨vc, fun z => absurd (Or.inr z) k34, fun _ => ⟨fun _ => fin, fun z => absurd rfl z⟩⟩⟩
    · refine ⟨L, ir, rw, hR, ⟨[], (List.append_nil _).symm⟩, done k L ir rw (by omega) hcl, fun post hp => ⟨fun _ => hp, fun _ => ⟨fun _ => hp, fun z => absurd (nI_le (by omega) (by omega)) z⟩⟩⟩
/-- the roots: the lasting names, the registers, the constants -/
def ROOT (cons : Nat → Int32) (nco s e d : Nat) (c : Nat) : Prop := c < 3 ∨ c = s ∨ c = e ∨ c = d ∨ ∃ k, 1 ≤ k ∧ k ≤ nco ∧ cons k = nI c ∧ c < 200
theorem HP.rchU (H : HP sz f fre kc lc rc tk km lm rm π G) (Us : US sz f fre s) (Ue : US sz f fre e) (Ud : US sz f fre d) (hc : ∀ k, k ≤ nco → ∃ c, US sz f fre c ∧ cons k = nI c ∧ cn k = nI (π c)) : ∀ c, RCH kc lc rc (ROOT cons nco s e d) c → US sz f fre c := fun c hr => hr (US sz f fre) (fun r hr => by
  rcases hr with z | z | z | z | ⟨k, k1, k2, k3, k4⟩
  · exact (H.nil z).1
  · rw [z]; exact Us
  · rw [z]; exact Ue
  · rw [z]; exact Ud
  · obtain ⟨x, x1, x2, x3⟩ := hc k k2
    have lx := H.lt x1
    rw [(nI_eq (by omega) (by omega)).mp (k3.symm.trans x2)]
    exact x1) (fun c a hc e => H.edg hc e)
theorem q_reachLive (H : HP sz f fre kc lc rc tk km lm rm π G) (Us : US sz f fre s) (Ue : US sz f fre e) (Ud : US sz f fre d) (hn : nco ≤ 200) (hc : ∀ k, k ≤ nco → ∃ c, US sz f fre c ∧ cons k = nI c ∧ cn k = nI (π c)) (rn : Int32) (ir rw : Nat → Int32) :
    ∃ (L : List Nat) (ir' rw' : Nat → Int32), RI sz (RCH kc lc rc (ROOT cons nco s e d)) L ir' rw' ∧ (∀ c, ROOT cons nco s e d c → c ∈ L) ∧ (∀ c ∈ L, ∀ a, EDG kc lc rc c a → a ∈ L) ∧ ∀ post : Int32 → Int32 → (Nat → Int32) → (Nat → Int32) → Prop, post (nI L.length) (nI L.length) ir' rw' → wp_Machine_reachLive sz sz sz sz sz (nI nco) (nI s) (nI e) (nI d) cons (nI sz) rn ir kc lc rw rc post := by
  have hs := H.2.1
  have hX : ∀ c a, RCH kc lc rc (ROOT cons nco s e d) c → EDG kc lc rc c a → RCH kc lc rc (ROOT cons nco s e d) a := fun c a h e => h.go e
  obtain ⟨L0, a0, b0, r0, m0, w0⟩ := q_beginReach (X := RCH kc lc rc (ROOT cons nco s e d)) (ir := ir) (rw := rw) (rn := rn) hs H.1 (fun c hc => RCH.root (Or.inl hc))
  obtain ⟨L1, a1, b1, r1, m1, ⟨t1, e1⟩, w1⟩ := q_reach r0 hs (H.lt Us).1 (RCH.root (Or.inr (Or.inl rfl)))
  obtain ⟨L2, a2, b2, r2, m2, ⟨t2, e2⟩, w2⟩ := q_reach r1 hs (H.lt Ue).1 (RCH.root (Or.inr (Or.inr (Or.inl rfl))))
  obtain ⟨L3, a3, b3, r3, m3, ⟨t3, e3⟩, w3⟩ := q_reach r2 hs (H.lt Ud).1 (RCH.root (Or.inr (Or.inr (Or.inr (Or.inl rfl)))))
  have loop : ∀ (r k : Nat) (L : List Nat) (ir rw : Nat → Int32), k + r = nco + 1 → 1 ≤ k → RI sz (RCH kc lc rc (ROOT cons nco s e d)) L ir rw → ∃ (L' : List Nat) (ir' rw' : Nat → Int32), RI sz (RCH kc lc rc (ROOT cons nco s e d)) L' ir' rw' ∧ (∃ t, L' = L ++ t) ∧ (∀ j c, k ≤ j → j ≤ nco → cons j = nI c → c < 200 → c ∈ L') ∧ (∀ c ∈ L', ∀ a, EDG kc lc rc c a → a ∈ L') ∧ ∀ post : Int32 → Int32 → (Nat → Int32) → (Nat → Int32) → Prop, post (nI L'.length) (nI L'.length) ir' rw' → wp_Machine_reachLive_L42 sz sz sz sz sz (nI nco) (nI s) (nI e) (nI d) cons (nI sz) kc lc rc post (r + 1) (nI k) (nI L.length) ir rw := by
    intro r
    induction r with
    | zero =>
      intro k L ir rw ek hk hR
      obtain ⟨L', ir', rw', q1, q2, q3, q4⟩ := q_spread H (H.rchU Us Ue Ud hc) hX sz 0 L ir rw (by omega) (by omega) hR (fun i hi => absurd hi (Nat.not_lt_zero _))
      refine ⟨L', ir', rw', q1, q2, fun j c h1 h2 => absurd h1 (by omega), q3, fun post hp => ⟨fun _ => ⟨sz + 1, q4 _ hp⟩, fun z => absurd (nI_lt (by omega) (by omega)) z⟩⟩
    | succ r ih =>
      intro k L ir rw ek hk hR
      obtain ⟨c, c1, c2, c3⟩ := hc k (by omega)
      have lc := H.lt c1
      obtain ⟨L4, a4, b4, r4, m4, ⟨t4, e4⟩, w4⟩ := q_reach hR hs lc.1 (RCH.root (Or.inr (Or.inr (Or.inr (Or.inr ⟨k, hk, by omega, c2, by omega⟩)))))
      obtain ⟨L', ir', rw', q1, ⟨t5, q2⟩, q3, q4, q5⟩ := ih (k + 1) L4 a4 b4 (by omega) (by omega) r4
      refine ⟨L', ir', rw', q1, ⟨t4 ++ t5, by rw [q2, e4, List.append_assoc]⟩, fun j x h1 h2 h3 h4 => ?_, q4, fun post hp => ⟨fun z => absurd z (nI_nlt (by omega) (by omega)), fun _ => ⟨vp_in_nI (by omega) (by decide), ?_⟩⟩⟩
      · by_cases ej : j = k
        · rw [ej] at h3
          rw [(nI_eq (by omega) (by omega)).mp (h3.symm.trans c2), q2]
          exact List.mem_append_left _ m4
        · exact q3 j x (by omega) h2 h3 h4
      · rw [nI_clamp (n := k) (by omega), c2, nI_1]
        exact w4 _ (q5 _ hp)
  obtain ⟨L', ir', rw', q1, ⟨t, q2⟩, q3, q4, q5⟩ := loop nco 1 L3 a3 b3 (by omega) (by omega) r3
  refine ⟨L', ir', rw', q1, fun c hcc => ?_, q4, fun post hp => w0 _ (w1 _ (w2 _ (w3 _ ⟨nco + 1, q5 _ hp⟩)))⟩
  rcases hcc with z | z | z | z | ⟨k, k1, k2, k3, k4⟩
  · rw [q2, e3, e2, e1]; exact List.mem_append_left _ (List.mem_append_left _ (List.mem_append_left _ (List.mem_append_left _ (m0 c z))))
  · rw [q2, e3, e2, z]; exact List.mem_append_left _ (List.mem_append_left _ (List.mem_append_left _ m1))
  · rw [q2, e3, z]; exact List.mem_append_left _ (List.mem_append_left _ m2)
  · rw [q2, z]; exact List.mem_append_left _ m3
  · exact q3 k c k1 k2 k3 k4
end
