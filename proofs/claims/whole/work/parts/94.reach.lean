/-! what can be reached: the class's side -/
def EDG (kc lc rc : Nat → Int32) (c a : Nat) : Prop := a < 200 ∧ ((kc c = 2 ∧ (lc c = nI a ∨ rc c = nI a)) ∨ ((kc c = 3 ∨ kc c = 4) ∧ rc c = nI a))
def RCH (kc lc rc : Nat → Int32) (R : Nat → Prop) (c : Nat) : Prop := ∀ Y : Nat → Prop, (∀ r, R r → Y r) → (∀ c a, Y c → EDG kc lc rc c a → Y a) → Y c
theorem RCH.root {kc lc rc : Nat → Int32} {R : Nat → Prop} {c : Nat} (h : R c) : RCH kc lc rc R c := fun _ h1 _ => h1 c h
theorem RCH.go {kc lc rc : Nat → Int32} {R : Nat → Prop} {c a : Nat} (h : RCH kc lc rc R c) (e : EDG kc lc rc c a) : RCH kc lc rc R a := fun Y h1 h2 => h2 c a (h Y h1 h2) e
theorem HP.edg {sz f : Nat} {fre kc lc rc tk km lm rm : Nat → Int32} {π : Nat → Nat} {G : Nat → Prop} (H : HP sz f fre kc lc rc tk km lm rm π G) {c a : Nat} (hc : US sz f fre c) (e : EDG kc lc rc c a) : US sz f fre a := by
  obtain ⟨e1, e2⟩ := e
  have bd : ∀ b, US sz f fre b → nI b = nI a → US sz f fre a := fun b hb z => by
    have lb := H.lt hb
    rw [← (nI_eq (by omega) (by omega)).mp z]
    exact hb
  rcases e2 with ⟨k, z⟩ | ⟨k, z⟩
  · obtain ⟨-, x, y, p1, p2, p3, p4, p5, p6⟩ := H.pr hc k
    rcases z with z | z
    · exact bd x p5 (p1.symm.trans z)
    · exact bd y p6 (p2.symm.trans z)
  · rcases k with k | k
    · obtain ⟨-, x, y, p0, p1, p2, p3, p4, p5, p6⟩ := H.cl hc k
      exact bd y p5 (p3.symm.trans z)
    · obtain ⟨-, x, y, p0, p1, p2, p3, p4, p5⟩ := H.mk hc k
      exact bd y p5 (p3.symm.trans z)
/-! lists without repetition, and their lengths -/
def chi (l : List Nat) : Nat → Int32 := fun c => if c ∈ l then 1 else 0
theorem chi0 {l : List Nat} {c : Nat} : chi l c = 0 ↔ c ∉ l := by
  unfold chi
  by_cases h : c ∈ l
  · rw [if_pos h]
    exact ⟨fun z => absurd z (by decide), fun z => absurd h z⟩
  · rw [if_neg h]
    exact ⟨fun _ => h, fun _ => rfl⟩
theorem cnt_chi : ∀ {l : List Nat} {n : Nat}, l.Nodup → (∀ x ∈ l, x < n) → cnt (chi l) n = l.length
  | [], n, _, _ => by
    have : ∀ n, cnt (chi []) n = 0 := by
      intro n
      induction n with
      | zero => rfl
      | succ n ih =>
        show cnt (chi []) n + (if chi [] n = 0 then 0 else 1) = 0
        rw [ih, if_pos (chi0.mpr List.not_mem_nil)]
    exact this n
  | a :: l, n, h, hb => by
    obtain ⟨h1, h2⟩ := List.nodup_cons.mp h
    have ih := cnt_chi h2 (fun x hx => hb x (List.mem_cons_of_mem _ hx))
    have := cnt_upd (p := chi l) (c := a) (v := 1) (by decide) (chi0.mpr h1) n (hb a List.mem_cons_self)
    rw [ih] at this
    rw [cnt_same (p := chi (a :: l)) (q := upd (chi l) a 1) n (fun c _ => ?_), this]
    · rfl
    · by_cases e : c = a
      · subst e
        rw [pk_us, chi0]
        exact ⟨fun z => absurd List.mem_cons_self z, fun z => absurd z (by decide)⟩
      · rw [pk_un e, chi0, chi0]
        exact ⟨fun z z2 => z (List.mem_cons_of_mem _ z2), fun z z2 => by
          rcases List.mem_cons.mp z2 with y | y
          · exact e y
          · exact z y⟩
theorem cnt_mono {p q : Nat → Int32} : ∀ n, (∀ c, c < n → p c ≠ 0 → q c ≠ 0) → cnt p n ≤ cnt q n
  | 0, _ => Nat.le_refl _
  | n + 1, h => by
    have ih := cnt_mono n (fun c hc => h c (by omega))
    show cnt p n + (if p n = 0 then 0 else 1) ≤ cnt q n + (if q n = 0 then 0 else 1)
    by_cases e : p n = 0
    · rw [if_pos e]; split <;> omega
    · rw [if_neg e, if_neg (h n (by omega) e)]; omega
theorem nd_snoc {c : Nat} : ∀ {l : List Nat}, l.Nodup → c ∉ l → (l ++ [c]).Nodup
  | [], _, _ => List.nodup_cons.mpr ⟨List.not_mem_nil, List.nodup_nil⟩
  | a :: l, h, hc => by
    obtain ⟨h1, h2⟩ := List.nodup_cons.mp h
    refine List.nodup_cons.mpr ⟨fun z => ?_, nd_snoc h2 (fun z => hc (List.mem_cons_of_mem _ z))⟩
    rcases List.mem_append.mp z with y | y
    · exact h1 y
    · exact hc (by rw [List.mem_singleton.mp y]; exact List.mem_cons_self)
theorem nd_len {l : List Nat} {n : Nat} (h : l.Nodup) (hb : ∀ x ∈ l, x < n) : l.length ≤ n := by
  rw [← cnt_chi h hb]
  exact cnt_le _ _
/-- the class's row of reached cells; X: what may be in it -/
def RI (sz : Nat) (X : Nat → Prop) (L : List Nat) (ir rw : Nat → Int32) : Prop := L.Nodup ∧ (∀ c ∈ L, c < sz ∧ X c) ∧ (∀ i, i < L.length → rw i = nI (L.getD i 0)) ∧ (∀ c, c < sz → (ir c = 0 ↔ c ∉ L))
theorem getD_app {L M : List Nat} {i : Nat} (h : i < L.length) : (L ++ M).getD i 0 = L.getD i 0 := by
  rw [List.getD_eq_getElem?_getD, List.getD_eq_getElem?_getD, List.getElem?_append_left h]
theorem q_reach {sz c : Nat} {X : Nat → Prop} {L : List Nat} {ir rw : Nat → Int32} (h : RI sz X L ir rw) (hs : sz ≤ 200) (hc : c < sz) (hX : X c) : ∃ (L' : List Nat) (ir' rw' : Nat → Int32), RI sz X L' ir' rw' ∧ c ∈ L' ∧ (∃ t, L' = L ++ t) ∧ ∀ post : Int32 → (Nat → Int32) → (Nat → Int32) → Prop, post (nI L'.length) ir' rw' → wp_Memory_reach sz sz (nI L.length) ir rw (nI c) post := by
  obtain ⟨h1, h2, h3, h4⟩ := h
  have vc : vp_in (nI c) sz := vp_in_nI hc (by omega)
  have ec : (nI c).toNatClampNeg = c := nI_clamp (by omega)
  by_cases hm : c ∈ L
  · refine ⟨L, ir, rw, ⟨h1, h2, h3, h4⟩, hm, ⟨[], (List.append_nil _).symm⟩, fun post hp => ?_⟩
    unfold wp_Memory_reach
    rw [ec]
    exact ⟨vc, fun z => absurd hm ((h4 c hc).mp z), fun _ => hp⟩
  · have nd := nd_snoc h1 hm
    have bd : ∀ x ∈ L ++ [c], x < sz := fun x hx => by
      rcases List.mem_append.mp hx with y | y
      · exact (h2 x y).1
      · rw [List.mem_singleton.mp y]; exact hc
    have ll := nd_len nd bd
    have l1 : (L ++ [c]).length = L.length + 1 := List.length_append
    refine ⟨L ++ [c], upd ir c 1, upd rw L.length (nI c), ⟨nd, fun x hx => ⟨bd x hx, ?_⟩, fun i hi => ?_, fun x hx => ?_⟩, List.mem_append_right _ List.mem_cons_self, ⟨[c], rfl⟩, fun post hp => ?_⟩
    · rcases List.mem_append.mp hx with y | y
      · exact (h2 x y).2
      · rw [List.mem_singleton.mp y]; exact hX
    · by_cases e : i = L.length
      · subst e
        rw [pk_us, List.getD_eq_getElem?_getD, List.getElem?_append_right (Nat.le_refl _), Nat.sub_self]
        rfl
      · rw [pk_un e, getD_app (by omega)]
        exact h3 i (by omega)
    · by_cases e : x = c
      · subst e
        rw [pk_us]
        exact ⟨fun z => absurd z (by decide), fun z => absurd (List.mem_append_right _ List.mem_cons_self) z⟩
      · rw [pk_un e, h4 x hx]
        exact ⟨fun z z2 => by
          rcases List.mem_append.mp z2 with y | y
          · exact z y
          · exact e (List.mem_singleton.mp y), fun z z2 => z (List.mem_append_left _ z2)⟩
    · unfold wp_Memory_reach
      rw [ec]
      refine ⟨vc, fun _ => ⟨vc, vp_in_nI (by omega) (by omega), ?_⟩, fun z => absurd ((h4 c hc).mpr hm) z⟩
      rw [nI_clamp (n := L.length) (by omega), nI_1]
      rw [l1] at hp
      exact hp
theorem q_beginReach {sz : Nat} {X : Nat → Prop} {ir rw : Nat → Int32} {rn : Int32} (hs : sz ≤ 200) (h24 : 24 ≤ sz) (h3 : ∀ c, c < 3 → X c) : ∃ (L : List Nat) (ir' rw' : Nat → Int32), RI sz X L ir' rw' ∧ (∀ c, c < 3 → c ∈ L) ∧ ∀ post : Int32 → (Nat → Int32) → (Nat → Int32) → Prop, post (nI L.length) ir' rw' → wp_Memory_beginReach sz sz (nI sz) rn ir rw post := by
  have clr : ∀ (r k : Nat) (ir : Nat → Int32), k + r = sz → ∃ ir' : Nat → Int32, (∀ c, c < sz → (k ≤ c ∨ ir c = 0) → ir' c = 0) ∧ ∀ (K23 : Int32 → (Nat → Int32) → (Nat → Int32) → Prop) (post : Int32 → (Nat → Int32) → (Nat → Int32) → Prop), K23 rn ir' rw → wp_Memory_beginReach_L2 sz sz (nI sz) K23 post (r + 1) (nI k) rn ir rw := by
    intro r
    induction r with
    | zero =>
      intro k ir e
      have : k = sz := e
      subst this
      exact ⟨ir, fun c hc z => by
        rcases z with z | z
        · omega
        · exact z, fun K23 post hp => ⟨fun _ => hp, fun z => absurd (Int32.le_refl _) z⟩⟩
    | succ r ih =>
      intro k ir e
      obtain ⟨ir', i1, i2⟩ := ih (k + 1) (upd ir k 0) (by omega)
      refine ⟨ir', fun c hc z => i1 c hc ?_, fun K23 post hp => ⟨fun z => absurd z (nI_ge (by omega) (by omega)), fun _ => ⟨vp_in_nI (by omega) (by omega), ?_⟩⟩⟩
      · by_cases e2 : c = k
        · right; rw [e2, pk_us]
        · rcases z with z | z
          · left; omega
          · right; rw [pk_un e2]; exact z
      · rw [nI_clamp (n := k) (by omega), nI_1]
        exact i2 K23 post hp
  obtain ⟨ir', i1, i2⟩ := clr sz 0 ir (by omega)
  have r0 : RI sz X [] ir' rw := ⟨List.nodup_nil, fun c hc => (List.not_mem_nil hc).elim, fun i hi => absurd hi (Nat.not_lt_zero _), fun c hc => ⟨fun _ => List.not_mem_nil, fun _ => i1 c hc (Or.inl (Nat.zero_le _))⟩⟩
  obtain ⟨L1, a1, b1, r1, m1, ⟨t1, e1⟩, w1⟩ := q_reach r0 hs (c := 0) (by omega) (h3 0 (by omega))
  obtain ⟨L2, a2, b2, r2, m2, ⟨t2, e2⟩, w2⟩ := q_reach r1 hs (c := 1) (by omega) (h3 1 (by omega))
  obtain ⟨L3, a3, b3, r3, m3, ⟨t3, e3⟩, w3⟩ := q_reach r2 hs (c := 2) (by omega) (h3 2 (by omega))
  refine ⟨L3, a3, b3, r3, fun c hc => ?_, fun post hp => ⟨sz + 1, i2 _ _ ⟨4, ?_⟩⟩⟩
  · rcases (show c = 0 ∨ c = 1 ∨ c = 2 by omega) with rfl | rfl | rfl
    · rw [e3, e2]; exact List.mem_append_left _ (List.mem_append_left _ m1)
    · rw [e3]; exact List.mem_append_left _ m2
    · exact m3
  · exact ⟨fun z => absurd z (by decide), fun _ => w1 _ ⟨fun z => absurd z (by decide), fun _ => w2 _ ⟨fun z => absurd z (by decide), fun _ => w3 _ ⟨fun _ => hp, fun z => absurd (by decide) z⟩⟩⟩⟩
