/-! both take a cell: the rows behind are left unsaid but for what is known of them -/
def EXT (U U' : Nat → Prop) (π π' : Nat → Nat) (kc lc rc km lm rm kc' lc' rc' km' lm' rm' : Nat → Int32) : Prop := ∀ x, U x → U' x ∧ π' x = π x ∧ kc' x = kc x ∧ lc' x = lc x ∧ rc' x = rc x ∧ km' (π x) = km (π x) ∧ lm' (π x) = lm (π x) ∧ rm' (π x) = rm (π x)
theorem EXT.refl {U : Nat → Prop} {π : Nat → Nat} {kc lc rc km lm rm : Nat → Int32} : EXT U U π π kc lc rc km lm rm kc lc rc km lm rm := fun x h => ⟨h, rfl, rfl, rfl, rfl, rfl, rfl, rfl⟩
theorem EXT.trans {U U' U2 : Nat → Prop} {π π' π2 : Nat → Nat} {kc lc rc km lm rm kc' lc' rc' km' lm' rm' kc2 lc2 rc2 km2 lm2 rm2 : Nat → Int32} (h : EXT U U' π π' kc lc rc km lm rm kc' lc' rc' km' lm' rm') (h2 : EXT U' U2 π' π2 kc' lc' rc' km' lm' rm' kc2 lc2 rc2 km2 lm2 rm2) : EXT U U2 π π2 kc lc rc km lm rm kc2 lc2 rc2 km2 lm2 rm2 := fun x hx => by
  obtain ⟨a1, a2, a3, a4, a5, a6, a7, a8⟩ := h x hx
  obtain ⟨b1, b2, b3, b4, b5, b6, b7, b8⟩ := h2 x a1
  rw [a2] at b6 b7 b8
  exact ⟨b1, b2.trans a2, b3.trans a3, b4.trans a4, b5.trans a5, b6.trans a6, b7.trans a7, b8.trans a8⟩
section
variable {sz f : Nat} {fre kc lc rc tk km lm rm : Nat → Int32} {π : Nat → Nat} {G : Nat → Prop}
theorem US.same {b : Nat} {k : Int32} (hs : sz ≤ 200) (hb : US sz (f + 1) fre b) : ∀ x, x < 200 → (k = 2 ∨ k = 4) → nI b = nI x → US sz (f + 1) fre x := fun x hx _ e => by
  rw [← (nI_eq (by have := hb.1; omega) (by omega)).mp e]
  exact hb
theorem HP.take (h : HP sz (f + 1) fre kc lc rc tk km lm rm π G) (k l r k' l' r' : Int32) (hac : ∀ b, b < 200 → (k = 2 ∨ k = 4) → r = nI b → US sz (f + 1) fre b) (hc : ∀ (c c' : Nat), (∀ x, US sz (f + 1) fre x → US sz f fre x ∧ updN π c c' x = π x) → CELL (updN π c c') (US sz f fre) G (upd kc c k) (upd lc c l) (upd rc c r) (upd km c' k') (upd lm c' l') (upd rm c' r') c) :
    ∃ (c : Nat) (kc1 lc1 rc1 tk1 km1 lm1 rm1 : Nat → Int32) (π1 : Nat → Nat), HP sz f fre kc1 lc1 rc1 tk1 km1 lm1 rm1 π1 G ∧ EXT (US sz (f + 1) fre) (US sz f fre) π π1 kc lc rc km lm rm kc1 lc1 rc1 km1 lm1 rm1 ∧ US sz f fre c ∧ ¬ US sz (f + 1) fre c ∧ kc1 c = k ∧ lc1 c = l ∧ rc1 c = r ∧
      (∀ (post : Int32 → Int32 → (Nat → Int32) → (Nat → Int32) → (Nat → Int32) → Prop), post (nI c) (nI f) kc1 lc1 rc1 → wp_Memory_take sz sz sz sz (nI (f + 1)) fre kc lc rc k l r post) ∧
      (∀ (us : Int32) (post : Int32 → Int32 → (Nat → Int32) → (Nat → Int32) → (Nat → Int32) → (Nat → Int32) → Prop), post (nI (π1 c)) (us + 1) km1 lm1 rm1 tk1 → wp_Model_make (nI sz) us km lm rm tk k' l' r' post) := by
  obtain ⟨c, c', n1, n2, n3, n4, n5, n6, n7, n8, n9⟩ := h.alloc
  refine ⟨c, upd kc c k, upd lc c l, upd rc c r, upd tk c' 1, upd km c' k', upd lm c' l', upd rm c' r', updN π c c', n9 k l r k' l' r' hac (hc c c' (fun x hx => ⟨(n5 x hx).1, (n5 x hx).2.1⟩)), fun x hx => ?_, n4, n1, pk_us, pk_us, pk_us, fun post hp => n7 k l r post hp, fun us post hp => n8 us k' l' r' post (by rw [un_s] at hp; exact hp)⟩
  obtain ⟨m1, m2, m3, m4⟩ := n5 x hx
  exact ⟨m1, m2, pk_un m3, pk_un m3, pk_un m3, pk_un m4, pk_un m4, pk_un m4⟩
theorem HP.pair (h : HP sz (f + 1) fre kc lc rc tk km lm rm π G) {a b : Nat} (ha : US sz (f + 1) fre a) (hb : US sz (f + 1) fre b) :
    ∃ (c : Nat) (kc1 lc1 rc1 tk1 km1 lm1 rm1 : Nat → Int32) (π1 : Nat → Nat), HP sz f fre kc1 lc1 rc1 tk1 km1 lm1 rm1 π1 G ∧ EXT (US sz (f + 1) fre) (US sz f fre) π π1 kc lc rc km lm rm kc1 lc1 rc1 km1 lm1 rm1 ∧ US sz f fre c ∧ ¬ US sz (f + 1) fre c ∧ kc1 c = 2 ∧ lc1 c = nI a ∧ rc1 c = nI b ∧
      (∀ (post : Int32 → Int32 → (Nat → Int32) → (Nat → Int32) → (Nat → Int32) → Prop), post (nI c) (nI f) kc1 lc1 rc1 → wp_Memory_take sz sz sz sz (nI (f + 1)) fre kc lc rc 2 (nI a) (nI b) post) ∧
      (∀ (us : Int32) (post : Int32 → Int32 → (Nat → Int32) → (Nat → Int32) → (Nat → Int32) → (Nat → Int32) → Prop), post (nI (π1 c)) (us + 1) km1 lm1 rm1 tk1 → wp_Model_make (nI sz) us km lm rm tk 3 (nI (π a)) (nI (π b)) post) :=
  h.take 2 (nI a) (nI b) 3 (nI (π a)) (nI (π b)) (US.same h.2.1 hb) (fun c c' hx => Or.inr (Or.inr (Or.inl ⟨pk_us, by rw [un_s, pk_us], a, b, pk_us, pk_us, by rw [un_s, pk_us, (hx a ha).2], by rw [un_s, pk_us, (hx b hb).2], (hx a ha).1, (hx b hb).1⟩)))
theorem HP.num (h : HP sz (f + 1) fre kc lc rc tk km lm rm π G) (v : Int32) :
    ∃ (c : Nat) (kc1 lc1 rc1 tk1 km1 lm1 rm1 : Nat → Int32) (π1 : Nat → Nat), HP sz f fre kc1 lc1 rc1 tk1 km1 lm1 rm1 π1 G ∧ EXT (US sz (f + 1) fre) (US sz f fre) π π1 kc lc rc km lm rm kc1 lc1 rc1 km1 lm1 rm1 ∧ US sz f fre c ∧ ¬ US sz (f + 1) fre c ∧ kc1 c = 0 ∧ lc1 c = v ∧ rc1 c = 0 ∧
      (∀ (post : Int32 → Int32 → (Nat → Int32) → (Nat → Int32) → (Nat → Int32) → Prop), post (nI c) (nI f) kc1 lc1 rc1 → wp_Memory_take sz sz sz sz (nI (f + 1)) fre kc lc rc 0 v 0 post) ∧
      (∀ (us : Int32) (post : Int32 → Int32 → (Nat → Int32) → (Nat → Int32) → (Nat → Int32) → (Nat → Int32) → Prop), post (nI (π1 c)) (us + 1) km1 lm1 rm1 tk1 → wp_Model_make (nI sz) us km lm rm tk 1 v 0 post) :=
  h.take 0 v 0 1 v 0 (fun b _ z => absurd z (by decide)) (fun c c' hx => Or.inl ⟨pk_us, by rw [un_s, pk_us], by rw [un_s, pk_us, pk_us]⟩)
theorem HP.name (h : HP sz (f + 1) fre kc lc rc tk km lm rm π G) {v w : Int32} (hn : nameR v w) :
    ∃ (c : Nat) (kc1 lc1 rc1 tk1 km1 lm1 rm1 : Nat → Int32) (π1 : Nat → Nat), HP sz f fre kc1 lc1 rc1 tk1 km1 lm1 rm1 π1 G ∧ EXT (US sz (f + 1) fre) (US sz f fre) π π1 kc lc rc km lm rm kc1 lc1 rc1 km1 lm1 rm1 ∧ US sz f fre c ∧ ¬ US sz (f + 1) fre c ∧ kc1 c = 1 ∧ lc1 c = v ∧ rc1 c = 0 ∧
      (∀ (post : Int32 → Int32 → (Nat → Int32) → (Nat → Int32) → (Nat → Int32) → Prop), post (nI c) (nI f) kc1 lc1 rc1 → wp_Memory_take sz sz sz sz (nI (f + 1)) fre kc lc rc 1 v 0 post) ∧
      (∀ (us : Int32) (post : Int32 → Int32 → (Nat → Int32) → (Nat → Int32) → (Nat → Int32) → (Nat → Int32) → Prop), post (nI (π1 c)) (us + 1) km1 lm1 rm1 tk1 → wp_Model_make (nI sz) us km lm rm tk 2 w 0 post) :=
  h.take 1 v 0 2 w 0 (fun b _ z => absurd z (by decide)) (fun c c' hx => Or.inr (Or.inl ⟨pk_us, by rw [un_s, pk_us], by rw [un_s, pk_us, pk_us]; exact hn⟩))
theorem HP.clo (h : HP sz (f + 1) fre kc lc rc tk km lm rm π G) {a b : Nat} (ha : a < 512) (hg : G a) (hb : US sz (f + 1) fre b) :
    ∃ (c : Nat) (kc1 lc1 rc1 tk1 km1 lm1 rm1 : Nat → Int32) (π1 : Nat → Nat), HP sz f fre kc1 lc1 rc1 tk1 km1 lm1 rm1 π1 G ∧ EXT (US sz (f + 1) fre) (US sz f fre) π π1 kc lc rc km lm rm kc1 lc1 rc1 km1 lm1 rm1 ∧ US sz f fre c ∧ ¬ US sz (f + 1) fre c ∧ kc1 c = 3 ∧ lc1 c = nI a ∧ rc1 c = nI b ∧
      (∀ (post : Int32 → Int32 → (Nat → Int32) → (Nat → Int32) → (Nat → Int32) → Prop), post (nI c) (nI f) kc1 lc1 rc1 → wp_Memory_take sz sz sz sz (nI (f + 1)) fre kc lc rc 3 (nI a) (nI b) post) ∧
      (∀ (us : Int32) (post : Int32 → Int32 → (Nat → Int32) → (Nat → Int32) → (Nat → Int32) → (Nat → Int32) → Prop), post (nI (π1 c)) (us + 1) km1 lm1 rm1 tk1 → wp_Model_make (nI sz) us km lm rm tk 4 (nI a) (nI (π b)) post) :=
  h.take 3 (nI a) (nI b) 4 (nI a) (nI (π b)) (US.same h.2.1 hb) (fun c c' hx => Or.inr (Or.inr (Or.inr (Or.inl ⟨pk_us, by rw [un_s, pk_us], a, b, ha, pk_us, by rw [un_s, pk_us], pk_us, by rw [un_s, pk_us, (hx b hb).2], (hx b hb).1, hg⟩))))
theorem HP.mark (h : HP sz (f + 1) fre kc lc rc tk km lm rm π G) {a b : Nat} (ha : a < 512) (hb : US sz (f + 1) fre b) :
    ∃ (c : Nat) (kc1 lc1 rc1 tk1 km1 lm1 rm1 : Nat → Int32) (π1 : Nat → Nat), HP sz f fre kc1 lc1 rc1 tk1 km1 lm1 rm1 π1 G ∧ EXT (US sz (f + 1) fre) (US sz f fre) π π1 kc lc rc km lm rm kc1 lc1 rc1 km1 lm1 rm1 ∧ US sz f fre c ∧ ¬ US sz (f + 1) fre c ∧ kc1 c = 4 ∧ lc1 c = nI a ∧ rc1 c = nI b ∧
      (∀ (post : Int32 → Int32 → (Nat → Int32) → (Nat → Int32) → (Nat → Int32) → Prop), post (nI c) (nI f) kc1 lc1 rc1 → wp_Memory_take sz sz sz sz (nI (f + 1)) fre kc lc rc 4 (nI a) (nI b) post) ∧
      (∀ (us : Int32) (post : Int32 → Int32 → (Nat → Int32) → (Nat → Int32) → (Nat → Int32) → (Nat → Int32) → Prop), post (nI (π1 c)) (us + 1) km1 lm1 rm1 tk1 → wp_Model_make (nI sz) us km lm rm tk 5 (nI a) (nI (π b)) post) :=
  h.take 4 (nI a) (nI b) 5 (nI a) (nI (π b)) (US.same h.2.1 hb) (fun c c' hx => Or.inr (Or.inr (Or.inr (Or.inr ⟨pk_us, by rw [un_s, pk_us], a, b, ha, pk_us, by rw [un_s, pk_us], pk_us, by rw [un_s, pk_us, (hx b hb).2], (hx b hb).1⟩))))
/-! what both see of a cell in use -/
theorem HP.lt (h : HP sz f fre kc lc rc tk km lm rm π G) {c : Nat} (hc : US sz f fre c) : c < sz ∧ π c < sz ∧ sz ≤ 200 := ⟨hc.1, (h.2.2.2.2.2.1 c hc).1, h.2.1⟩
theorem HP.kind (h : HP sz f fre kc lc rc tk km lm rm π G) {c : Nat} (hc : US sz f fre c) : ∃ k : Nat, k ≤ 4 ∧ kc c = nI k ∧ km (π c) = nI (k + 1) := by
  rcases (h.2.2.2.2.2.1 c hc).2.2 with z | z | z | z | z
  · exact ⟨0, by omega, z.1, z.2.1⟩
  · exact ⟨1, by omega, z.1, z.2.1⟩
  · exact ⟨2, by omega, z.1, z.2.1⟩
  · exact ⟨3, by omega, z.1, z.2.1⟩
  · exact ⟨4, by omega, z.1, z.2.1⟩
theorem HP.pr (h : HP sz f fre kc lc rc tk km lm rm π G) {c : Nat} (hc : US sz f fre c) (hk : kc c = 2) : km (π c) = 3 ∧ ∃ a b, lc c = nI a ∧ rc c = nI b ∧ lm (π c) = nI (π a) ∧ rm (π c) = nI (π b) ∧ US sz f fre a ∧ US sz f fre b := by
  rcases (h.2.2.2.2.2.1 c hc).2.2 with z | z | z | z | z
  · exact absurd (hk.symm.trans z.1) (by decide)
  · exact absurd (hk.symm.trans z.1) (by decide)
  · exact z.2
  · exact absurd (hk.symm.trans z.1) (by decide)
  · exact absurd (hk.symm.trans z.1) (by decide)
theorem HP.cl (h : HP sz f fre kc lc rc tk km lm rm π G) {c : Nat} (hc : US sz f fre c) (hk : kc c = 3) : km (π c) = 4 ∧ ∃ a b, a < 512 ∧ lc c = nI a ∧ lm (π c) = nI a ∧ rc c = nI b ∧ rm (π c) = nI (π b) ∧ US sz f fre b ∧ G a := by
  rcases (h.2.2.2.2.2.1 c hc).2.2 with z | z | z | z | z
  · exact absurd (hk.symm.trans z.1) (by decide)
  · exact absurd (hk.symm.trans z.1) (by decide)
  · exact absurd (hk.symm.trans z.1) (by decide)
  · exact z.2
  · exact absurd (hk.symm.trans z.1) (by decide)
theorem HP.mk (h : HP sz f fre kc lc rc tk km lm rm π G) {c : Nat} (hc : US sz f fre c) (hk : kc c = 4) : km (π c) = 5 ∧ ∃ a b, a < 512 ∧ lc c = nI a ∧ lm (π c) = nI a ∧ rc c = nI b ∧ rm (π c) = nI (π b) ∧ US sz f fre b := by
  rcases (h.2.2.2.2.2.1 c hc).2.2 with z | z | z | z | z
  · exact absurd (hk.symm.trans z.1) (by decide)
  · exact absurd (hk.symm.trans z.1) (by decide)
  · exact absurd (hk.symm.trans z.1) (by decide)
  · exact absurd (hk.symm.trans z.1) (by decide)
  · exact z.2
theorem HP.nil (h : HP sz f fre kc lc rc tk km lm rm π G) {c : Nat} (hc : c < 3) : US sz f fre c ∧ π c = c ∧ kc c = 1 := h.2.2.2.2.2.2.2.2.1 c hc
theorem HP.inj (h : HP sz f fre kc lc rc tk km lm rm π G) {c c' : Nat} (hc : US sz f fre c) (hc' : US sz f fre c') (e : π c = π c') : c = c' := h.2.2.2.2.2.2.1 c c' hc hc' e
/-- the head and the tail of any cell, the class's way -/
theorem HP.head (h : HP sz f fre kc lc rc tk km lm rm π G) {c : Nat} (hc : US sz f fre c) : ∃ a, US sz f fre a ∧ (kc c = 2 → lc c = nI a ∧ lm (π c) = nI (π a)) ∧ (¬ kc c = 2 → a = 0) ∧ ∀ post : Int32 → Prop, post (nI a) → wp_Memory_headOf sz sz kc lc (nI c) post := by
  obtain ⟨l1, l2, l3⟩ := h.lt hc
  have v : vp_in (nI c) sz := vp_in_nI l1 (by omega)
  by_cases hk : kc c = 2
  · obtain ⟨-, a, b, p1, p2, p3, p4, p5, p6⟩ := h.pr hc hk
    refine ⟨a, p5, fun _ => ⟨p1, p3⟩, fun z => absurd hk z, fun post hp => ?_⟩
    unfold wp_Memory_headOf
    rw [nI_clamp (n := c) (by omega), p1]
    exact ⟨v, fun _ => ⟨v, hp⟩, fun z => absurd hk z⟩
  · refine ⟨0, (h.nil (by omega)).1, fun z => absurd z hk, fun _ => rfl, fun post hp => ?_⟩
    unfold wp_Memory_headOf
    rw [nI_clamp (n := c) (by omega)]
    exact ⟨v, fun z => absurd z hk, fun _ => hp⟩
theorem HP.tail (h : HP sz f fre kc lc rc tk km lm rm π G) {c : Nat} (hc : US sz f fre c) : ∃ a, US sz f fre a ∧ (kc c = 2 → rc c = nI a ∧ rm (π c) = nI (π a)) ∧ (¬ kc c = 2 → a = 0) ∧ ∀ post : Int32 → Prop, post (nI a) → wp_Memory_tailOf sz sz kc rc (nI c) post := by
  obtain ⟨l1, l2, l3⟩ := h.lt hc
  have v : vp_in (nI c) sz := vp_in_nI l1 (by omega)
  by_cases hk : kc c = 2
  · obtain ⟨-, a, b, p1, p2, p3, p4, p5, p6⟩ := h.pr hc hk
    refine ⟨b, p6, fun _ => ⟨p2, p4⟩, fun z => absurd hk z, fun post hp => ?_⟩
    unfold wp_Memory_tailOf
    rw [nI_clamp (n := c) (by omega), p2]
    exact ⟨v, fun _ => ⟨v, hp⟩, fun z => absurd hk z⟩
  · refine ⟨0, (h.nil (by omega)).1, fun z => absurd z hk, fun _ => rfl, fun post hp => ?_⟩
    unfold wp_Memory_tailOf
    rw [nI_clamp (n := c) (by omega)]
    exact ⟨v, fun z => absurd z hk, fun _ => hp⟩
theorem HP.kindOf (h : HP sz f fre kc lc rc tk km lm rm π G) {c : Nat} (hc : US sz f fre c) {post : Int32 → Prop} (hp : post (kc c)) : wp_Memory_kindOf sz kc (nI c) post := by
  obtain ⟨l1, l2, l3⟩ := h.lt hc
  unfold wp_Memory_kindOf
  rw [nI_clamp (n := c) (by omega)]
  exact ⟨vp_in_nI l1 (by omega), hp⟩
theorem HP.isPair (h : HP sz f fre kc lc rc tk km lm rm π G) {c : Nat} (hc : US sz f fre c) {post : Int32 → Prop} (h1 : kc c = 2 → post 1) (h0 : ¬ kc c = 2 → post 0) : wp_Memory_isPair sz kc (nI c) post := by
  obtain ⟨l1, l2, l3⟩ := h.lt hc
  unfold wp_Memory_isPair
  rw [nI_clamp (n := c) (by omega)]
  exact ⟨vp_in_nI l1 (by omega), h1, h0⟩
theorem HP.mpair (h : HP sz f fre kc lc rc tk km lm rm π G) {c : Nat} (hc : US sz f fre c) {post : Int32 → Prop} (h1 : kc c = 2 → post 1) (h0 : ¬ kc c = 2 → post 0) : wp_Model_pair km (nI (π c)) post := by
  obtain ⟨l1, l2, l3⟩ := h.lt hc
  obtain ⟨k, k1, k2, k3⟩ := h.kind hc
  unfold wp_Model_pair
  rw [nI_clamp (n := π c) (by omega), k3]
  refine ⟨vp_in_nI (by omega) (by decide), fun z => h1 ?_, fun z => h0 (fun e => z ?_)⟩
  · have : k + 1 = 3 := (nI_eq (b := 3) (by omega) (by decide)).mp z
    rw [k2, show k = 2 by omega]; rfl
  · have : k = 2 := (nI_eq (b := 2) (by omega) (by decide)).mp (k2.symm.trans e)
    rw [this]; rfl
end
/-! S, E and D as the code wants them -/
def SH (U : Nat → Prop) (kc rc : Nat → Int32) : Nat → Nat → Prop
  | _, 0 => True
  | s, h + 1 => U s ∧ kc s = 2 ∧ ∃ b, b < 200 ∧ rc s = nI b ∧ SH U kc rc b h
def EH (U ρ : Nat → Prop) (kc rc : Nat → Int32) : Nat → Nat → Prop
  | _, 0 => True
  | e, q + 1 => U e ∧ ¬ ρ e ∧ kc e = 2 ∧ ∃ b, b < 200 ∧ rc e = nI b ∧ EH U ρ kc rc b q
def DD (cd : Nat → Nat × Nat × Nat) (n nco : Nat) (U ρ : Nat → Prop) (kc lc rc : Nat → Int32) : Nat → Nat → List Nat → Bool → Prop
  | 0, _, _, _ => False
  | k + 1, d, z :: js, fn => U d ∧ kc d = 4 ∧ lc d = nI z ∧ ∃ b, b < 200 ∧ rc d = nI b ∧ DD cd n nco U ρ kc lc rc k b js fn
  | _ + 1, _, [], false => True
  | k + 1, d, [], true => U d ∧ kc d = 2 ∧ ρ d ∧ ∃ a b, a < 200 ∧ b < 200 ∧ lc d = nI a ∧ rc d = nI b ∧ U b ∧ kc b = 2 ∧ ρ b ∧ ∃ a2 b2, a2 < 200 ∧ b2 < 200 ∧ lc b = nI a2 ∧ rc b = nI b2 ∧ U b2 ∧ kc b2 = 4 ∧ ∃ ret d2, ret < 512 ∧ d2 < 200 ∧ lc b2 = nI ret ∧ rc b2 = nI d2 ∧ ∃ h q js fn, GOOD cd n nco ret (h + 1) q js fn false ∧ SH U kc rc a h ∧ EH U ρ kc rc a2 q ∧ DD cd n nco U ρ kc lc rc k d2 js fn
/-- what changes leaves the used cells as they are, but for the left of a pair that is no part of D -/
def STAY (U U' ρ ρ' : Nat → Prop) (kc lc rc kc' lc' rc' : Nat → Int32) : Prop := ∀ x, U x → U' x ∧ (ρ' x ↔ ρ x) ∧ kc' x = kc x ∧ rc' x = rc x ∧ (ρ x ∨ ¬ kc x = 2 → lc' x = lc x)
section
variable {cd : Nat → Nat × Nat × Nat} {n nco : Nat} {U U' ρ ρ' : Nat → Prop} {kc lc rc kc' lc' rc' : Nat → Int32}
theorem SH.to (h : STAY U U' ρ ρ' kc lc rc kc' lc' rc') : ∀ {k s : Nat}, SH U kc rc s k → SH U' kc' rc' s k
  | 0, _, _ => trivial
  | k + 1, s, z => by
    obtain ⟨z1, z2, b, z3, z4, z5⟩ := z
    obtain ⟨a1, a2, a3, a4, a5⟩ := h s z1
    exact ⟨a1, a3.trans z2, b, z3, a4.trans z4, SH.to h z5⟩
theorem EH.to (h : STAY U U' ρ ρ' kc lc rc kc' lc' rc') : ∀ {k s : Nat}, EH U ρ kc rc s k → EH U' ρ' kc' rc' s k
  | 0, _, _ => trivial
  | k + 1, s, z => by
    obtain ⟨z1, z0, z2, b, z3, z4, z5⟩ := z
    obtain ⟨a1, a2, a3, a4, a5⟩ := h s z1
    exact ⟨a1, fun y => z0 (a2.mp y), a3.trans z2, b, z3, a4.trans z4, EH.to h z5⟩
theorem DD.to (h : STAY U U' ρ ρ' kc lc rc kc' lc' rc') : ∀ {k d : Nat} {js : List Nat} {fn : Bool}, DD cd n nco U ρ kc lc rc k d js fn → DD cd n nco U' ρ' kc' lc' rc' k d js fn
  | 0, _, _, _, z => z
  | k + 1, d, x :: js, fn, z => by
    obtain ⟨z1, z2, z3, b, z4, z5, z6⟩ := z
    obtain ⟨a1, a2, a3, a4, a5⟩ := h d z1
    exact ⟨a1, a3.trans z2, (a5 (Or.inr (by rw [z2]; decide))).trans z3, b, z4, a4.trans z5, DD.to h z6⟩
  | _ + 1, _, [], false, _ => trivial
  | k + 1, d, [], true, z => by
    obtain ⟨z1, z2, z3, a, b, z4, z5, z6, z7, z8, z9, z10, a2, b2, z11, z12, z13, z14, z15, z16, ret, d2, z17, z18, z19, z20, hh, q, js, fn, z21, z22, z23, z24⟩ := z
    obtain ⟨p1, p2, p3, p4, p5⟩ := h d z1
    obtain ⟨q1, q2, q3, q4, q5⟩ := h b z8
    obtain ⟨r1, r2, r3, r4, r5⟩ := h b2 z15
    exact ⟨p1, p3.trans z2, p2.mpr z3, a, b, z4, z5, (p5 (Or.inl z3)).trans z6, p4.trans z7, q1, q3.trans z9, q2.mpr z10, a2, b2, z11, z12, (q5 (Or.inl z10)).trans z13, q4.trans z14, r1, r3.trans z16, ret, d2, z17, z18, (r5 (Or.inr (by rw [z16]; decide))).trans z19, r4.trans z20, hh, q, js, fn, z21, z22.to h, z23.to h, DD.to h z24⟩
/-- the machine is where the code wants it -/
theorem SH.mono : ∀ {k s : Nat}, SH U kc rc s (k + 1) → SH U kc rc s k
  | 0, _, _ => trivial
  | k + 1, s, ⟨z1, z2, b, z3, z4, z5⟩ => ⟨z1, z2, b, z3, z4, SH.mono z5⟩
/-- a new cell, that may be one of D's pairs -/
theorem STAY.ext {π π' : Nat → Nat} {km lm rm km' lm' rm' : Nat → Int32} (h : EXT U U' π π' kc lc rc km lm rm kc' lc' rc' km' lm' rm') : STAY U U' ρ ρ kc lc rc kc' lc' rc' := fun x hx => by
  obtain ⟨a1, a2, a3, a4, a5, a6⟩ := h x hx
  exact ⟨a1, Iff.rfl, a3, a5, fun _ => a4⟩
theorem STAY.add {π π' : Nat → Nat} {km lm rm km' lm' rm' : Nat → Int32} {c : Nat} (h : EXT U U' π π' kc lc rc km lm rm kc' lc' rc' km' lm' rm') (hc : ¬ U c) : STAY U U' ρ (fun x => ρ x ∨ x = c) kc lc rc kc' lc' rc' := fun x hx => by
  obtain ⟨a1, a2, a3, a4, a5, a6⟩ := h x hx
  exact ⟨a1, ⟨fun z => by
    rcases z with z | z
    · exact z
    · exact absurd (by rw [← z]; exact hx) hc, Or.inl⟩, a3, a5, fun _ => a4⟩
theorem STAY.trans {U2 ρ2 : Nat → Prop} {kc2 lc2 rc2 : Nat → Int32} (h : STAY U U' ρ ρ' kc lc rc kc' lc' rc') (h2 : STAY U' U2 ρ' ρ2 kc' lc' rc' kc2 lc2 rc2) : STAY U U2 ρ ρ2 kc lc rc kc2 lc2 rc2 := fun x hx => by
  obtain ⟨a1, a2, a3, a4, a5⟩ := h x hx
  obtain ⟨b1, b2, b3, b4, b5⟩ := h2 x a1
  exact ⟨b1, b2.trans a2, b3.trans a3, b4.trans a4, fun z => (b5 (by
    rcases z with z | z
    · exact Or.inl (a2.mpr z)
    · exact Or.inr (by rw [a3]; exact z))).trans (a5 z)⟩
end
/-! the words -/
theorem word_op {o x y : Nat} {post : Int32 → Prop} (ho : o ≤ 20) (hx : x < 512) (hy : y < 512) (hp : post (nI o)) : wp_Op_opOf (wd (o, x, y)) post := by
  unfold wp_Op_opOf wd
  simp only
  have e : nI (o + 32 * x + 16384 * y) - nI (o + 32 * x + 16384 * y) / nI 32 * nI 32 = nI o := by
    rw [pk_rem (by omega) (by omega) (by omega)]
    exact congrArg nI (by omega)
  have e' : nI (o + 32 * x + 16384 * y) - nI (o + 32 * x + 16384 * y) / 32 * 32 = nI o := e
  rw [e']
  refine ⟨fun _ => ⟨by decide, ?_⟩, fun z => absurd (nI_pos' (by omega)) z⟩
  have nl : ¬ (20 : Int32) < nI o := nI_nlt (a := 20) (by omega) (by decide)
  rw [if_neg nl]
  exact hp
theorem word_first {o x y : Nat} {post : Int32 → Prop} (ho : o ≤ 20) (hx : x < 512) (hy : y < 512) (hp : post (nI x)) : wp_Op_firstOf (wd (o, x, y)) post := by
  unfold wp_Op_firstOf wd
  simp only
  have e : nI (o + 32 * x + 16384 * y) - nI (o + 32 * x + 16384 * y) / nI 16384 * nI 16384 = nI (o + 32 * x) := by
    rw [pk_rem (by omega) (by omega) (by omega)]
    exact congrArg nI (by omega)
  have e' : nI (o + 32 * x + 16384 * y) - nI (o + 32 * x + 16384 * y) / 16384 * 16384 = nI (o + 32 * x) := e
  have e2 : nI (o + 32 * x) / 32 = nI x := by
    have : nI (o + 32 * x) / nI 32 = nI ((o + 32 * x) / 32) := pk_div (by omega) (by omega) (by omega)
    rw [show (o + 32 * x) / 32 = x by omega] at this
    exact this
  rw [e', e2]
  exact ⟨by decide, by decide, hp⟩
theorem word_second {o x y : Nat} {post : Int32 → Prop} (ho : o ≤ 20) (hx : x < 512) (hy : y < 512) (hp : post (nI y)) : wp_Op_secondOf (wd (o, x, y)) post := by
  unfold wp_Op_secondOf wd
  simp only
  have e2 : nI (o + 32 * x + 16384 * y) / 16384 = nI y := by
    have : nI (o + 32 * x + 16384 * y) / nI 16384 = nI ((o + 32 * x + 16384 * y) / 16384) := pk_div (by omega) (by omega) (by omega)
    rw [show (o + 32 * x + 16384 * y) / 16384 = y by omega] at this
    exact this
  rw [e2]
  exact ⟨by decide, hp⟩
/-! what can be reached -/
def EDG (kc lc rc : Nat → Int32) (c a : Nat) : Prop := a < 200 ∧ ((kc c = 2 ∧ (lc c = nI a ∨ rc c = nI a)) ∨ ((kc c = 3 ∨ kc c = 4) ∧ rc c = nI a))
def RCH (kc lc rc : Nat → Int32) (R : Nat → Prop) (c : Nat) : Prop := ∀ Y : Nat → Prop, (∀ r, R r → Y r) → (∀ c a, Y c → EDG kc lc rc c a → Y a) → Y c
theorem RCH.root {kc lc rc : Nat → Int32} {R : Nat → Prop} {c : Nat} (h : R c) : RCH kc lc rc R c := fun _ h1 _ => h1 c h
theorem RCH.go {kc lc rc : Nat → Int32} {R : Nat → Prop} {c a : Nat} (h : RCH kc lc rc R c) (e : EDG kc lc rc c a) : RCH kc lc rc R a := fun Y h1 h2 => h2 c a (h Y h1 h2) e
theorem HP.edg {sz f : Nat} {fre kc lc rc tk km lm rm : Nat → Int32} {π : Nat → Nat} {G : Nat → Prop} (H : HP sz f fre kc lc rc tk km lm rm π G) {c a : Nat} (hc : US sz f fre c) (e : EDG kc lc rc c a) : US sz f fre a := by
  obtain ⟨e1, e2⟩ := e
  have bd : ∀ b, US sz f fre b → nI b = nI a → US sz f fre a := fun b hb z => by
    have lb := H.lt hb
    rw [← (nI_eq (by omega) (by omega)).mp z]
    exact hb
  rcases e2 with ⟨k, z⟩ | ⟨k, z⟩
  · obtain ⟨-, x, y, p1, p2, p3, p4, p5, p6⟩ := H.pr hc k
    rcases z with z | z
    · exact bd x p5 (p1.symm.trans z)
    · exact bd y p6 (p2.symm.trans z)
  · rcases k with k | k
    · obtain ⟨-, x, y, p0, p1, p2, p3, p4, p5, p6⟩ := H.cl hc k
      exact bd y p5 (p3.symm.trans z)
    · obtain ⟨-, x, y, p0, p1, p2, p3, p4, p5⟩ := H.mk hc k
      exact bd y p5 (p3.symm.trans z)
/-- no mark can be reached from c -/
def PL (kc lc rc : Nat → Int32) (c : Nat) : Prop := ∀ x, RCH kc lc rc (fun y => y = c) x → ¬ kc x = 4
theorem PL.mk {kc lc rc : Nat → Int32} {c : Nat} (h4 : ¬ kc c = 4) (h : ∀ a, EDG kc lc rc c a → PL kc lc rc a) : PL kc lc rc c := fun x hx => by
  have := hx (fun x => x = c ∨ ∃ a, EDG kc lc rc c a ∧ RCH kc lc rc (fun y => y = a) x) (fun r hr => Or.inl hr) (fun u v hu he => by
    rcases hu with hu | ⟨a, a1, a2⟩
    · subst hu; exact Or.inr ⟨v, he, RCH.root rfl⟩
    · exact Or.inr ⟨a, a1, a2.go he⟩)
  rcases this with z | ⟨a, a1, a2⟩
  · rw [z]; exact h4
  · exact h a a1 x a2
theorem PL.edg {kc lc rc : Nat → Int32} {c a : Nat} (h : PL kc lc rc c) (e : EDG kc lc rc c a) : PL kc lc rc a := fun x hx => h x (hx _ (fun r hr => by rw [hr]; exact (RCH.root (R := fun y => y = c) rfl).go e) (fun u v hu he => hu.go he))
theorem PL.atom {kc lc rc : Nat → Int32} {c : Nat} (h : kc c = 0 ∨ kc c = 1) : PL kc lc rc c := PL.mk (by rcases h with h | h <;> rw [h] <;> decide) (fun a e => by
  rcases h with h | h <;> rcases e.2 with ⟨k, -⟩ | ⟨k | k, -⟩ <;> exact absurd (h.symm.trans k) (by decide))
theorem PL.l {kc lc rc : Nat → Int32} {sz f c a : Nat} {fre : Nat → Int32} (hs : sz ≤ 200) (ha : US sz f fre a) (k : kc c = 2) (l : lc c = nI a) (p : PL kc lc rc c) : PL kc lc rc a := p.edg ⟨by have := ha.1; omega, Or.inl ⟨k, Or.inl l⟩⟩
theorem PL.r {kc lc rc : Nat → Int32} {sz f c a : Nat} {fre : Nat → Int32} (hs : sz ≤ 200) (ha : US sz f fre a) (k : kc c = 2) (l : rc c = nI a) (p : PL kc lc rc c) : PL kc lc rc a := p.edg ⟨by have := ha.1; omega, Or.inl ⟨k, Or.inr l⟩⟩
theorem PL.pair {kc lc rc : Nat → Int32} {c a b : Nat} (k : kc c = 2) (l : lc c = nI a) (r : rc c = nI b) (ha : a < 200) (hb : b < 200) (pa : PL kc lc rc a) (pb : PL kc lc rc b) : PL kc lc rc c := PL.mk (by rw [k]; decide) (fun x e => by
  rcases e.2 with ⟨-, z | z⟩ | ⟨y | y, z⟩
  · rw [(nI_eq (b := a) (by have := e.1; omega) (by omega)).mp (z.symm.trans l)]; exact pa
  · rw [(nI_eq (b := b) (by have := e.1; omega) (by omega)).mp (z.symm.trans r)]; exact pb
  · exact absurd (k.symm.trans y) (by decide)
  · exact absurd (k.symm.trans y) (by decide))
theorem PL.clo {kc lc rc : Nat → Int32} {c b : Nat} (k : kc c = 3) (r : rc c = nI b) (hb : b < 200) (pb : PL kc lc rc b) : PL kc lc rc c := PL.mk (by rw [k]; decide) (fun x e => by
  rcases e.2 with ⟨y, -⟩ | ⟨y | y, z⟩
  · exact absurd (k.symm.trans y) (by decide)
  · rw [(nI_eq (b := b) (by have := e.1; omega) (by omega)).mp (z.symm.trans r)]; exact pb
  · exact absurd (k.symm.trans y) (by decide))
theorem PL.cenv {kc lc rc : Nat → Int32} {c b : Nat} (k : kc c = 3) (r : rc c = nI b) (hb : b < 200) (p : PL kc lc rc c) : PL kc lc rc b := p.edg ⟨hb, Or.inr ⟨Or.inl k, r⟩⟩
section
variable {sz f : Nat} {fre kc lc rc tk km lm rm kc1 lc1 rc1 km1 lm1 rm1 : Nat → Int32} {π π1 : Nat → Nat} {G : Nat → Prop}
theorem PL.ext {U' : Nat → Prop} (H : HP sz f fre kc lc rc tk km lm rm π G) (X : EXT (US sz f fre) U' π π1 kc lc rc km lm rm kc1 lc1 rc1 km1 lm1 rm1) {c : Nat} (hc : US sz f fre c) (p : PL kc lc rc c) : PL kc1 lc1 rc1 c := fun x hx => by
  have := hx (fun x => US sz f fre x ∧ RCH kc lc rc (fun y => y = c) x) (fun r hr => by rw [hr]; exact ⟨hc, RCH.root rfl⟩) (fun u v hu he => by
    obtain ⟨-, -, x1, x2, x3, -⟩ := X u hu.1
    have e : EDG kc lc rc u v := by
      unfold EDG at he ⊢
      rw [x1, x2, x3] at he
      exact he
    exact ⟨H.edg hu.1 e, hu.2.go e⟩)
  obtain ⟨-, -, x1, -⟩ := X x this.1
  rw [x1]
  exact p x this.2
/-- the head or the tail of what may be no pair -/
theorem PL.h {Z : Prop} (H : HP sz f fre kc lc rc tk km lm rm π G) {c a : Nat} (ha : US sz f fre a) (h1 : kc c = 2 → lc c = nI a ∧ Z) (h2 : ¬ kc c = 2 → a = 0) (p : PL kc lc rc c) : PL kc lc rc a := by
  by_cases k : kc c = 2
  · exact p.l H.2.1 ha k (h1 k).1
  · rw [h2 k]; exact PL.atom (Or.inr (H.nil (c := 0) (by omega)).2.2)
theorem PL.t {Z : Prop} (H : HP sz f fre kc lc rc tk km lm rm π G) {c a : Nat} (ha : US sz f fre a) (h1 : kc c = 2 → rc c = nI a ∧ Z) (h2 : ¬ kc c = 2 → a = 0) (p : PL kc lc rc c) : PL kc lc rc a := by
  by_cases k : kc c = 2
  · exact p.r H.2.1 ha k (h1 k).1
  · rw [h2 k]; exact PL.atom (Or.inr (H.nil (c := 0) (by omega)).2.2)
/-- from what pairs hold on the left, and from what closures hold, no mark can be reached -/
def PH (U : Nat → Prop) (kc lc rc : Nat → Int32) : Prop := ∀ c a, U c → a < 200 → ((kc c = 2 ∧ lc c = nI a) ∨ (kc c = 3 ∧ rc c = nI a)) → PL kc lc rc a
theorem US.back {c x : Nat} (hs : sz ≤ 200) (h : US sz f fre c) (n : ¬ US sz (f + 1) fre c) (hx : US sz f fre x) : US sz (f + 1) fre x ∨ x = c := by
  by_cases e : US sz (f + 1) fre x
  · exact Or.inl e
  · have g : ∀ y, US sz f fre y → ¬ US sz (f + 1) fre y → fre f = nI y := fun y hy ny => Classical.byContradiction fun z => ny ⟨hy.1, fun i hi => by
      by_cases e2 : i = f
      · rw [e2]; exact z
      · exact hy.2 i (by omega)⟩
    exact Or.inr ((nI_eq (by have := hx.1; omega) (by have := h.1; omega)).mp ((g x hx e).symm.trans (g c h n)))
theorem PH.add (H : HP sz (f + 1) fre kc lc rc tk km lm rm π G) (X : EXT (US sz (f + 1) fre) (US sz f fre) π π1 kc lc rc km lm rm kc1 lc1 rc1 km1 lm1 rm1) {c : Nat} (h3 : US sz f fre c) (h4 : ¬ US sz (f + 1) fre c) (ph : PH (US sz (f + 1) fre) kc lc rc) (hn : ∀ a, a < 200 → ((kc1 c = 2 ∧ lc1 c = nI a) ∨ (kc1 c = 3 ∧ rc1 c = nI a)) → PL kc1 lc1 rc1 a) : PH (US sz f fre) kc1 lc1 rc1 := fun x a hx ha h => by
  rcases US.back H.2.1 h3 h4 hx with z | z
  · obtain ⟨-, -, x1, x2, x3, -⟩ := X x z
    rw [x1, x2, x3] at h
    have e : EDG kc lc rc x a := ⟨ha, by
      rcases h with ⟨k, l⟩ | ⟨k, l⟩
      · exact Or.inl ⟨k, Or.inl l⟩
      · exact Or.inr ⟨Or.inl k, l⟩⟩
    exact PL.ext H X (H.edg z e) (ph x a z ha h)
  · subst z; exact hn a ha h
theorem PH.pair (H : HP sz (f + 1) fre kc lc rc tk km lm rm π G) (X : EXT (US sz (f + 1) fre) (US sz f fre) π π1 kc lc rc km lm rm kc1 lc1 rc1 km1 lm1 rm1) {c a b : Nat} (h3 : US sz f fre c) (h4 : ¬ US sz (f + 1) fre c) (h5 : kc1 c = 2) (h6 : lc1 c = nI a) (h7 : rc1 c = nI b) (ha : US sz (f + 1) fre a) (hb : US sz (f + 1) fre b) (ph : PH (US sz (f + 1) fre) kc lc rc) (pa : PL kc lc rc a) : PH (US sz f fre) kc1 lc1 rc1 ∧ (PL kc lc rc b → PL kc1 lc1 rc1 c) := by
  have la := H.lt ha
  have lb := H.lt hb
  refine ⟨PH.add H X h3 h4 ph (fun x hx z => ?_), fun pb => PL.pair h5 h6 h7 (by omega) (by omega) (PL.ext H X ha pa) (PL.ext H X hb pb)⟩
  rcases z with ⟨-, z⟩ | ⟨z, -⟩
  · rw [(nI_eq (by omega) (by omega)).mp (z.symm.trans h6)]
    exact PL.ext H X ha pa
  · exact absurd (h5.symm.trans z) (by decide)
theorem PH.clo (H : HP sz (f + 1) fre kc lc rc tk km lm rm π G) (X : EXT (US sz (f + 1) fre) (US sz f fre) π π1 kc lc rc km lm rm kc1 lc1 rc1 km1 lm1 rm1) {c b : Nat} (h3 : US sz f fre c) (h4 : ¬ US sz (f + 1) fre c) (h5 : kc1 c = 3) (h7 : rc1 c = nI b) (hb : US sz (f + 1) fre b) (ph : PH (US sz (f + 1) fre) kc lc rc) (pb : PL kc lc rc b) : PH (US sz f fre) kc1 lc1 rc1 ∧ PL kc1 lc1 rc1 c := by
  have lb := H.lt hb
  refine ⟨PH.add H X h3 h4 ph (fun x hx z => ?_), PL.clo h5 h7 (by omega) (PL.ext H X hb pb)⟩
  rcases z with ⟨z, -⟩ | ⟨-, z⟩
  · exact absurd (h5.symm.trans z) (by decide)
  · rw [(nI_eq (by omega) (by omega)).mp (z.symm.trans h7)]
    exact PL.ext H X hb pb
theorem PH.oth (H : HP sz (f + 1) fre kc lc rc tk km lm rm π G) (X : EXT (US sz (f + 1) fre) (US sz f fre) π π1 kc lc rc km lm rm kc1 lc1 rc1 km1 lm1 rm1) {c : Nat} (h3 : US sz f fre c) (h4 : ¬ US sz (f + 1) fre c) (h5 : kc1 c = 0 ∨ kc1 c = 4) (ph : PH (US sz (f + 1) fre) kc lc rc) : PH (US sz f fre) kc1 lc1 rc1 := PH.add H X h3 h4 ph (fun x hx z => by
  rcases h5 with h5 | h5 <;> rcases z with ⟨z, -⟩ | ⟨z, -⟩ <;> exact absurd (h5.symm.trans z) (by decide))
end
theorem PL.setl {kc lc rc : Nat → Int32} {p v c : Nat} (hk : kc p = 2) (hv : v < 200) (pv : PL kc lc rc v) (h : PL kc lc rc c) : PL kc (upd lc p (nI v)) rc c := fun x hx => by
  have := hx (fun x => PL kc lc rc x) (fun r hr => by rw [hr]; exact h) (fun u w hu he => by
    by_cases e : u = p
    · rcases he.2 with ⟨k, z | z⟩ | ⟨k, z⟩
      · rw [e, pk_us] at z
        rw [← (nI_eq (by omega) (by have := he.1; omega)).mp z]
        exact pv
      · exact hu.edg ⟨he.1, Or.inl ⟨k, Or.inr z⟩⟩
      · exact hu.edg ⟨he.1, Or.inr ⟨k, z⟩⟩
    · refine hu.edg ⟨he.1, ?_⟩
      have h2 := he.2
      rw [pk_un e] at h2
      exact h2)
  exact this x (RCH.root rfl)
theorem PH.setl {U : Nat → Prop} {kc lc rc : Nat → Int32} {p v : Nat} (hk : kc p = 2) (hv : v < 200) (pv : PL kc lc rc v) (h : PH U kc lc rc) : PH U kc (upd lc p (nI v)) rc := fun c a hc ha z => by
  refine PL.setl hk hv pv ?_
  by_cases e : c = p
  · rcases z with ⟨k, z⟩ | ⟨k, z⟩
    · rw [e, pk_us] at z
      rw [← (nI_eq (by omega) (by omega)).mp z]
      exact pv
    · rw [e, hk] at k; exact absurd k (by decide)
  · rw [pk_un e] at z
    exact h c a hc ha z
/-- along the rights of pairs and marks no closure comes -/
def RG (kc rc : Nat → Int32) (c a : Nat) : Prop := a < 200 ∧ (kc c = 2 ∨ kc c = 4) ∧ rc c = nI a
def NC (kc rc : Nat → Int32) (c : Nat) : Prop := ∃ Y : Nat → Prop, Y c ∧ ∀ x, Y x → ¬ kc x = 3 ∧ ∀ a, RG kc rc x a → Y a
theorem NC.edg {kc rc : Nat → Int32} {c a : Nat} (h : NC kc rc c) (e : RG kc rc c a) : NC kc rc a := by
  obtain ⟨Y, y1, y2⟩ := h
  exact ⟨Y, (y2 c y1).2 a e, y2⟩
theorem NC.no {kc rc : Nat → Int32} {c : Nat} (h : NC kc rc c) : ¬ kc c = 3 := by
  obtain ⟨Y, y1, y2⟩ := h
  exact (y2 c y1).1
theorem NC.mk {kc rc : Nat → Int32} {c : Nat} (h3 : ¬ kc c = 3) (h : ∀ a, RG kc rc c a → NC kc rc a) : NC kc rc c := by
  refine ⟨fun x => x = c ∨ NC kc rc x, Or.inl rfl, fun x hx => ?_⟩
  rcases hx with z | z
  · rw [z]; exact ⟨h3, fun a ha => Or.inr (h a ha)⟩
  · exact ⟨z.no, fun a ha => Or.inr (z.edg ha)⟩
theorem NC.one {kc rc : Nat → Int32} {c b : Nat} (hk : kc c = 2 ∨ kc c = 4) (hr : rc c = nI b) (hb : b < 200) (h : NC kc rc b) : NC kc rc c := NC.mk (by rcases hk with k | k <;> rw [k] <;> decide) (fun a ha => by
  rw [(nI_eq (by have := ha.1; omega) (by omega)).mp (ha.2.2.symm.trans hr)]
  exact h)
theorem NC.ext {sz f : Nat} {fre kc lc rc tk km lm rm kc1 lc1 rc1 km1 lm1 rm1 : Nat → Int32} {π π1 : Nat → Nat} {G U' : Nat → Prop} (H : HP sz f fre kc lc rc tk km lm rm π G) (X : EXT (US sz f fre) U' π π1 kc lc rc km lm rm kc1 lc1 rc1 km1 lm1 rm1) {c : Nat} (hc : US sz f fre c) (h : NC kc rc c) : NC kc1 rc1 c := by
  obtain ⟨Y, y1, y2⟩ := h
  refine ⟨fun x => Y x ∧ US sz f fre x, ⟨y1, hc⟩, fun x hx => ?_⟩
  obtain ⟨-, -, x1, -, x3, -⟩ := X x hx.2
  refine ⟨by rw [x1]; exact (y2 x hx.1).1, fun a ha => ?_⟩
  obtain ⟨a1, a2, a3⟩ := ha
  rw [x1] at a2
  rw [x3] at a3
  exact ⟨(y2 x hx.1).2 a ⟨a1, a2, a3⟩, H.edg hx.2 ⟨a1, by
    rcases a2 with k | k
    · exact Or.inl ⟨k, Or.inr a3⟩
    · exact Or.inr ⟨Or.inr k, a3⟩⟩⟩
/-- S, E and D as the code at pc wants them -/
def TYP (cd : Nat → Nat × Nat × Nat) (n nco : Nat) (U : Nat → Prop) (kc lc rc : Nat → Int32) (s e d pc : Nat) : Prop := ∃ (ρ : Nat → Prop) (h q : Nat) (js : List Nat) (fn rap : Bool) (k : Nat), GOOD cd n nco pc h q js fn rap ∧ SH U kc rc s h ∧ EH U ρ kc rc e q ∧ DD cd n nco U ρ kc lc rc k d js fn ∧ (rap = true → ∃ c, c < 200 ∧ lc s = nI c ∧ U c ∧ kc c = 3 ∧ rc c = nI e ∧ kc s = 2) ∧ PH U kc lc rc ∧ PL kc lc rc s ∧ PL kc lc rc e
