/-! both take a cell: the rows behind are left unsaid but for what is known of them -/
def EXT (U U' : Nat → Prop) (π π' : Nat → Nat) (kc lc rc km lm rm kc' lc' rc' km' lm' rm' : Nat → Int32) : Prop := ∀ x, U x → U' x ∧ π' x = π x ∧ kc' x = kc x ∧ lc' x = lc x ∧ rc' x = rc x ∧ km' (π x) = km (π x) ∧ lm' (π x) = lm (π x) ∧ rm' (π x) = rm (π x)
theorem EXT.refl {U : Nat → Prop} {π : Nat → Nat} {kc lc rc km lm rm : Nat → Int32} : EXT U U π π kc lc rc km lm rm kc lc rc km lm rm := fun x h => ⟨h, rfl, rfl, rfl, rfl, rfl, rfl, rfl⟩
theorem EXT.trans {U U' U2 : Nat → Prop} {π π' π2 : Nat → Nat} {kc lc rc km lm rm kc' lc' rc' km' lm' rm' kc2 lc2 rc2 km2 lm2 rm2 : Nat → Int32} (h : EXT U U' π π' kc lc rc km lm rm kc' lc' rc' km' lm' rm') (h2 : EXT U' U2 π' π2 kc' lc' rc' km' lm' rm' kc2 lc2 rc2 km2 lm2 rm2) : EXT U U2 π π2 kc lc rc km lm rm kc2 lc2 rc2 km2 lm2 rm2 := fun x hx => by
  obtain ⟨a1, a2, a3, a4, a5, a6, a7, a8⟩ := h x hx
  obtain ⟨b1, b2, b3, b4, b5, b6, b7, b8⟩ := h2 x a1
  rw [a2] at b6 b7 b8
  exact ⟨b1, b2.trans a2, b3.trans a3, b4.trans a4, b5.trans a5, b6.trans a6, b7.trans a7, b8.trans a8⟩
section
variable {sz f : Nat} {fre kc lc rc tk km lm rm : Nat → Int32} {π : Nat → Nat} {G : Nat → Prop}
theorem HP.take (h : HP sz (f + 1) fre kc lc rc tk km lm rm π G) (k l r k' l' r' : Int32) (hc : ∀ (c c' : Nat), (∀ x, US sz (f + 1) fre x → US sz f fre x ∧ updN π c c' x = π x) → CELL (updN π c c') (US sz f fre) G (upd kc c k) (upd lc c l) (upd rc c r) (upd km c' k') (upd lm c' l') (upd rm c' r') c) :
    ∃ (c : Nat) (kc1 lc1 rc1 tk1 km1 lm1 rm1 : Nat → Int32) (π1 : Nat → Nat), HP sz f fre kc1 lc1 rc1 tk1 km1 lm1 rm1 π1 G ∧ EXT (US sz (f + 1) fre) (US sz f fre) π π1 kc lc rc km lm rm kc1 lc1 rc1 km1 lm1 rm1 ∧ US sz f fre c ∧ ¬ US sz (f + 1) fre c ∧ kc1 c = k ∧ lc1 c = l ∧ rc1 c = r ∧
      (∀ (post : Int32 → Int32 → (Nat → Int32) → (Nat → Int32) → (Nat → Int32) → Prop), post (nI c) (nI f) kc1 lc1 rc1 → wp_Memory_take sz sz sz sz (nI (f + 1)) fre kc lc rc k l r post) ∧
      (∀ (us : Int32) (post : Int32 → Int32 → (Nat → Int32) → (Nat → Int32) → (Nat → Int32) → (Nat → Int32) → Prop), post (nI (π1 c)) (us + 1) km1 lm1 rm1 tk1 → wp_Model_make (nI sz) us km lm rm tk k' l' r' post) := by
  obtain ⟨c, c', n1, n2, n3, n4, n5, n6, n7, n8, n9⟩ := h.alloc
  refine ⟨c, upd kc c k, upd lc c l, upd rc c r, upd tk c' 1, upd km c' k', upd lm c' l', upd rm c' r', updN π c c', n9 k l r k' l' r' (hc c c' (fun x hx => ⟨(n5 x hx).1, (n5 x hx).2.1⟩)), fun x hx => ?_, n4, n1, pk_us, pk_us, pk_us, fun post hp => n7 k l r post hp, fun us post hp => n8 us k' l' r' post (by rw [un_s] at hp; exact hp)⟩
  obtain ⟨m1, m2, m3, m4⟩ := n5 x hx
  exact ⟨m1, m2, pk_un m3, pk_un m3, pk_un m3, pk_un m4, pk_un m4, pk_un m4⟩
theorem HP.pair (h : HP sz (f + 1) fre kc lc rc tk km lm rm π G) {a b : Nat} (ha : US sz (f + 1) fre a) (hb : US sz (f + 1) fre b) :
    ∃ (c : Nat) (kc1 lc1 rc1 tk1 km1 lm1 rm1 : Nat → Int32) (π1 : Nat → Nat), HP sz f fre kc1 lc1 rc1 tk1 km1 lm1 rm1 π1 G ∧ EXT (US sz (f + 1) fre) (US sz f fre) π π1 kc lc rc km lm rm kc1 lc1 rc1 km1 lm1 rm1 ∧ US sz f fre c ∧ ¬ US sz (f + 1) fre c ∧ kc1 c = 2 ∧ lc1 c = nI a ∧ rc1 c = nI b ∧
      (∀ (post : Int32 → Int32 → (Nat → Int32) → (Nat → Int32) → (Nat → Int32) → Prop), post (nI c) (nI f) kc1 lc1 rc1 → wp_Memory_take sz sz sz sz (nI (f + 1)) fre kc lc rc 2 (nI a) (nI b) post) ∧
      (∀ (us : Int32) (post : Int32 → Int32 → (Nat → Int32) → (Nat → Int32) → (Nat → Int32) → (Nat → Int32) → Prop), post (nI (π1 c)) (us + 1) km1 lm1 rm1 tk1 → wp_Model_make (nI sz) us km lm rm tk 3 (nI (π a)) (nI (π b)) post) :=
  h.take 2 (nI a) (nI b) 3 (nI (π a)) (nI (π b)) (fun c c' hx => Or.inr (Or.inr (Or.inl ⟨pk_us, by rw [un_s, pk_us], a, b, pk_us, pk_us, by rw [un_s, pk_us, (hx a ha).2], by rw [un_s, pk_us, (hx b hb).2], (hx a ha).1, (hx b hb).1⟩)))
theorem HP.num (h : HP sz (f + 1) fre kc lc rc tk km lm rm π G) (v : Int32) :
    ∃ (c : Nat) (kc1 lc1 rc1 tk1 km1 lm1 rm1 : Nat → Int32) (π1 : Nat → Nat), HP sz f fre kc1 lc1 rc1 tk1 km1 lm1 rm1 π1 G ∧ EXT (US sz (f + 1) fre) (US sz f fre) π π1 kc lc rc km lm rm kc1 lc1 rc1 km1 lm1 rm1 ∧ US sz f fre c ∧ ¬ US sz (f + 1) fre c ∧ kc1 c = 0 ∧ lc1 c = v ∧ rc1 c = 0 ∧
      (∀ (post : Int32 → Int32 → (Nat → Int32) → (Nat → Int32) → (Nat → Int32) → Prop), post (nI c) (nI f) kc1 lc1 rc1 → wp_Memory_take sz sz sz sz (nI (f + 1)) fre kc lc rc 0 v 0 post) ∧
      (∀ (us : Int32) (post : Int32 → Int32 → (Nat → Int32) → (Nat → Int32) → (Nat → Int32) → (Nat → Int32) → Prop), post (nI (π1 c)) (us + 1) km1 lm1 rm1 tk1 → wp_Model_make (nI sz) us km lm rm tk 1 v 0 post) :=
  h.take 0 v 0 1 v 0 (fun c c' hx => Or.inl ⟨pk_us, by rw [un_s, pk_us], by rw [un_s, pk_us, pk_us]⟩)
theorem HP.name (h : HP sz (f + 1) fre kc lc rc tk km lm rm π G) {v w : Int32} (hn : nameR v w) :
    ∃ (c : Nat) (kc1 lc1 rc1 tk1 km1 lm1 rm1 : Nat → Int32) (π1 : Nat → Nat), HP sz f fre kc1 lc1 rc1 tk1 km1 lm1 rm1 π1 G ∧ EXT (US sz (f + 1) fre) (US sz f fre) π π1 kc lc rc km lm rm kc1 lc1 rc1 km1 lm1 rm1 ∧ US sz f fre c ∧ ¬ US sz (f + 1) fre c ∧ kc1 c = 1 ∧ lc1 c = v ∧ rc1 c = 0 ∧
      (∀ (post : Int32 → Int32 → (Nat → Int32) → (Nat → Int32) → (Nat → Int32) → Prop), post (nI c) (nI f) kc1 lc1 rc1 → wp_Memory_take sz sz sz sz (nI (f + 1)) fre kc lc rc 1 v 0 post) ∧
      (∀ (us : Int32) (post : Int32 → Int32 → (Nat → Int32) → (Nat → Int32) → (Nat → Int32) → (Nat → Int32) → Prop), post (nI (π1 c)) (us + 1) km1 lm1 rm1 tk1 → wp_Model_make (nI sz) us km lm rm tk 2 w 0 post) :=
  h.take 1 v 0 2 w 0 (fun c c' hx => Or.inr (Or.inl ⟨pk_us, by rw [un_s, pk_us], by rw [un_s, pk_us, pk_us]; exact hn⟩))
theorem HP.clo (h : HP sz (f + 1) fre kc lc rc tk km lm rm π G) {a b : Nat} (ha : a < 512) (hg : G a) (hb : US sz (f + 1) fre b) :
    ∃ (c : Nat) (kc1 lc1 rc1 tk1 km1 lm1 rm1 : Nat → Int32) (π1 : Nat → Nat), HP sz f fre kc1 lc1 rc1 tk1 km1 lm1 rm1 π1 G ∧ EXT (US sz (f + 1) fre) (US sz f fre) π π1 kc lc rc km lm rm kc1 lc1 rc1 km1 lm1 rm1 ∧ US sz f fre c ∧ ¬ US sz (f + 1) fre c ∧ kc1 c = 3 ∧ lc1 c = nI a ∧ rc1 c = nI b ∧
      (∀ (post : Int32 → Int32 → (Nat → Int32) → (Nat → Int32) → (Nat → Int32) → Prop), post (nI c) (nI f) kc1 lc1 rc1 → wp_Memory_take sz sz sz sz (nI (f + 1)) fre kc lc rc 3 (nI a) (nI b) post) ∧
      (∀ (us : Int32) (post : Int32 → Int32 → (Nat → Int32) → (Nat → Int32) → (Nat → Int32) → (Nat → Int32) → Prop), post (nI (π1 c)) (us + 1) km1 lm1 rm1 tk1 → wp_Model_make (nI sz) us km lm rm tk 4 (nI a) (nI (π b)) post) :=
  h.take 3 (nI a) (nI b) 4 (nI a) (nI (π b)) (fun c c' hx => Or.inr (Or.inr (Or.inr (Or.inl ⟨pk_us, by rw [un_s, pk_us], a, b, ha, pk_us, by rw [un_s, pk_us], pk_us, by rw [un_s, pk_us, (hx b hb).2], (hx b hb).1, hg⟩))))
theorem HP.mark (h : HP sz (f + 1) fre kc lc rc tk km lm rm π G) {a b : Nat} (ha : a < 512) (hb : US sz (f + 1) fre b) :
    ∃ (c : Nat) (kc1 lc1 rc1 tk1 km1 lm1 rm1 : Nat → Int32) (π1 : Nat → Nat), HP sz f fre kc1 lc1 rc1 tk1 km1 lm1 rm1 π1 G ∧ EXT (US sz (f + 1) fre) (US sz f fre) π π1 kc lc rc km lm rm kc1 lc1 rc1 km1 lm1 rm1 ∧ US sz f fre c ∧ ¬ US sz (f + 1) fre c ∧ kc1 c = 4 ∧ lc1 c = nI a ∧ rc1 c = nI b ∧
      (∀ (post : Int32 → Int32 → (Nat → Int32) → (Nat → Int32) → (Nat → Int32) → Prop), post (nI c) (nI f) kc1 lc1 rc1 → wp_Memory_take sz sz sz sz (nI (f + 1)) fre kc lc rc 4 (nI a) (nI b) post) ∧
      (∀ (us : Int32) (post : Int32 → Int32 → (Nat → Int32) → (Nat → Int32) → (Nat → Int32) → (Nat → Int32) → Prop), post (nI (π1 c)) (us + 1) km1 lm1 rm1 tk1 → wp_Model_make (nI sz) us km lm rm tk 5 (nI a) (nI (π b)) post) :=
  h.take 4 (nI a) (nI b) 5 (nI a) (nI (π b)) (fun c c' hx => Or.inr (Or.inr (Or.inr (Or.inr ⟨pk_us, by rw [un_s, pk_us], a, b, ha, pk_us, by rw [un_s, pk_us], pk_us, by rw [un_s, pk_us, (hx b hb).2], (hx b hb).1⟩))))
/-! what both see of a cell in use -/
theorem HP.lt (h : HP sz f fre kc lc rc tk km lm rm π G) {c : Nat} (hc : US sz f fre c) : c < sz ∧ π c < sz ∧ sz ≤ 200 := ⟨hc.1, (h.2.2.2.2.2.1 c hc).1, h.2.1⟩
theorem HP.kind (h : HP sz f fre kc lc rc tk km lm rm π G) {c : Nat} (hc : US sz f fre c) : ∃ k : Nat, k ≤ 4 ∧ kc c = nI k ∧ km (π c) = nI (k + 1) := by
  rcases (h.2.2.2.2.2.1 c hc).2.2 with z | z | z | z | z
  · exact ⟨0, by omega, z.1, z.2.1⟩
  · exact ⟨1, by omega, z.1, z.2.1⟩
  · exact ⟨2, by omega, z.1, z.2.1⟩
  · exact ⟨3, by omega, z.1, z.2.1⟩
  · exact ⟨4, by omega, z.1, z.2.1⟩
theorem HP.pr (h : HP sz f fre kc lc rc tk km lm rm π G) {c : Nat} (hc : US sz f fre c) (hk : kc c = 2) : km (π c) = 3 ∧ ∃ a b, lc c = nI a ∧ rc c = nI b ∧ lm (π c) = nI (π a) ∧ rm (π c) = nI (π b) ∧ US sz f fre a ∧ US sz f fre b := by
  rcases (h.2.2.2.2.2.1 c hc).2.2 with z | z | z | z | z
  · exact absurd (hk.symm.trans z.1) (by decide)
  · exact absurd (hk.symm.trans z.1) (by decide)
  · exact z.2
  · exact absurd (hk.symm.trans z.1) (by decide)
  · exact absurd (hk.symm.trans z.1) (by decide)
theorem HP.cl (h : HP sz f fre kc lc rc tk km lm rm π G) {c : Nat} (hc : US sz f fre c) (hk : kc c = 3) : km (π c) = 4 ∧ ∃ a b, a < 512 ∧ lc c = nI a ∧ lm (π c) = nI a ∧ rc c = nI b ∧ rm (π c) = nI (π b) ∧ US sz f fre b ∧ G a := by
  rcases (h.2.2.2.2.2.1 c hc).2.2 with z | z | z | z | z
  · exact absurd (hk.symm.trans z.1) (by decide)
  · exact absurd (hk.symm.trans z.1) (by decide)
  · exact absurd (hk.symm.trans z.1) (by decide)
  · exact z.2
  · exact absurd (hk.symm.trans z.1) (by decide)
theorem HP.mk (h : HP sz f fre kc lc rc tk km lm rm π G) {c : Nat} (hc : US sz f fre c) (hk : kc c = 4) : km (π c) = 5 ∧ ∃ a b, a < 512 ∧ lc c = nI a ∧ lm (π c) = nI a ∧ rc c = nI b ∧ rm (π c) = nI (π b) ∧ US sz f fre b := by
  rcases (h.2.2.2.2.2.1 c hc).2.2 with z | z | z | z | z
  · exact absurd (hk.symm.trans z.1) (by decide)
  · exact absurd (hk.symm.trans z.1) (by decide)
  · exact absurd (hk.symm.trans z.1) (by decide)
  · exact absurd (hk.symm.trans z.1) (by decide)
  · exact z.2
theorem HP.nil (h : HP sz f fre kc lc rc tk km lm rm π G) {c : Nat} (hc : c < 3) : US sz f fre c ∧ π c = c ∧ kc c = 1 := h.2.2.2.2.2.2.2.2 c hc
theorem HP.inj (h : HP sz f fre kc lc rc tk km lm rm π G) {c c' : Nat} (hc : US sz f fre c) (hc' : US sz f fre c') (e : π c = π c') : c = c' := h.2.2.2.2.2.2.1 c c' hc hc' e
/-- the head and the tail of any cell, the class's way -/
theorem HP.head (h : HP sz f fre kc lc rc tk km lm rm π G) {c : Nat} (hc : US sz f fre c) : ∃ a, US sz f fre a ∧ (kc c = 2 → lc c = nI a ∧ lm (π c) = nI (π a)) ∧ (¬ kc c = 2 → a = 0) ∧ ∀ post : Int32 → Prop, post (nI a) → wp_Memory_headOf sz sz kc lc (nI c) post := by
  obtain ⟨l1, l2, l3⟩ := h.lt hc
  have v : vp_in (nI c) sz := vp_in_nI l1 (by omega)
  by_cases hk : kc c = 2
  · obtain ⟨-, a, b, p1, p2, p3, p4, p5, p6⟩ := h.pr hc hk
    refine ⟨a, p5, fun _ => ⟨p1, p3⟩, fun z => absurd hk z, fun post hp => ?_⟩
    unfold wp_Memory_headOf
    rw [nI_clamp (n := c) (by omega), p1]
    exact ⟨v, fun _ => ⟨v, hp⟩, fun z => absurd hk z⟩
  · refine ⟨0, (h.nil (by omega)).1, fun z => absurd z hk, fun _ => rfl, fun post hp => ?_⟩
    unfold wp_Memory_headOf
    rw [nI_clamp (n := c) (by omega)]
    exact ⟨v, fun z => absurd z hk, fun _ => hp⟩
theorem HP.tail (h : HP sz f fre kc lc rc tk km lm rm π G) {c : Nat} (hc : US sz f fre c) : ∃ a, US sz f fre a ∧ (kc c = 2 → rc c = nI a ∧ rm (π c) = nI (π a)) ∧ (¬ kc c = 2 → a = 0) ∧ ∀ post : Int32 → Prop, post (nI a) → wp_Memory_tailOf sz sz kc rc (nI c) post := by
  obtain ⟨l1, l2, l3⟩ := h.lt hc
  have v : vp_in (nI c) sz := vp_in_nI l1 (by omega)
  by_cases hk : kc c = 2
  · obtain ⟨-, a, b, p1, p2, p3, p4, p5, p6⟩ := h.pr hc hk
    refine ⟨b, p6, fun _ => ⟨p2, p4⟩, fun z => absurd hk z, fun post hp => ?_⟩
    unfold wp_Memory_tailOf
    rw [nI_clamp (n := c) (by omega), p2]
    exact ⟨v, fun _ => ⟨v, hp⟩, fun z => absurd hk z⟩
  · refine ⟨0, (h.nil (by omega)).1, fun z => absurd z hk, fun _ => rfl, fun post hp => ?_⟩
    unfold wp_Memory_tailOf
    rw [nI_clamp (n := c) (by omega)]
    exact ⟨v, fun z => absurd z hk, fun _ => hp⟩
theorem HP.kindOf (h : HP sz f fre kc lc rc tk km lm rm π G) {c : Nat} (hc : US sz f fre c) {post : Int32 → Prop} (hp : post (kc c)) : wp_Memory_kindOf sz kc (nI c) post := by
  obtain ⟨l1, l2, l3⟩ := h.lt hc
  unfold wp_Memory_kindOf
  rw [nI_clamp (n := c) (by omega)]
  exact ⟨vp_in_nI l1 (by omega), hp⟩
theorem HP.isPair (h : HP sz f fre kc lc rc tk km lm rm π G) {c : Nat} (hc : US sz f fre c) {post : Int32 → Prop} (h1 : kc c = 2 → post 1) (h0 : ¬ kc c = 2 → post 0) : wp_Memory_isPair sz kc (nI c) post := by
  obtain ⟨l1, l2, l3⟩ := h.lt hc
  unfold wp_Memory_isPair
  rw [nI_clamp (n := c) (by omega)]
  exact ⟨vp_in_nI l1 (by omega), h1, h0⟩
theorem HP.mpair (h : HP sz f fre kc lc rc tk km lm rm π G) {c : Nat} (hc : US sz f fre c) {post : Int32 → Prop} (h1 : kc c = 2 → post 1) (h0 : ¬ kc c = 2 → post 0) : wp_Model_pair km (nI (π c)) post := by
  obtain ⟨l1, l2, l3⟩ := h.lt hc
  obtain ⟨k, k1, k2, k3⟩ := h.kind hc
  unfold wp_Model_pair
  rw [nI_clamp (n := π c) (by omega), k3]
  refine ⟨vp_in_nI (by omega) (by decide), fun z => h1 ?_, fun z => h0 (fun e => z ?_)⟩
  · have : k + 1 = 3 := (nI_eq (b := 3) (by omega) (by decide)).mp z
    rw [k2, show k = 2 by omega]; rfl
  · have : k = 2 := (nI_eq (b := 2) (by omega) (by decide)).mp (k2.symm.trans e)
    rw [this]; rfl
end
