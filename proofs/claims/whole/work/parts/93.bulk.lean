/-! how many cells a datum takes, both -/
def lst (v : Int32) : Prop := v = 14636 ∨ v = 20 ∨ v = 6
theorem lst_dec (v : Int32) : lst v ∨ ¬ lst v := Classical.em _
noncomputable def nod (K V : Nat → Int32) (kids : Nat → List Nat) (j : Nat) : Nat := if K j = 2 then (kids j).length else if K j = 1 then @ite _ (lst (V j)) (Classical.propDecidable _) 0 1 else 1
noncomputable def cel (K V : Nat → Int32) (kids : Nat → List Nat) : Nat → Nat → Nat
  | 0, _ => 0
  | d + 1, j => nod K V kids j + (if K j = 2 then wsum (cel K V kids d) (kids j) else 0)
theorem nod2 {K V : Nat → Int32} {kids : Nat → List Nat} {j : Nat} (h : K j = 2) : nod K V kids j = (kids j).length := by unfold nod; rw [if_pos h]
theorem nod0 {K V : Nat → Int32} {kids : Nat → List Nat} {j : Nat} (h : K j = 0) : nod K V kids j = 1 := by unfold nod; rw [if_neg (by rw [h]; decide), if_neg (by rw [h]; decide)]
theorem nod1 {K V : Nat → Int32} {kids : Nat → List Nat} {j : Nat} (h : K j = 1) (hl : lst (V j)) : nod K V kids j = 0 := by unfold nod; rw [if_neg (by rw [h]; decide), if_pos h, if_pos hl]
theorem nod1' {K V : Nat → Int32} {kids : Nat → List Nat} {j : Nat} (h : K j = 1) (hl : ¬ lst (V j)) : nod K V kids j = 1 := by unfold nod; rw [if_neg (by rw [h]; decide), if_pos h, if_neg hl]
theorem cel2 {K V : Nat → Int32} {kids : Nat → List Nat} {j d : Nat} (h : K j = 2) : cel K V kids (d + 1) j = (kids j).length + wsum (cel K V kids d) (kids j) := by
  show nod K V kids j + (if K j = 2 then wsum (cel K V kids d) (kids j) else 0) = _
  rw [nod2 h, if_pos h]
theorem celn {K V : Nat → Int32} {kids : Nat → List Nat} {j d : Nat} (h : ¬ K j = 2) : cel K V kids (d + 1) j = nod K V kids j := by
  show nod K V kids j + (if K j = 2 then wsum (cel K V kids d) (kids j) else 0) = _
  rw [if_neg h, Nat.add_zero]
/-- the sum over the indexes from lo up to hi -/
def rsum (g : Nat → Nat) (lo : Nat) : Nat → Nat
  | 0 => 0
  | n + 1 => rsum g lo n + g (lo + n)
theorem rsum_add (g : Nat → Nat) (lo a : Nat) : ∀ c, rsum g lo (a + c) = rsum g lo a + rsum g (lo + a) c
  | 0 => rfl
  | c + 1 => by
    show rsum g lo (a + c) + g (lo + (a + c)) = rsum g lo a + (rsum g (lo + a) c + g (lo + a + c))
    rw [rsum_add g lo a c, Nat.add_assoc lo a c]
    omega
section
variable {b m q : Nat} {K V F S W C N : Nat → Int32} {kids : Nat → List Nat} {w dp en : Nat → Nat}
theorem en_gt (hT : TC m K V F kids w dp) (hC : CTI m K kids en) : ∀ (d j : Nat), j < m → 13 ≤ d + dp j → j < en j := by
  intro d
  induction d with
  | zero => intro j hj hd; exact absurd (hT.2 j hj).2.1 (by omega)
  | succ d ih =>
    intro j hj hd
    obtain ⟨c1, c2⟩ := hC j hj
    by_cases hk : K j = 2
    · have c3 := c2 hk
      rcases (hT.2 j hj).2.2 with z | z | ⟨-, hd11, hch, hinc, hws, hdk⟩
      · exact absurd (hk.symm.trans z) (by decide)
      · exact absurd (hk.symm.trans z) (by decide)
      have go : ∀ (l : List Nat) (lo : Nat), (∀ c ∈ l, c < m ∧ dp c = dp j + 1) → CONT en lo l (en j) → lo ≤ en j := by
        intro l
        induction l with
        | nil => intro lo _ h; exact Nat.le_of_eq h
        | cons a t ih2 =>
          intro lo hl h
          obtain ⟨h1, h2⟩ := h
          have := ih2 (en a) (fun c hc => hl c (List.mem_cons_of_mem _ hc)) h2
          have := ih a (hl a List.mem_cons_self).1 (by rw [(hl a List.mem_cons_self).2]; omega)
          omega
      have := go (kids j) (j + 1) (fun c hc => ⟨(hinc.mem hc).2, hdk c hc⟩) c3
      omega
    · rw [c1 hk]; omega
theorem cel_sum (hT : TC m K V F kids w dp) (hC : CTI m K kids en) : ∀ (d j : Nat), j < m → 13 ≤ d + dp j → rsum (nod K V kids) j (en j - j) = cel K V kids d j ∧ cel K V kids d j + 1 ≤ 2 * w j := by
  intro d
  induction d with
  | zero => intro j hj hd; exact absurd (hT.2 j hj).2.1 (by omega)
  | succ d ih =>
    intro j hj hd
    obtain ⟨c1, c2⟩ := hC j hj
    obtain ⟨hw1, hdp, hk2⟩ := hT.2 j hj
    by_cases hk : K j = 2
    · have c3 := c2 hk
      rcases hk2 with z | z | ⟨-, hd11, hch, hinc, hws, hdk⟩
      · exact absurd (hk.symm.trans z) (by decide)
      · exact absurd (hk.symm.trans z) (by decide)
      have go : ∀ (l : List Nat) (lo : Nat), (∀ c ∈ l, c < m ∧ dp c = dp j + 1) → CONT en lo l (en j) → lo ≤ en j ∧ rsum (nod K V kids) lo (en j - lo) = wsum (cel K V kids d) l ∧ l.length + wsum (cel K V kids d) l ≤ 2 * wsum w l := by
        intro l
        induction l with
        | nil =>
          intro lo _ h
          have e : lo = en j := h
          rw [e, Nat.sub_self]
          exact ⟨Nat.le_refl _, rfl, Nat.le_refl _⟩
        | cons a t ih2 =>
          intro lo hl h
          obtain ⟨h1, h2⟩ := h
          subst h1
          obtain ⟨a1, a2⟩ := hl a List.mem_cons_self
          obtain ⟨i1, i2, i3⟩ := ih2 (en a) (fun c hc => hl c (List.mem_cons_of_mem _ hc)) h2
          have gt := en_gt hT hC (13 - dp a) a a1 (by have := (hT.2 a a1).2.1; omega)
          obtain ⟨j1, j2⟩ := ih a a1 (by rw [a2]; omega)
          refine ⟨by omega, ?_, ?_⟩
          · rw [show en j - a = (en a - a) + (en j - en a) by omega, rsum_add, show a + (en a - a) = en a by omega, i2, j1]
            rfl
          · show t.length + 1 + (cel K V kids d a + wsum (cel K V kids d) t) ≤ 2 * (w a + wsum w t)
            omega
      obtain ⟨g1, g2, g3⟩ := go (kids j) (j + 1) (fun c hc => ⟨(hinc.mem hc).2, hdk c hc⟩) c3
      have ec : cel K V kids (d + 1) j = (kids j).length + wsum (cel K V kids d) (kids j) := by
        show nod K V kids j + (if K j = 2 then wsum (cel K V kids d) (kids j) else 0) = _
        unfold nod
        rw [if_pos hk, if_pos hk]
      have en1 : nod K V kids j = (kids j).length := by unfold nod; rw [if_pos hk]
      refine ⟨?_, by omega⟩
      rw [ec, show en j - j = 1 + (en j - (j + 1)) by omega, rsum_add, g2, show rsum (nod K V kids) j 1 = nod K V kids j from Nat.zero_add _, en1]
    · have ec : cel K V kids (d + 1) j = nod K V kids j := by
        show nod K V kids j + (if K j = 2 then wsum (cel K V kids d) (kids j) else 0) = _
        rw [if_neg hk, Nat.add_zero]
      have le1 : nod K V kids j ≤ 1 := by
        unfold nod
        rw [if_neg hk]
        split
        · split <;> omega
        · omega
      refine ⟨?_, by omega⟩
      rw [ec, c1 hk, show j + 1 - j = 1 by omega]
      exact Nat.zero_add _
theorem q_lasting {v : Int32} {post : Int32 → Prop} (h1 : lst v → post 1) (h0 : ¬ lst v → post 0) : wp_Names_isLasting v post :=
  ⟨fun z => h1 (Or.inl z), fun z1 => ⟨fun z => h1 (Or.inr (Or.inl z)), fun z2 => ⟨fun z => h1 (Or.inr (Or.inr z)), fun z3 => h0 (fun z => by
    rcases z with z | z | z
    · exact z1 z
    · exact z2 z
    · exact z3 z)⟩⟩⟩
/-- the class counts -/
theorem q_cellsOf2 (hT : TC m K V F kids w dp) (hC : CTI m K kids en) (hw : ∀ j, j < m → w j ≤ 200) : ∀ (d j : Nat) (post : Int32 → Prop), j < m → 13 ≤ d + dp j → post (nI (cel K V kids d j)) → wp_Machine_cellsOf d (nI m) F K V (nI j) post := by
  intro d
  induction d with
  | zero => intro j post hj hd; exact absurd (hT.2 j hj).2.1 (by omega)
  | succ d ih =>
    intro j post hj hd hp
    have hm := hT.1
    obtain ⟨hw1, hdp, hk2⟩ := hT.2 j hj
    have vj : vp_in (nI j) 200 := vp_in_nI (by omega) (by decide)
    have ej : (nI j).toNatClampNeg = j := nI_clamp (by omega)
    unfold wp_Machine_cellsOf wp_Machine_cellsOf_body wp_Datum_kindOf wp_Datum_valueOf wp_Datum_firstPartOf
    rw [ej]
    rcases hk2 with hk | hk | ⟨hk, hd11, hch, hinc, hws, hdk⟩
    · rw [celn (by rw [hk]; decide), nod0 hk] at hp
      rw [hk]
      exact ⟨vj, fun _ => hp, fun z => absurd rfl z⟩
    · rw [celn (by rw [hk]; decide)] at hp
      have fin : wp_Names_isLasting (V j) (fun r_11 => ((r_11 = 0 → (post (1 : Int32))) ∧ (¬ r_11 = 0 → (post (0 : Int32))))) := q_lasting (fun z => ⟨fun y => absurd y (by decide), fun _ => by rw [nod1 hk z] at hp; exact hp⟩) (fun z => ⟨fun _ => by rw [nod1' hk z] at hp; exact hp, fun y => absurd rfl y⟩)
      rw [hk]
      exact ⟨vj, fun z => absurd z (by decide), fun _ => ⟨vj, fun _ => ⟨vj, fin⟩, fun z => absurd rfl z⟩⟩
    · rw [cel2 hk] at hp
      rw [hk]
      have bd : ∀ (t : List Nat), (∀ c ∈ t, c ∈ kids j) → wsum (cel K V kids d) t ≤ 2 * wsum w t := by
        intro t
        induction t with
        | nil => intro _; exact Nat.le_refl _
        | cons a t ih2 =>
          intro ht
          have h1 := ih2 (fun c hc => ht c (List.mem_cons_of_mem _ hc))
          have ha := ht a List.mem_cons_self
          have h2 := (cel_sum hT hC d a (hinc.mem ha).2 (by rw [hdk a ha]; omega)).2
          show cel K V kids d a + wsum (cel K V kids d) t ≤ 2 * (w a + wsum w t)
          omega
      have hwj := hw j hj
      have hlen : (kids j).length ≤ 200 := by have := hinc.len; omega
      have loop : ∀ (t : List Nat) (x : Int32) (k acc : Nat), ch F x t → (∀ c ∈ t, c ∈ kids j) → inc 0 m t → k + t.length = (kids j).length → acc + 2 * wsum w t ≤ 1000 → post (nI (acc + wsum (cel K V kids d) t)) → wp_Machine_cellsOf_L54 (wp_Machine_cellsOf d) (nI m) F K V post (t.length + 1) x (nI (kids j).length) (nI acc) (nI k) := by
        intro t
        induction t with
        | nil =>
          intro x k acc h1 h2 h3 h4 h5 h6
          have e : k = (kids j).length := h4
          subst e
          exact ⟨fun _ => h6, fun z => absurd (Int32.le_refl _) z⟩
        | cons a t ih2 =>
          intro x k acc h1 h2 h3 h4 h5 h6
          obtain ⟨e1, e2⟩ := h1
          have h4' : k + (t.length + 1) = (kids j).length := h4
          have ha := h2 a List.mem_cons_self
          have ham := (hinc.mem ha).2
          have h5' : acc + 2 * (w a + wsum w t) ≤ 1000 := h5
          have b1 := (cel_sum hT hC d a ham (by rw [hdk a ha]; omega)).2
          refine ⟨fun z => absurd z (nI_ge (by omega) (by omega)), fun _ => ?_⟩
          rw [e1]
          refine ih a _ ham (by rw [hdk a ha]; omega) ?_
          unfold wp_Datum_followerOf
          rw [nI_clamp (n := a) (by omega), nI_add, nI_1]
          refine ⟨vp_in_nI (by omega) (by decide), ih2 (F a) (k + 1) (acc + cel K V kids d a) e2 (fun c hc => h2 c (List.mem_cons_of_mem _ hc)) (h3.2.2.weak (by omega)) (by omega) (by omega) ?_⟩
          rw [Nat.add_assoc]
          exact h6
      refine ⟨vj, fun z => absurd z (by decide), fun _ => ⟨vj, fun z => absurd z (by decide), fun _ => ⟨vj, fun _ => ⟨vj, ?_⟩, fun z => absurd rfl z⟩⟩⟩
      have hi0 : inc 0 m (kids j) := hinc.weak (by omega)
      refine q_countFrom hm hch hi0 ⟨_, loop (kids j) (V j) 0 (kids j).length hch (fun c hc => hc) hi0 (by omega) ?_ hp⟩
      have := bd (kids j) (fun c hc => hc)
      omega
end
/-! how many cells a datum takes: the reference -/
section
variable {b m q : Nat} {K V F S W C N : Nat → Int32} {kids : Nat → List Nat} {w dp en : Nat → Nat}
theorem CONT.last {en : Nat → Nat} {hi : Nat} : ∀ {l : List Nat} {lo a : Nat}, CONT en lo (a :: l) hi → ∃ z, z ∈ a :: l ∧ en z = hi ∧ (a :: l).getD l.length 0 = z
  | [], _, a, h => ⟨a, List.mem_cons_self, h.2, rfl⟩
  | c :: l, _, a, h => by
    obtain ⟨z, z1, z2, z3⟩ := CONT.last (a := c) h.2
    exact ⟨z, List.mem_cons_of_mem _ z1, z2, z3⟩
theorem q_last (hb : b ≤ 200) (hm : m ≤ 200) {K47 post : Int32 → Prop} : ∀ (t : List Nat) (a lo : Nat), chM b N (nI (b + a)) (a :: t) → inc lo m (a :: t) → K47 (nI (b + (a :: t).getD t.length 0)) → wp_Model_under_L28 C N S K47 post (t.length + 1) (nI (b + a)) := by
  intro t
  induction t with
  | nil =>
    intro a lo h hi hp
    have la := hi.2.1
    unfold wp_Model_under_L28
    rw [nI_clamp (n := b + a) (by omega), show N (b + a) = -1 from h.2]
    exact ⟨vp_in_nI (by omega) (by decide), fun _ => hp, fun z => absurd (by decide) z⟩
  | cons c t ih =>
    intro a lo h hi hp
    have la := hi.2.1
    have lc := hi.2.2.2.1
    unfold wp_Model_under_L28
    rw [nI_clamp (n := b + a) (by omega), show N (b + a) = nI (b + c) from h.2.1]
    have v : vp_in (nI (b + a)) 400 := vp_in_nI (by omega) (by decide)
    exact ⟨v, fun z => absurd z (nI_pos (by omega)), fun _ => ⟨v, ih c _ ⟨rfl, h.2.2⟩ hi.2.2 hp⟩⟩
theorem q_under (hT : TREE b m q K V F S W C N kids w dp) (hC : CTI m K kids en) (hb : b ≤ 200) {post : Int32 → Prop} : ∀ (d j : Nat), j < m → 13 ≤ d + dp j → post (nI (b + (en j - 1))) → wp_Model_under_L2 C N S post d (nI (b + j)) := by
  have hm := hT.1
  intro d
  induction d with
  | zero => intro j hj hd; exact absurd (hT.2 j hj).2.2.1 (by omega)
  | succ d ih =>
    intro j hj hd hp
    have vj : vp_in (nI (b + j)) 400 := vp_in_nI (by omega) (by decide)
    obtain ⟨c1, c2⟩ := hC j hj
    unfold wp_Model_under_L2
    rw [nI_clamp (n := b + j) (by omega)]
    by_cases hk : K j = 2
    · obtain ⟨hch, hinc⟩ := hT.tm j hj hk
      have hs : S (b + j) = 2 := ((hT.ts j hj).2.1).mp hk
      have hdk : ∀ c ∈ kids j, dp c = dp j + 1 := by
        rcases (hT.2 j hj).2.2.2 with z | z | z
        · exact absurd (hk.symm.trans z.1) (by decide)
        · exact absurd (hk.symm.trans z.1) (by decide)
        · exact z.2.2.2.2.2.2.2
      have c3 := c2 hk
      rw [hs]
      cases hkids : kids j with
      | nil =>
        rw [hkids] at hch c3
        have e : j + 1 = en j := c3
        rw [show C (b + j) = -1 from hch]
        rw [show en j - 1 = j by omega] at hp
        exact ⟨vj, fun _ => ⟨vj, fun _ => hp, fun z => absurd (by decide) z⟩, fun z => absurd rfl z⟩
      | cons a t =>
        rw [hkids] at hch hinc c3 hdk
        rw [show C (b + j) = nI (b + a) from hch.1]
        obtain ⟨z, z1, z2, z3⟩ := CONT.last c3
        have la := hinc.2.1
        refine ⟨vj, fun _ => ⟨vj, fun y => absurd y (nI_pos (by omega)), fun _ => ⟨vj, t.length + 1, q_last hb hm t a 0 ⟨rfl, hch.2⟩ hinc ?_⟩⟩, fun y => absurd rfl y⟩
        rw [z3]
        exact ih z (hinc.mem z1).2 (by rw [hdk z z1]; omega) (by rw [z2]; exact hp)
    · have hs : ¬ S (b + j) = 2 := fun z => hk (((hT.ts j hj).2.1).mpr z)
      rw [c1 hk, show j + 1 - 1 = j by omega] at hp
      exact ⟨vj, fun z => absurd z hs, fun _ => hp⟩
theorem last_names : nameR 14636 10461 ∧ nameR 20 20 ∧ nameR 6 6 := ⟨⟨[14, 9, 12], ⟨by decide, by decide, by decide⟩, by decide, by decide⟩, ⟨[20], ⟨by decide, by decide, by decide⟩, by decide, by decide⟩, ⟨[6], ⟨by decide, by decide, by decide⟩, by decide, by decide⟩⟩
theorem q_bulk_L11 (hT : TREE b m q K V F S W C N kids w dp) (hb : b ≤ 200) {post : Int32 → Prop} {lim : Nat} (hl : lim ≤ m) : ∀ (r k acc : Nat), k + r = lim → (∀ i, i ≤ r → acc + rsum (nod K V kids) k i ≤ 100000) → post (nI (acc + rsum (nod K V kids) k r)) → wp_Model_bulk_L11 C N S W post (r + 1) (nI acc) (nI (b + lim) - 1) (nI (b + k)) := by
  have hm := hT.1
  intro r
  induction r with
  | zero =>
    intro k acc e hbd hp
    have : k = lim := e
    subst this
    refine ⟨fun _ => hp, fun z => absurd ?_ z⟩
    cases hbk : b + k with
    | zero => decide
    | succ x => rw [nI_pred]; exact nI_lt (by omega) (by omega)
  | succ r ih =>
    intro k acc e hbd hp
    have hk : k < m := by omega
    have vk : vp_in (nI (b + k)) 400 := vp_in_nI (by omega) (by decide)
    have ek : (nI (b + k)).toNatClampNeg = b + k := nI_clamp (by omega)
    have sh : ∀ i, rsum (nod K V kids) k (i + 1) = nod K V kids k + rsum (nod K V kids) (k + 1) i := fun i => by
      rw [show i + 1 = 1 + i by omega, rsum_add]
      show 0 + nod K V kids (k + 0) + _ = _
      rw [Nat.zero_add]
      rfl
    have b1 := hbd 1 (by omega)
    rw [show rsum (nod K V kids) k 1 = nod K V kids k from Nat.zero_add _] at b1
    have next := ih (k + 1) (acc + nod K V kids k) (by omega) (fun i hi => by
      have := hbd (i + 1) (by omega)
      rw [sh] at this
      omega) (by rw [sh] at hp; rw [Nat.add_assoc]; exact hp)
    have fin : ∀ y : Nat, y = nod K V kids k → wp_Model_bulk_J103 C N S W (wp_Model_bulk_L11 C N S W post (r + 1)) post (nI (b + lim) - 1) (nI (b + k)) (nI y) (nI acc) := fun y hy => by
      unfold wp_Model_bulk_J103
      rw [hy, nI_add, nI_1, show b + k + 1 = b + (k + 1) by omega]
      exact next
    refine ⟨fun z => ?_, fun _ => ?_⟩
    · rw [show b + lim = (b + lim - 1) + 1 by omega, nI_pred] at z
      exact absurd z (nI_nlt (by omega) (by omega))
    · rw [ek]
      have j70 : ∀ y0 : Int32, (¬ S (b + k) = 2 → (y0 = 0 → nod K V kids k = 1) ∧ (¬ y0 = 0 → nod K V kids k = 0)) → wp_Model_bulk_J70 C N S W (wp_Model_bulk_L11 C N S W post (r + 1)) post (nI acc) (nI (b + lim) - 1) (nI (b + k)) y0 := fun y0 hy => by
        unfold wp_Model_bulk_J70
        rw [ek]
        refine ⟨vk, fun z => ?_, fun z => ⟨fun y => fin 1 ((hy z).1 y).symm, fun y => fin 0 ((hy z).2 y).symm⟩⟩
        have hk2 : K k = 2 := ((hT.ts k hk).2.1).mpr z
        obtain ⟨hch, hinc⟩ := hT.tm k hk hk2
        exact q_mparts hb hm (by omega) hch hinc (fin _ (nod2 hk2).symm)
      rcases (hT.2 k hk).2.2.2 with z | z | z
      · have s1 : ¬ S (b + k) = 1 := by rw [z.2.1]; decide
        exact ⟨vk, fun y => absurd y s1, fun _ => j70 0 (fun _ => ⟨fun _ => nod0 z.1, fun y => absurd rfl y⟩)⟩
      · obtain ⟨z1, z2, z3, -⟩ := z
        have l1 := nameR_eq z3 last_names.1
        have l2 := nameR_eq z3 last_names.2.1
        have l3 := nameR_eq z3 last_names.2.2
        refine ⟨vk, fun _ => ⟨vk, fun y => j70 1 (fun _ => ⟨fun u => absurd u (by decide), fun _ => nod1 z1 (Or.inl (l1.mpr y))⟩), fun y1 => ⟨vk, fun y => j70 1 (fun _ => ⟨fun u => absurd u (by decide), fun _ => nod1 z1 (Or.inr (Or.inl (l2.mpr y)))⟩), fun y2 => ⟨vk, fun y => j70 1 (fun _ => ⟨fun u => absurd u (by decide), fun _ => nod1 z1 (Or.inr (Or.inr (l3.mpr y)))⟩), fun y3 => j70 0 (fun _ => ⟨fun _ => nod1' z1 (fun u => ?_), fun u => absurd rfl u⟩)⟩⟩⟩, fun y => absurd z2 y⟩
        rcases u with u | u | u
        · exact y1 (l1.mp u)
        · exact y2 (l2.mp u)
        · exact y3 (l3.mp u)
      · have s1 : ¬ S (b + k) = 1 := by rw [z.2.1]; decide
        exact ⟨vk, fun y => absurd y s1, fun _ => j70 0 (fun y => absurd z.2.1 y)⟩
theorem en_le (hT : TC m K V F kids w dp) (hC : CTI m K kids en) : ∀ (d j : Nat), j < m → 13 ≤ d + dp j → en j ≤ m := by
  intro d
  induction d with
  | zero => intro j hj hd; exact absurd (hT.2 j hj).2.1 (by omega)
  | succ d ih =>
    intro j hj hd
    obtain ⟨c1, c2⟩ := hC j hj
    by_cases hk : K j = 2
    · have c3 := c2 hk
      rcases (hT.2 j hj).2.2 with z | z | ⟨-, hd11, hch, hinc, hws, hdk⟩
      · exact absurd (hk.symm.trans z) (by decide)
      · exact absurd (hk.symm.trans z) (by decide)
      cases hkids : kids j with
      | nil => rw [hkids] at c3; have : j + 1 = en j := c3; omega
      | cons a t =>
        rw [hkids] at c3 hinc hdk
        obtain ⟨z, z1, z2, z3⟩ := CONT.last c3
        have := ih z (hinc.mem z1).2 (by rw [hdk z z1]; omega)
        omega
    · rw [c1 hk]; omega
theorem q_bulk (hT : TREE b m q K V F S W C N kids w dp) (hC : CTI m K kids en) (hb : b ≤ 200) (hq : q ≤ 200) {post : Int32 → Prop} {j : Nat} (hj : j < m) (hp : post (nI (cel K V kids 13 j))) : wp_Model_bulk C N S W (nI (b + j)) post := by
  have hm := hT.1
  have gt := en_gt hT.tc hC 13 j hj (by omega)
  have le := en_le hT.tc hC 13 j hj (by omega)
  obtain ⟨s1, s2⟩ := cel_sum hT.tc hC 13 j hj (by omega)
  refine ⟨13, q_under hT hC hb 13 j hj (by omega) ⟨en j - j + 1, ?_⟩⟩
  have e1 : nI (b + (en j - 1)) = nI (b + en j) - 1 := by
    rw [show b + en j = b + (en j - 1) + 1 by omega, nI_pred]
  rw [e1]
  refine q_bulk_L11 hT hb le (en j - j) j 0 (by omega) (fun i hi => ?_) (by rw [Nat.zero_add, s1]; exact hp)
  have mono : ∀ (g : Nat → Nat) (lo a c : Nat), a ≤ c → rsum g lo a ≤ rsum g lo c := fun g lo a c hac => by
    obtain ⟨x, rfl⟩ : ∃ x, c = a + x := ⟨c - a, by omega⟩
    rw [rsum_add]
    omega
  have := mono (nod K V kids) j i (en j - j) hi
  have hw := (hT.2 j hj).2.1
  omega
end
