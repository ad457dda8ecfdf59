/-! whether a form has its parts: lists of names -/
theorem q_isList_L35 {m n : Nat} {F K V : Nat → Int32} {post : Int32 → Prop} (hm : m ≤ 200) (hn : n ≤ 200) : ∀ (l : List Nat) (x : Int32) (k lo : Nat), ch F x l → inc lo m l → k + l.length = n → ((∀ j ∈ l, K j = 1) → post 1) → (¬ (∀ j ∈ l, K j = 1) → post 0) → wp_Translator_isListOfNames_L35 (nI m) F K V post (l.length + 1) x (nI n) (nI k) := by
  intro l
  induction l with
  | nil =>
    intro x k lo h hi hl h1 h0
    have e : n = k := hl.symm
    subst e
    exact ⟨fun _ => h1 (fun j hj => (List.not_mem_nil hj).elim), fun c => absurd (Int32.le_refl _) c⟩
  | cons j l ih =>
    intro x k lo h hi hl h1 h0
    obtain ⟨e, h⟩ := h
    obtain ⟨i1, i2, i3⟩ := hi
    have hl' : k + (l.length + 1) = n := hl
    have vj : vp_in (nI j) 200 := vp_in_nI (by omega) (by decide)
    refine ⟨fun c => absurd c (nI_ge (by omega) (by omega)), fun _ => ?_⟩
    rw [e]
    unfold wp_Datum_kindOf wp_Datum_followerOf
    rw [nI_clamp (n := j) (by omega), nI_1]
    refine ⟨vj, fun c => ⟨vj, ih (F j) (k + 1) _ h i3 (by omega) (fun g => h1 (fun y hy => ?_)) (fun g => h0 (fun g2 => g (fun y hy => g2 y (List.mem_cons_of_mem _ hy))))⟩, fun c => h0 (fun g => c (g j List.mem_cons_self))⟩
    rcases List.mem_cons.mp hy with e2 | hy
    · rw [e2]; exact c
    · exact g y hy
theorem q_isList {m s : Nat} {F K V : Nat → Int32} {l : List Nat} {post : Int32 → Prop} (hm : m ≤ 200) (hs : s < m) (hl : K s = 2 → ch F (V s) l ∧ inc 0 m l) (h1 : K s = 2 → (∀ j ∈ l, K j = 1) → post 1) (h0 : ¬ (K s = 2 ∧ ∀ j ∈ l, K j = 1) → post 0) : wp_Translator_isListOfNames (nI m) F K V (nI s) post := by
  have vs : vp_in (nI s) 200 := vp_in_nI (by omega) (by decide)
  unfold wp_Translator_isListOfNames wp_Datum_kindOf wp_Datum_firstPartOf
  rw [nI_clamp (n := s) (by omega)]
  refine ⟨vs, fun c => ⟨vs, fun _ => ⟨vs, ?_⟩, fun c2 => absurd c c2⟩, fun c => h0 (fun g => c g.1)⟩
  obtain ⟨g1, g2⟩ := hl c
  have := g2.len
  exact q_countFrom hm g1 g2 ⟨_, q_isList_L35 hm (by omega) l (V s) 0 0 g1 g2 (by omega) (h1 c) (fun g => h0 (fun g3 => g g3.2))⟩
/-- once a part was no name, the reference counts on to the end -/
theorem q_shaped_L159_no {C N S : Nat → Int32} {post : Int32 → Prop} {v1 : Int32} {n : Nat} (hn : n ≤ 200) (h0 : post 0) : ∀ r k, k + r = n → wp_Model_shaped_L159 C N S post (r + 1) v1 0 (nI n) (nI k) := by
  have nb : narrow .boolean (.int 0) = .int 0 := by decide
  intro r
  induction r with
  | zero =>
    intro k e
    have : k = n := by omega
    subst this
    exact ⟨fun _ => ⟨nb, h0⟩, fun c => absurd (Int32.le_refl _) c⟩
  | succ r ih =>
    intro k e
    refine ⟨fun c => absurd c (nI_ge (by omega) (by omega)), fun _ => ⟨fun _ => ?_, fun c => absurd rfl c⟩⟩
    unfold wp_Model_shaped_J196 wp_Model_shaped_J197
    rw [nI_1]
    exact ih (k + 1) (by omega)
theorem q_shaped_L159 {b m k s : Nat} {C N S : Nat → Int32} {lk l : List Nat} {post : Int32 → Prop} (hb : b ≤ 200) (hm : m ≤ 200) (hkn : k < 400) (hck : chM b N (C k) lk) (hik : inc 0 m lk) (hk1 : 1 ≤ lk.length) (hs : hdM b (lk.drop 1) = nI (b + s)) (hsm : s < m) (hc : chM b N (C (b + s)) l) (hi : inc 0 m l) :
    ∀ r i, i + r = l.length → ((∀ j ∈ l.drop i, S (b + j) = 1) → post 1) → (¬ (∀ j ∈ l.drop i, S (b + j) = 1) → post 0) → wp_Model_shaped_L159 C N S post (r + 1) (nI k) 1 (nI l.length) (nI i) := by
  have nb : narrow .boolean (.int 1) = .int 1 := by decide
  have hlen := hi.len
  have hpos : ∀ j ∈ l, j < m := by
    have key : ∀ (l : List Nat) (lo : Nat), inc lo m l → ∀ j ∈ l, j < m := by
      intro l
      induction l with
      | nil => intro lo _ j hj; exact (List.not_mem_nil hj).elim
      | cons a l ih =>
        intro lo h j hj
        rcases List.mem_cons.mp hj with e | hj
        · rw [e]; exact h.2.1
        · exact ih _ h.2.2 j hj
    exact key l 0 hi
  intro r
  induction r with
  | zero =>
    intro i e h1 h0
    have : i = l.length := by omega
    subst this
    refine ⟨fun _ => ⟨nb, h1 (fun j hj => ?_)⟩, fun c => absurd (Int32.le_refl _) c⟩
    rw [List.drop_length] at hj
    exact (List.not_mem_nil hj).elim
  | succ r ih =>
    intro i e h1 h0
    have hil : i < l.length := by omega
    refine ⟨fun c => absurd c (nI_ge hil (by omega)), fun _ => ⟨fun c => absurd c (by decide), fun _ => ?_⟩⟩
    have ed : l.drop i = l[i] :: l.drop (i + 1) := List.drop_eq_getElem_cons hil
    have hj : l[i] < m := hpos _ (List.getElem_mem hil)
    refine q_mpart (s := 1) hb hm hkn hk1 hck hik ?_
    rw [hs]
    refine q_mpart (s := i) hb hm (by omega) (by omega) hc hi ?_
    rw [ed]
    show vp_in (nI (b + l[i])) 400 ∧ _
    refine ⟨vp_in_nI (by omega) (by decide), ?_⟩
    show (S (nI (b + l[i])).toNatClampNeg = 1 → _) ∧ (¬ S (nI (b + l[i])).toNatClampNeg = 1 → _)
    rw [nI_clamp (n := b + l[i]) (by omega)]
    refine ⟨fun c => ?_, fun c => ?_⟩
    · unfold wp_Model_shaped_J197
      rw [nI_1]
      refine ih (i + 1) (by omega) (fun g => h1 (fun j hj2 => ?_)) (fun g => h0 (fun g2 => g (fun j hj2 => g2 j (by rw [ed]; exact List.mem_cons_of_mem _ hj2))))
      rw [ed] at hj2
      rcases List.mem_cons.mp hj2 with e2 | hj2
      · rw [e2]; exact c
      · exact g j hj2
    · unfold wp_Model_shaped_J196 wp_Model_shaped_J197
      rw [nI_1]
      exact q_shaped_L159_no (by omega) (h0 (fun g => c (g _ (by rw [ed]; exact List.mem_cons_self)))) r (i + 1) (by omega)
/-! the tree that both tables hold: each list's parts, each node's characters, its depth -/
def wsum (w : Nat → Nat) (l : List Nat) : Nat := l.foldr (fun j a => w j + a) 0
def TREE (b m q : Nat) (K V F S W C N : Nat → Int32) (kids : Nat → List Nat) (w dp : Nat → Nat) : Prop :=
  m ≤ 200 ∧ ∀ j, j < m → 1 ≤ w j ∧ w j ≤ q ∧ dp j ≤ 12 ∧
    ((K j = 0 ∧ S (b + j) = 0 ∧ V j = W (b + j) ∧ C (b + j) = -1) ∨
     (K j = 1 ∧ S (b + j) = 1 ∧ nameR (V j) (W (b + j)) ∧ C (b + j) = -1 ∧ ∃ l : List Nat, isNm l ∧ V j = nI (enc 32 l) ∧ w j = l.length) ∨
     (K j = 2 ∧ S (b + j) = 2 ∧ dp j ≤ 11 ∧ ch F (V j) (kids j) ∧ chM b N (C (b + j)) (kids j) ∧ inc (j + 1) m (kids j) ∧ wsum w (kids j) + 2 ≤ w j ∧ ∀ c ∈ kids j, dp c = dp j + 1))
theorem chain_sum {b m q : Nat} {K V F O P S W C N Q R : Nat → Int32} {cs ce pa dp : Nat → Nat} (hR : RD b m 0 K V F O P S W C N Q R) (g : GI m 0 q K V F O P cs ce pa dp) {j : Nat} : ∀ r p, p < m → j < p → m ≤ p + r → pa p = j → ∃ l, ch F (nI p) (p :: l) ∧ chM b N (nI (b + p)) (p :: l) ∧ inc p m (p :: l) ∧ wsum (fun x => ce x - cs x) (p :: l) + cs p + 1 ≤ ce j ∧ ∀ c ∈ p :: l, dp c = dp p := by
  obtain ⟨h1, h2, h3, h4⟩ := hR
  obtain ⟨A, B, Cc, D, E, Nn, Gg⟩ := g
  have cl : ∀ x, clo 0 O x := fun x i hi => absurd hi (by omega)
  intro r
  induction r with
  | zero => intro p hp _ hr _; exact absurd hr (by omega)
  | succ r ih =>
    intro p hp hjp hr hpa
    obtain ⟨a1, -⟩ := h3 p hp
    have ap := (A p hp).2.2.2 (cl p)
    have dpp := (D p (by omega) hp).2.2 (cl _)
    rw [hpa] at dpp
    rcases B p hp with e | ⟨p2, e1, e2, e3, e4, e5, e6, e7⟩
    · rcases a1 with ⟨x1, x2⟩ | ⟨p1, x1, x2, x3⟩
      · refine ⟨[], ⟨rfl, x1⟩, ⟨rfl, x2⟩, ⟨Nat.le_refl _, hp, trivial⟩, ?_, fun c hc => ?_⟩
        · show (ce p - cs p) + 0 + cs p + 1 ≤ ce j
          omega
        · rw [List.mem_singleton.mp hc]
      · exact absurd (x2.symm.trans e) (nI_m1 (by omega))
    · rcases a1 with ⟨x1, x2⟩ | ⟨p1, x1, x2, x3⟩
      · exact absurd (e2.symm.trans x1) (nI_m1 (by omega))
      · have ep : p1 = p2 := (nI_eq (by omega) (by omega)).mp (x2.symm.trans e2)
        subst ep
        obtain ⟨l, g1, g2, g3, g4, g5⟩ := ih p1 x1 (by omega) (by omega) (by rw [e6]; exact hpa)
        refine ⟨p1 :: l, ⟨rfl, by rw [x2]; exact g1⟩, ⟨rfl, by rw [x3]; exact g2⟩, ⟨Nat.le_refl _, hp, g3.weak e3⟩, ?_, fun c hc => ?_⟩
        · show (ce p - cs p) + wsum (fun x => ce x - cs x) (p1 :: l) + cs p + 1 ≤ ce j
          omega
        · rcases List.mem_cons.mp hc with e | hc
          · rw [e]
          · rw [g5 c hc, e7]
theorem tree_of {b m q : Nat} {K V F O P S W C N Q R : Nat → Int32} (h : RX b m 0 q K V F O P S W C N Q R) : ∃ (kids : Nat → List Nat) (w dp : Nat → Nat), TREE b m q K V F S W C N kids w dp := by
  obtain ⟨hR, cs, ce, pa, dp, g⟩ := h
  have hR2 := hR
  have g2 := g
  obtain ⟨h1, h2, h3, h4⟩ := hR2
  obtain ⟨A, B, Cc, D, E, Nn, Gg⟩ := g2
  have cl : ∀ x, clo 0 O x := fun x i hi => absurd hi (by omega)
  have key : ∀ j, ∃ l : List Nat, j < m → K j = 2 → ch F (V j) l ∧ chM b N (C (b + j)) l ∧ inc (j + 1) m l ∧ wsum (fun x => ce x - cs x) l + 2 ≤ ce j - cs j ∧ ∀ c ∈ l, dp c = dp j + 1 := by
    intro j
    by_cases hj : j < m ∧ K j = 2
    · obtain ⟨hj, hk⟩ := hj
      have aj := (A j hj).2.2.2 (cl j)
      obtain ⟨-, nd⟩ := h3 j hj
      have hp : ptr b m (V j) (C (b + j)) := by
        rcases nd with nd | nd | nd
        · exact absurd (hk.symm.trans nd.1) (by decide)
        · exact absurd (hk.symm.trans nd.1) (by decide)
        · exact nd.2.2
      have hlt := Gg j hj hk (cl j)
      rcases Cc j hj hk with e | ⟨p, e1, e2, e3, e4, e5, e6⟩
      · rcases hp with ⟨x1, x2⟩ | ⟨p, x1, x2, x3⟩
        · refine ⟨[], fun _ _ => ⟨x1, x2, trivial, ?_, fun c hc => (List.not_mem_nil hc).elim⟩⟩
          show 0 + 2 ≤ ce j - cs j
          omega
        · exact absurd (x2.symm.trans e) (nI_m1 (by omega))
      · rcases hp with ⟨x1, x2⟩ | ⟨p', x1, x2, x3⟩
        · exact absurd (e2.symm.trans x1) (nI_m1 (by omega))
        · have ep : p' = p := (nI_eq (by omega) (by omega)).mp (x2.symm.trans e2)
          subst ep
          obtain ⟨l, g1, g2, g3, g4, g5⟩ := chain_sum hR g m p' e1 e3 (by omega) e5
          refine ⟨p' :: l, fun _ _ => ⟨by rw [x2]; exact g1, by rw [x3]; exact g2, g3.weak e3, ?_, fun c hc => by rw [g5 c hc, e6]⟩⟩
          omega
    · exact ⟨[], fun z1 z2 => absurd ⟨z1, z2⟩ hj⟩
  refine ⟨fun j => (key j).choose, fun x => ce x - cs x, dp, h1, fun j hj => ?_⟩
  have aj := A j hj
  have ac := aj.2.2.2 (cl j)
  obtain ⟨-, nd⟩ := h3 j hj
  refine ⟨by show 1 ≤ ce j - cs j; omega, by show ce j - cs j ≤ q; omega, aj.2.1, ?_⟩
  rcases nd with ⟨n1, n2, n3, n4⟩ | ⟨n1, n2, n3, n4⟩ | ⟨n1, n2, n3⟩
  · exact Or.inl ⟨n1, n2, n3, n4⟩
  · obtain ⟨l, l1, l2, l3⟩ := Nn j hj n1
    exact Or.inr (Or.inl ⟨n1, n2, n3, n4, l, l1, l2, by show ce j - cs j = l.length; omega⟩)
  · obtain ⟨k1, k2, k3, k4, k5⟩ := (key j).choose_spec hj n1
    exact Or.inr (Or.inr ⟨n1, n2, aj.2.2.1 n1, k1, k2, k3, k4, k5⟩)
