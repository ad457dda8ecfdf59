/-! whether a form has its parts: lists of names -/
theorem q_isList_L35 {m n : Nat} {F K V : Nat → Int32} {post : Int32 → Prop} (hm : m ≤ 200) (hn : n ≤ 200) : ∀ (l : List Nat) (x : Int32) (k lo : Nat), ch F x l → inc lo m l → k + l.length = n → ((∀ j ∈ l, K j = 1) → post 1) → (¬ (∀ j ∈ l, K j = 1) → post 0) → wp_Translator_isListOfNames_L35 (nI m) F K V post (l.length + 1) x (nI n) (nI k) := by
  intro l
  induction l with
  | nil =>
    intro x k lo h hi hl h1 h0
    have e : n = k := hl.symm
    subst e
    exact ⟨fun _ => h1 (fun j hj => (List.not_mem_nil hj).elim), fun c => absurd (Int32.le_refl _) c⟩
  | cons j l ih =>
    intro x k lo h hi hl h1 h0
    obtain ⟨e, h⟩ := h
    obtain ⟨i1, i2, i3⟩ := hi
    have hl' : k + (l.length + 1) = n := hl
    have vj : vp_in (nI j) 200 := vp_in_nI (by omega) (by decide)
    refine ⟨fun c => absurd c (nI_ge (by omega) (by omega)), fun _ => ?_⟩
    rw [e]
    unfold wp_Datum_kindOf wp_Datum_followerOf
    rw [nI_clamp (n := j) (by omega), nI_1]
    refine ⟨vj, fun c => ⟨vj, ih (F j) (k + 1) _ h i3 (by omega) (fun g => h1 (fun y hy => ?_)) (fun g => h0 (fun g2 => g (fun y hy => g2 y (List.mem_cons_of_mem _ hy))))⟩, fun c => h0 (fun g => c (g j List.mem_cons_self))⟩
    rcases List.mem_cons.mp hy with e2 | hy
    · rw [e2]; exact c
    · exact g y hy
theorem q_isList {m s : Nat} {F K V : Nat → Int32} {l : List Nat} {post : Int32 → Prop} (hm : m ≤ 200) (hs : s < m) (hl : K s = 2 → ch F (V s) l ∧ inc 0 m l) (h1 : K s = 2 → (∀ j ∈ l, K j = 1) → post 1) (h0 : ¬ (K s = 2 ∧ ∀ j ∈ l, K j = 1) → post 0) : wp_Translator_isListOfNames (nI m) F K V (nI s) post := by
  have vs : vp_in (nI s) 200 := vp_in_nI (by omega) (by decide)
  unfold wp_Translator_isListOfNames wp_Datum_kindOf wp_Datum_firstPartOf
  rw [nI_clamp (n := s) (by omega)]
  refine ⟨vs, fun c => ⟨vs, fun _ => ⟨vs, ?_⟩, fun c2 => absurd c c2⟩, fun c => h0 (fun g => c g.1)⟩
  obtain ⟨g1, g2⟩ := hl c
  have := g2.len
  exact q_countFrom hm g1 g2 ⟨_, q_isList_L35 hm (by omega) l (V s) 0 0 g1 g2 (by omega) (h1 c) (fun g => h0 (fun g3 => g g3.2))⟩
/-- once a part was no name, the reference counts on to the end -/
theorem q_shaped_L159_no {C N S : Nat → Int32} {post : Int32 → Prop} {v1 : Int32} {n : Nat} (hn : n ≤ 200) (h0 : post 0) : ∀ r k, k + r = n → wp_Model_shaped_L159 C N S post (r + 1) v1 0 (nI n) (nI k) := by
  have nb : narrow .boolean (.int 0) = .int 0 := by decide
  intro r
  induction r with
  | zero =>
    intro k e
    have : k = n := by omega
    subst this
    exact ⟨fun _ => ⟨nb, h0⟩, fun c => absurd (Int32.le_refl _) c⟩
  | succ r ih =>
    intro k e
    refine ⟨fun c => absurd c (nI_ge (by omega) (by omega)), fun _ => ⟨fun _ => ?_, fun c => absurd rfl c⟩⟩
    unfold wp_Model_shaped_J196 wp_Model_shaped_J197
    rw [nI_1]
    exact ih (k + 1) (by omega)
theorem q_shaped_L159 {b m k s : Nat} {C N S : Nat → Int32} {lk l : List Nat} {post : Int32 → Prop} (hb : b ≤ 200) (hm : m ≤ 200) (hkn : k < 400) (hck : chM b N (C k) lk) (hik : inc 0 m lk) (hk1 : 1 ≤ lk.length) (hs : hdM b (lk.drop 1) = nI (b + s)) (hsm : s < m) (hc : chM b N (C (b + s)) l) (hi : inc 0 m l) :
    ∀ r i, i + r = l.length → ((∀ j ∈ l.drop i, S (b + j) = 1) → post 1) → (¬ (∀ j ∈ l.drop i, S (b + j) = 1) → post 0) → wp_Model_shaped_L159 C N S post (r + 1) (nI k) 1 (nI l.length) (nI i) := by
  have nb : narrow .boolean (.int 1) = .int 1 := by decide
  have hlen := hi.len
  have hpos : ∀ j ∈ l, j < m := by
    have key : ∀ (l : List Nat) (lo : Nat), inc lo m l → ∀ j ∈ l, j < m := by
      intro l
      induction l with
      | nil => intro lo _ j hj; exact (List.not_mem_nil hj).elim
      | cons a l ih =>
        intro lo h j hj
        rcases List.mem_cons.mp hj with e | hj
        · rw [e]; exact h.2.1
        · exact ih _ h.2.2 j hj
    exact key l 0 hi
  intro r
  induction r with
  | zero =>
    intro i e h1 h0
    have : i = l.length := by omega
    subst this
    refine ⟨fun _ => ⟨nb, h1 (fun j hj => ?_)⟩, fun c => absurd (Int32.le_refl _) c⟩
    rw [List.drop_length] at hj
    exact (List.not_mem_nil hj).elim
  | succ r ih =>
    intro i e h1 h0
    have hil : i < l.length := by omega
    refine ⟨fun c => absurd c (nI_ge hil (by omega)), fun _ => ⟨fun c => absurd c (by decide), fun _ => ?_⟩⟩
    have ed : l.drop i = l[i] :: l.drop (i + 1) := List.drop_eq_getElem_cons hil
    have hj : l[i] < m := hpos _ (List.getElem_mem hil)
    refine q_mpart (s := 1) hb hm hkn hk1 hck hik ?_
    rw [hs]
    refine q_mpart (s := i) hb hm (by omega) (by omega) hc hi ?_
    rw [ed]
    show vp_in (nI (b + l[i])) 400 ∧ _
    refine ⟨vp_in_nI (by omega) (by decide), ?_⟩
    show (S (nI (b + l[i])).toNatClampNeg = 1 → _) ∧ (¬ S (nI (b + l[i])).toNatClampNeg = 1 → _)
    rw [nI_clamp (n := b + l[i]) (by omega)]
    refine ⟨fun c => ?_, fun c => ?_⟩
    · unfold wp_Model_shaped_J197
      rw [nI_1]
      refine ih (i + 1) (by omega) (fun g => h1 (fun j hj2 => ?_)) (fun g => h0 (fun g2 => g (fun j hj2 => g2 j (by rw [ed]; exact List.mem_cons_of_mem _ hj2))))
      rw [ed] at hj2
      rcases List.mem_cons.mp hj2 with e2 | hj2
      · rw [e2]; exact c
      · exact g j hj2
    · unfold wp_Model_shaped_J196 wp_Model_shaped_J197
      rw [nI_1]
      exact q_shaped_L159_no (by omega) (h0 (fun g => c (g _ (by rw [ed]; exact List.mem_cons_self)))) r (i + 1) (by omega)
/-! the tree that both tables hold: each list's parts, each node's characters, its depth -/
def wsum (w : Nat → Nat) (l : List Nat) : Nat := l.foldr (fun j a => w j + a) 0
def TREE (b m q : Nat) (K V F S W C N : Nat → Int32) (kids : Nat → List Nat) (w dp : Nat → Nat) : Prop :=
  m ≤ 200 ∧ ∀ j, j < m → 1 ≤ w j ∧ w j ≤ q ∧ dp j ≤ 12 ∧
    ((K j = 0 ∧ S (b + j) = 0 ∧ V j = W (b + j) ∧ C (b + j) = -1) ∨
     (K j = 1 ∧ S (b + j) = 1 ∧ nameR (V j) (W (b + j)) ∧ C (b + j) = -1 ∧ ∃ l : List Nat, isNm l ∧ V j = nI (enc 32 l) ∧ w j = l.length) ∨
     (K j = 2 ∧ S (b + j) = 2 ∧ dp j ≤ 11 ∧ ch F (V j) (kids j) ∧ chM b N (C (b + j)) (kids j) ∧ inc (j + 1) m (kids j) ∧ wsum w (kids j) + 2 ≤ w j ∧ ∀ c ∈ kids j, dp c = dp j + 1))
theorem chain_sum {b m q : Nat} {K V F O P S W C N Q R : Nat → Int32} {cs ce pa dp : Nat → Nat} (hR : RD b m 0 K V F O P S W C N Q R) (g : GI m 0 q K V F O P cs ce pa dp) {j : Nat} : ∀ r p, p < m → j < p → m ≤ p + r → pa p = j → ∃ l, ch F (nI p) (p :: l) ∧ chM b N (nI (b + p)) (p :: l) ∧ inc p m (p :: l) ∧ wsum (fun x => ce x - cs x) (p :: l) + cs p + 1 ≤ ce j ∧ ∀ c ∈ p :: l, dp c = dp p := by
  obtain ⟨h1, h2, h3, h4⟩ := hR
  obtain ⟨A, B, Cc, D, E, Nn, Gg⟩ := g
  have cl : ∀ x, clo 0 O x := fun x i hi => absurd hi (by omega)
  intro r
  induction r with
  | zero => intro p hp _ hr _; exact absurd hr (by omega)
  | succ r ih =>
    intro p hp hjp hr hpa
    obtain ⟨a1, -⟩ := h3 p hp
    have ap := (A p hp).2.2.2 (cl p)
    have dpp := (D p (by omega) hp).2.2 (cl _)
    rw [hpa] at dpp
    rcases B p hp with e | ⟨p2, e1, e2, e3, e4, e5, e6, e7⟩
    · rcases a1 with ⟨x1, x2⟩ | ⟨p1, x1, x2, x3⟩
      · refine ⟨[], ⟨rfl, x1⟩, ⟨rfl, x2⟩, ⟨Nat.le_refl _, hp, trivial⟩, ?_, fun c hc => ?_⟩
        · show (ce p - cs p) + 0 + cs p + 1 ≤ ce j
          omega
        · rw [List.mem_singleton.mp hc]
      · exact absurd (x2.symm.trans e) (nI_m1 (by omega))
    · rcases a1 with ⟨x1, x2⟩ | ⟨p1, x1, x2, x3⟩
      · exact absurd (e2.symm.trans x1) (nI_m1 (by omega))
      · have ep : p1 = p2 := (nI_eq (by omega) (by omega)).mp (x2.symm.trans e2)
        subst ep
        obtain ⟨l, g1, g2, g3, g4, g5⟩ := ih p1 x1 (by omega) (by omega) (by rw [e6]; exact hpa)
        refine ⟨p1 :: l, ⟨rfl, by rw [x2]; exact g1⟩, ⟨rfl, by rw [x3]; exact g2⟩, ⟨Nat.le_refl _, hp, g3.weak e3⟩, ?_, fun c hc => ?_⟩
        · show (ce p - cs p) + wsum (fun x => ce x - cs x) (p1 :: l) + cs p + 1 ≤ ce j
          omega
        · rcases List.mem_cons.mp hc with e | hc
          · rw [e]
          · rw [g5 c hc, e7]
theorem tree_of {b m q : Nat} {K V F O P S W C N Q R : Nat → Int32} (h : RX b m 0 q K V F O P S W C N Q R) : ∃ (kids : Nat → List Nat) (w dp : Nat → Nat), TREE b m q K V F S W C N kids w dp := by
  obtain ⟨hR, cs, ce, pa, dp, g, -⟩ := h
  have hR2 := hR
  have g2 := g
  obtain ⟨h1, h2, h3, h4⟩ := hR2
  obtain ⟨A, B, Cc, D, E, Nn, Gg⟩ := g2
  have cl : ∀ x, clo 0 O x := fun x i hi => absurd hi (by omega)
  have key : ∀ j, ∃ l : List Nat, j < m → K j = 2 → ch F (V j) l ∧ chM b N (C (b + j)) l ∧ inc (j + 1) m l ∧ wsum (fun x => ce x - cs x) l + 2 ≤ ce j - cs j ∧ ∀ c ∈ l, dp c = dp j + 1 := by
    intro j
    by_cases hj : j < m ∧ K j = 2
    · obtain ⟨hj, hk⟩ := hj
      have aj := (A j hj).2.2.2 (cl j)
      obtain ⟨-, nd⟩ := h3 j hj
      have hp : ptr b m (V j) (C (b + j)) := by
        rcases nd with nd | nd | nd
        · exact absurd (hk.symm.trans nd.1) (by decide)
        · exact absurd (hk.symm.trans nd.1) (by decide)
        · exact nd.2.2
      have hlt := Gg j hj hk (cl j)
      rcases Cc j hj hk with e | ⟨p, e1, e2, e3, e4, e5, e6⟩
      · rcases hp with ⟨x1, x2⟩ | ⟨p, x1, x2, x3⟩
        · refine ⟨[], fun _ _ => ⟨x1, x2, trivial, ?_, fun c hc => (List.not_mem_nil hc).elim⟩⟩
          show 0 + 2 ≤ ce j - cs j
          omega
        · exact absurd (x2.symm.trans e) (nI_m1 (by omega))
      · rcases hp with ⟨x1, x2⟩ | ⟨p', x1, x2, x3⟩
        · exact absurd (e2.symm.trans x1) (nI_m1 (by omega))
        · have ep : p' = p := (nI_eq (by omega) (by omega)).mp (x2.symm.trans e2)
          subst ep
          obtain ⟨l, g1, g2, g3, g4, g5⟩ := chain_sum hR g m p' e1 e3 (by omega) e5
          refine ⟨p' :: l, fun _ _ => ⟨by rw [x2]; exact g1, by rw [x3]; exact g2, g3.weak e3, ?_, fun c hc => by rw [g5 c hc, e6]⟩⟩
          omega
    · exact ⟨[], fun z1 z2 => absurd ⟨z1, z2⟩ hj⟩
  refine ⟨fun j => (key j).choose, fun x => ce x - cs x, dp, h1, fun j hj => ?_⟩
  have aj := A j hj
  have ac := aj.2.2.2 (cl j)
  obtain ⟨-, nd⟩ := h3 j hj
  refine ⟨by show 1 ≤ ce j - cs j; omega, by show ce j - cs j ≤ q; omega, aj.2.1, ?_⟩
  rcases nd with ⟨n1, n2, n3, n4⟩ | ⟨n1, n2, n3, n4⟩ | ⟨n1, n2, n3⟩
  · exact Or.inl ⟨n1, n2, n3, n4⟩
  · obtain ⟨l, l1, l2, l3⟩ := Nn j hj n1
    exact Or.inr (Or.inl ⟨n1, n2, n3, n4, l, l1, l2, by show ce j - cs j = l.length; omega⟩)
  · obtain ⟨k1, k2, k3, k4, k5⟩ := (key j).choose_spec hj n1
    exact Or.inr (Or.inr ⟨n1, n2, aj.2.2.1 n1, k1, k2, k3, k4, k5⟩)
/-! bindings: lists of two parts, the first a name -/
def bnd (K : Nat → Int32) (kids : Nat → List Nat) (j : Nat) : Prop := K j = 2 ∧ (kids j).length = 2 ∧ K ((kids j).headD 0) = 1
theorem q_areB_L14 {m n : Nat} {F K V : Nat → Int32} {kids : Nat → List Nat} {post : Int32 → Prop} (hm : m ≤ 200) (hn : n ≤ 200) (hT : ∀ j, j < m → K j = 2 → ch F (V j) (kids j) ∧ inc 0 m (kids j)) : ∀ (l : List Nat) (x : Int32) (k lo : Nat), ch F x l → inc lo m l → k + l.length = n → ((∀ j ∈ l, bnd K kids j) → post 1) → (¬ (∀ j ∈ l, bnd K kids j) → post 0) → wp_Translator_areBindings_L14 (nI m) F K V post (l.length + 1) (nI n) x (nI k) := by
  intro l
  induction l with
  | nil =>
    intro x k lo h hi hl h1 h0
    have e : n = k := hl.symm
    subst e
    exact ⟨fun _ => h1 (fun j hj => (List.not_mem_nil hj).elim), fun c => absurd (Int32.le_refl _) c⟩
  | cons j l ih =>
    intro x k lo h hi hl h1 h0
    obtain ⟨e, h⟩ := h
    obtain ⟨i1, i2, i3⟩ := hi
    have hl' : k + (l.length + 1) = n := hl
    have vj : vp_in (nI j) 200 := vp_in_nI (by omega) (by decide)
    refine ⟨fun c => absurd c (nI_ge (by omega) (by omega)), fun _ => ?_⟩
    rw [e]
    unfold wp_Datum_firstPartOf
    rw [nI_clamp (n := j) (by omega)]
    refine ⟨vj, fun c2 => ⟨vj, ?_⟩, fun c2 => ?_⟩
    · obtain ⟨t1, t2⟩ := hT j i2 c2
      have tl := t2.len
      refine q_countFrom hm t1 t2 ⟨fun c3 => ?_, fun c3 => h0 (fun g => c3 (by rw [(g j List.mem_cons_self).2.1]; rfl))⟩
      have c4 : (kids j).length = 2 := (nI_eq (b := 2) (by omega) (by decide)).mp c3
      have hd := t1.hd
      obtain ⟨a, t, ek⟩ : ∃ a t, kids j = a :: t := by
        cases hk : kids j with
        | nil => rw [hk] at c4; exact absurd c4 (by decide)
        | cons a t => exact ⟨a, t, rfl⟩
      rw [ek] at hd t2
      have ha : a < m := t2.2.1
      have ehd : (kids j).headD 0 = a := by rw [ek]; rfl
      have hd : V j = nI a := hd
      rw [hd]
      unfold wp_Datum_kindOf wp_Datum_followerOf
      rw [nI_clamp (n := a) (by omega), nI_clamp (n := j) (by omega), nI_1]
      refine ⟨vp_in_nI (by omega) (by decide), fun c5 => ⟨vj, ih (F j) (k + 1) _ h i3 (by omega) (fun g => h1 (fun y hy => ?_)) (fun g => h0 (fun g2 => g (fun y hy => g2 y (List.mem_cons_of_mem _ hy))))⟩, fun c5 => h0 (fun g => c5 (by have := (g j List.mem_cons_self).2.2; rw [ehd] at this; exact this))⟩
      rcases List.mem_cons.mp hy with e2 | hy
      · rw [e2]
        exact ⟨c2, c4, by rw [ehd]; exact c5⟩
      · exact g y hy
    · refine q_countFrom (l := []) hm rfl trivial ⟨fun c3 => absurd c3 (by decide), fun _ => h0 (fun g => c2 (g j List.mem_cons_self).1)⟩
theorem q_areB {m : Nat} {F K V : Nat → Int32} {kids : Nat → List Nat} {l : List Nat} {x : Int32} {post : Int32 → Prop} (hm : m ≤ 200) (hT : ∀ j, j < m → K j = 2 → ch F (V j) (kids j) ∧ inc 0 m (kids j)) (h : ch F x l) (hi : inc 0 m l) (h1 : (∀ j ∈ l, bnd K kids j) → post 1) (h0 : ¬ (∀ j ∈ l, bnd K kids j) → post 0) : wp_Translator_areBindings (nI m) F K V x post := by
  have := hi.len
  exact q_countFrom hm h hi ⟨_, q_areB_L14 hm (by omega) hT l x 0 0 h hi (by omega) h1 h0⟩
/-! bindings, on the reference's side -/
theorem q_shaped_L29_no {b m k n : Nat} {C N S : Nat → Int32} {lk : List Nat} {post : Int32 → Prop} (hb : b ≤ 200) (hm : m ≤ 200) (hkn : k < 400) (hck : chM b N (C k) lk) (hik : inc 0 m lk) (hn : n + 1 = lk.length) (h0 : post 0) : ∀ r i, i + r = n + 1 → wp_Model_shaped_L29 C N S post (r + 1) (nI k) (nI n) 0 (nI i) := by
  have nb : narrow .boolean (.int 0) = .int 0 := by decide
  have hlen := hik.len
  intro r
  induction r with
  | zero =>
    intro i e
    exact ⟨fun _ => ⟨nb, h0⟩, fun c => absurd (nI_lt (by omega) (by omega)) c⟩
  | succ r ih =>
    intro i e
    refine ⟨fun c => absurd c (Int32.not_lt.mpr (nI_le (by omega) (by omega))), fun _ => q_mpart (s := i) hb hm hkn (by omega) hck hik ⟨fun _ => ?_, fun c => absurd rfl c⟩⟩
    unfold wp_Model_shaped_J90 wp_Model_shaped_J91
    rw [nI_1]
    exact ih (i + 1) (by omega)
theorem q_shaped_L29 {b m k n : Nat} {K V F C N S W : Nat → Int32} {kids : Nat → List Nat} {lk : List Nat} {post : Int32 → Prop} (hb : b ≤ 200) (hm : m ≤ 200) (hkn : k < 400) (hck : chM b N (C k) lk) (hik : inc 0 m lk) (hn : n + 1 = lk.length)
    (hT : ∀ j, j < m → (K j = 1 ↔ S (b + j) = 1) ∧ (K j = 2 ↔ S (b + j) = 2) ∧ (K j = 2 → chM b N (C (b + j)) (kids j) ∧ inc 0 m (kids j))) :
    ∀ r i, i + r = n + 1 → ((∀ j ∈ lk.drop i, bnd K kids j) → post 1) → (¬ (∀ j ∈ lk.drop i, bnd K kids j) → post 0) → wp_Model_shaped_L29 C N S post (r + 1) (nI k) (nI n) 1 (nI i) := by
  have nb : narrow .boolean (.int 1) = .int 1 := by decide
  have hlen := hik.len
  have hpos : ∀ j ∈ lk, j < m := by
    have key : ∀ (l : List Nat) (lo : Nat), inc lo m l → ∀ j ∈ l, j < m := by
      intro l
      induction l with
      | nil => intro lo _ j hj; exact (List.not_mem_nil hj).elim
      | cons a l ih =>
        intro lo h j hj
        rcases List.mem_cons.mp hj with e | hj
        · rw [e]; exact h.2.1
        · exact ih _ h.2.2 j hj
    exact key lk 0 hik
  intro r
  induction r with
  | zero =>
    intro i e h1 h0
    refine ⟨fun _ => ⟨nb, h1 (fun j hj => ?_)⟩, fun c => absurd (nI_lt (by omega) (by omega)) c⟩
    rw [show i = lk.length by omega, List.drop_length] at hj
    exact (List.not_mem_nil hj).elim
  | succ r ih =>
    intro i e h1 h0
    have hil : i < lk.length := by omega
    have ed : lk.drop i = lk[i] :: lk.drop (i + 1) := List.drop_eq_getElem_cons hil
    have hj : lk[i] < m := hpos _ (List.getElem_mem hil)
    obtain ⟨j, ej⟩ : ∃ j, lk[i] = j := ⟨_, rfl⟩
    rw [ej] at ed hj
    obtain ⟨t1, t2, t3⟩ := hT j hj
    have no : ¬ bnd K kids j → wp_Model_shaped_J90 C N S (wp_Model_shaped_L29 C N S post (r + 1)) post (nI k) (nI n) (nI i) := fun g => by
      unfold wp_Model_shaped_J90 wp_Model_shaped_J91
      rw [nI_1]
      exact q_shaped_L29_no hb hm hkn hck hik hn (h0 (fun g2 => g (g2 j (by rw [ed]; exact List.mem_cons_self)))) r (i + 1) (by omega)
    refine ⟨fun c => absurd c (Int32.not_lt.mpr (nI_le (by omega) (by omega))), fun _ => q_mpart (s := i) hb hm hkn (by omega) hck hik ⟨fun c => absurd c (by decide), fun _ => ?_⟩⟩
    rw [ed]
    show vp_in (nI (b + j)) 400 ∧ ((S (nI (b + j)).toNatClampNeg = 2 → wp_Model_parts C N (nI (b + j)) _) ∧ (¬ S (nI (b + j)).toNatClampNeg = 2 → _))
    rw [nI_clamp (n := b + j) (by omega)]
    have vj : vp_in (nI (b + j)) 400 := vp_in_nI (by omega) (by decide)
    refine ⟨vj, fun c => ?_, fun c => no (fun g => c (t2.mp g.1))⟩
    obtain ⟨u1, u2⟩ := t3 (t2.mpr c)
    have ul := u2.len
    refine q_mparts hb hm (by omega) u1 u2 ⟨fun c3 => ?_, fun c3 => no (fun g => c3 (by rw [g.2.1]; rfl))⟩
    have c4 : (kids j).length = 2 := (nI_eq (b := 2) (by omega) (by decide)).mp c3
    have hd := u1.hd
    obtain ⟨a, t, ek⟩ : ∃ a t, kids j = a :: t := by
      cases hk : kids j with
      | nil => rw [hk] at c4; exact absurd c4 (by decide)
      | cons a t => exact ⟨a, t, rfl⟩
    rw [ek] at hd u2
    have ha : a < m := u2.2.1
    have ehd : (kids j).headD 0 = a := by rw [ek]; rfl
    have hd : C (b + j) = nI (b + a) := hd
    show vp_in (nI (b + j)) 400 ∧ vp_in (C (nI (b + j)).toNatClampNeg) 400 ∧ ((S (C (nI (b + j)).toNatClampNeg).toNatClampNeg = 1 → _) ∧ (¬ S (C (nI (b + j)).toNatClampNeg).toNatClampNeg = 1 → _))
    rw [nI_clamp (n := b + j) (by omega), hd, nI_clamp (n := b + a) (by omega)]
    obtain ⟨s1, -, -⟩ := hT a ha
    refine ⟨vj, vp_in_nI (by omega) (by decide), fun c5 => ?_, fun c5 => no (fun g => c5 (s1.mp (by have := g.2.2; rw [ehd] at this; exact this)))⟩
    unfold wp_Model_shaped_J91
    rw [nI_1]
    refine ih (i + 1) (by omega) (fun g => h1 (fun y hy => ?_)) (fun g => h0 (fun g2 => g (fun y hy => g2 y (by rw [ed]; exact List.mem_cons_of_mem _ hy))))
    rw [ed] at hy
    rcases List.mem_cons.mp hy with e2 | hy
    · rw [e2]
      exact ⟨t2.mpr c, c4, by rw [ehd]; exact s1.mpr c5⟩
    · exact g y hy
/-! whether a form has its parts, the class's side: l is the whole list's parts, the form's name first -/
def shp (K : Nat → Int32) (kids : Nat → List Nat) (i : Nat) (l : List Nat) : Prop :=
  (i = 11 → l.length = 2) ∧ (i = 12 → l.length = 4) ∧ (i = 13 → l.length = 3 ∧ K (l.getD 1 0) = 2 ∧ ∀ j ∈ kids (l.getD 1 0), K j = 1) ∧
  (i = 14 ∨ i = 15 → 2 ≤ l.length ∧ ∀ j ∈ l.drop 2, bnd K kids j) ∧ (2 < i ∧ i < 11 → l.length = 3) ∧ (i ≤ 2 → l.length = 2)
theorem inc.drop {m : Nat} : ∀ (n : Nat) {l : List Nat} {lo : Nat}, inc lo m l → inc lo m (l.drop n)
  | 0, _, _, h => h
  | _ + 1, [], _, _ => trivial
  | n + 1, _ :: l, _, h => (inc.drop n h.2.2).weak (by have := h.1; omega)
theorem ch.drop {F : Nat → Int32} : ∀ (n : Nat) {l : List Nat} {x : Int32}, ch F x l → ch F (hdp (l.drop n)) (l.drop n)
  | 0, l, x, h => by rw [List.drop_zero, ← h.hd]; exact h
  | _ + 1, [], _, h => rfl
  | n + 1, _ :: l, _, h => ch.drop n h.2
theorem q_hasParts {m i j0 : Nat} {F K V : Nat → Int32} {kids : Nat → List Nat} {t : List Nat} {post : Int32 → Prop} (hm : m ≤ 200) (hi : i < 16) (hT : ∀ j, j < m → K j = 2 → ch F (V j) (kids j) ∧ inc 0 m (kids j)) (h : ch F (nI j0) (j0 :: t)) (hl : inc 0 m (j0 :: t)) (h1 : shp K kids i (j0 :: t) → post 1) (h0 : ¬ shp K kids i (j0 :: t) → post 0) : wp_Translator_hasItsParts (nI m) F K V (nI i) (nI j0) post := by
  have len := hl.len
  have hj0 : j0 < m := hl.2.1
  have ni : ∀ a : Nat, a < 100 → (nI i = nI a ↔ i = a) := fun a ha => nI_eq (by omega) (by omega)
  have nl : ∀ a : Nat, a < 100 → (nI (j0 :: t).length = nI a ↔ (j0 :: t).length = a) := fun a ha => nI_eq (by omega) (by omega)
  have v0 : vp_in (nI j0) 200 := vp_in_nI (by omega) (by decide)
  refine q_countFrom hm h hl ⟨fun c => ?_, fun c11 => ⟨fun c => ?_, fun c12 => ⟨fun c => ?_, fun c13 => ⟨fun c => ?_, fun c14 => ⟨fun c => ?_, fun c15 => ?_⟩⟩⟩⟩⟩
  · have c : i = 11 := (ni 11 (by omega)).mp c
    refine ⟨fun e => h1 ⟨fun _ => (nl 2 (by omega)).mp e, fun z => absurd z (by omega), fun z => absurd z (by omega), fun z => absurd z (by omega), fun z => absurd z (by omega), fun z => absurd z (by omega)⟩, fun e => h0 (fun g => e ((nl 2 (by omega)).mpr (g.1 c)))⟩
  · have c : i = 12 := (ni 12 (by omega)).mp c
    refine ⟨fun e => h1 ⟨fun z => absurd z (by omega), fun _ => (nl 4 (by omega)).mp e, fun z => absurd z (by omega), fun z => absurd z (by omega), fun z => absurd z (by omega), fun z => absurd z (by omega)⟩, fun e => h0 (fun g => e ((nl 4 (by omega)).mpr (g.2.1 c)))⟩
  · have c : i = 13 := (ni 13 (by omega)).mp c
    refine ⟨fun e => ?_, fun e => h0 (fun g => e ((nl 3 (by omega)).mpr (g.2.2.1 c).1))⟩
    have e3 := (nl 3 (by omega)).mp e
    cases t with
    | nil => exact absurd e3 (by show ¬ 0 + 1 = 3; omega)
    | cons s t =>
      have hs : s < m := hl.2.2.2.1
      have es : F j0 = nI s := h.2.1
      unfold wp_Datum_followerOf
      rw [nI_clamp (n := j0) (by omega), es]
      refine ⟨v0, q_isList (l := kids s) hm hs (fun k => hT s hs k) (fun k g => ⟨fun z => absurd z (by decide), fun _ => h1 ⟨fun z => absurd z (by omega), fun z => absurd z (by omega), fun _ => ⟨e3, k, g⟩, fun z => absurd z (by omega), fun z => absurd z (by omega), fun z => absurd z (by omega)⟩⟩) (fun g => ⟨fun _ => h0 (fun g2 => g (g2.2.2.1 c).2), fun z => absurd rfl z⟩)⟩
  · have c : i = 14 := (ni 14 (by omega)).mp c
    refine ⟨fun e => h0 (fun g => ?_), fun e => ?_⟩
    · have e2 := (nI_ltI (a := (j0 :: t).length) (b := 2) (by omega) (by decide)).mp e
      have := (g.2.2.2.1 (Or.inl c)).1
      omega
    · have e2 : 2 ≤ (j0 :: t).length := by
        rcases Nat.lt_or_ge (j0 :: t).length 2 with z | z
        · exact absurd (nI_lt z (by decide)) e
        · exact z
      refine q_partBehind (s := 2) hm (by omega) h hl (q_areB hm hT (ch.drop 2 h) (inc.drop 2 hl) (fun g => ⟨fun z => absurd z (by decide), fun _ => h1 ⟨fun z => absurd z (by omega), fun z => absurd z (by omega), fun z => absurd z (by omega), fun _ => ⟨e2, g⟩, fun z => absurd z (by omega), fun z => absurd z (by omega)⟩⟩) (fun g => ⟨fun _ => h0 (fun g2 => g (g2.2.2.2.1 (Or.inl c)).2), fun z => absurd rfl z⟩))
  · have c : i = 15 := (ni 15 (by omega)).mp c
    refine ⟨fun e => h0 (fun g => ?_), fun e => ?_⟩
    · have e2 := (nI_ltI (a := (j0 :: t).length) (b := 2) (by omega) (by decide)).mp e
      have := (g.2.2.2.1 (Or.inr c)).1
      omega
    · have e2 : 2 ≤ (j0 :: t).length := by
        rcases Nat.lt_or_ge (j0 :: t).length 2 with z | z
        · exact absurd (nI_lt z (by decide)) e
        · exact z
      refine q_partBehind (s := 2) hm (by omega) h hl (q_areB hm hT (ch.drop 2 h) (inc.drop 2 hl) (fun g => ⟨fun z => absurd z (by decide), fun _ => h1 ⟨fun z => absurd z (by omega), fun z => absurd z (by omega), fun z => absurd z (by omega), fun _ => ⟨e2, g⟩, fun z => absurd z (by omega), fun z => absurd z (by omega)⟩⟩) (fun g => ⟨fun _ => h0 (fun g2 => g (g2.2.2.2.1 (Or.inr c)).2), fun z => absurd rfl z⟩))
  · have d11 : i ≠ 11 := fun z => c11 ((ni 11 (by omega)).mpr z)
    have d12 : i ≠ 12 := fun z => c12 ((ni 12 (by omega)).mpr z)
    have d13 : i ≠ 13 := fun z => c13 ((ni 13 (by omega)).mpr z)
    have d14 : i ≠ 14 := fun z => c14 ((ni 14 (by omega)).mpr z)
    have d15 : i ≠ 15 := fun z => c15 ((ni 15 (by omega)).mpr z)
    refine ⟨fun c => ?_, fun c => ?_⟩
    · have c : 2 < i := (nI_ltI (a := 2) (b := i) (by decide) (by omega)).mp c
      exact ⟨fun e => h1 ⟨fun z => absurd z d11, fun z => absurd z d12, fun z => absurd z d13, fun z => absurd z (by omega), fun _ => (nl 3 (by omega)).mp e, fun z => absurd z (by omega)⟩, fun e => h0 (fun g => e ((nl 3 (by omega)).mpr (g.2.2.2.2.1 ⟨c, by omega⟩)))⟩
    · have c : i ≤ 2 := by
        rcases Nat.lt_or_ge 2 i with z | z
        · exact absurd (nI_lt z (by omega)) c
        · exact z
      exact ⟨fun e => h1 ⟨fun z => absurd z d11, fun z => absurd z d12, fun z => absurd z d13, fun z => absurd z (by omega), fun z => absurd z (by omega), fun _ => (nl 2 (by omega)).mp e⟩, fun e => h0 (fun g => e ((nl 2 (by omega)).mpr (g.2.2.2.2.2 c)))⟩
/-! whether a form has its parts, the reference's side -/
theorem fpi_facts : ∀ i, i < 16 → (fpi.getD i 0 < 14 ↔ i < 14) ∧ (fpi.getD i 0 = 13 ↔ i = 13) ∧ (fpi.getD i 0 = 12 ↔ i = 12) ∧ (i < 12 → (4 ≤ fpi.getD i 0 ↔ 2 < i ∧ i < 11)) ∧ fpi.getD i 0 < 16 := by decide
theorem q_shaped {b m k i j0 : Nat} {K V F C N S W : Nat → Int32} {kids : Nat → List Nat} {t : List Nat} {post : Int32 → Prop} (hb : b ≤ 200) (hm : m ≤ 200) (hi : i < 16) (hkn : k < 400)
    (hT : ∀ j, j < m → (K j = 1 ↔ S (b + j) = 1) ∧ (K j = 2 ↔ S (b + j) = 2) ∧ (K j = 2 → chM b N (C (b + j)) (kids j) ∧ inc 0 m (kids j)))
    (h : chM b N (C k) (j0 :: t)) (hl : inc 0 m (j0 :: t)) (h1 : shp K kids i (j0 :: t) → post 1) (h0 : ¬ shp K kids i (j0 :: t) → post 0) : wp_Model_shaped C N S (nI k) (nI (fpi.getD i 0)) post := by
  have len := hl.len
  obtain ⟨f1, f2, f3, f4, f5⟩ := fpi_facts i hi
  generalize fpi.getD i 0 = w at f1 f2 f3 f4 f5 ⊢
  have el : nI (j0 :: t).length - 1 = nI t.length := nI_pred t.length
  have tl : t.length < 200 := by
    have : t.length + 1 ≤ m - 0 := len
    omega
  have nl : ∀ a : Nat, a < 100 → (nI t.length = nI a ↔ t.length = a) := fun a ha => nI_eq (by omega) (by omega)
  have ll : (j0 :: t).length = t.length + 1 := rfl
  refine q_mparts hb hm hkn h hl ?_
  rw [el]
  have no132 : ¬ shp K kids i (j0 :: t) → wp_Model_shaped_J132 C N S post (nI k) := fun g => by
    unfold wp_Model_shaped_J132 wp_Model_shaped_J133
    refine ⟨fun _ => ?_, fun c => absurd rfl c⟩
    exact ⟨_, q_shaped_L159_no (n := 0) (by omega) (h0 g) 0 0 rfl⟩
  refine ⟨fun c => ?_, fun c => ?_⟩
  · have c : w < 14 := (nI_ltI (a := w) (b := 14) (by omega) (by decide)).mp c
    have ci : i < 14 := f1.mp c
    refine ⟨fun c13 => ?_, fun c13 => ⟨fun c12 => ?_, fun c12 => ⟨fun c4 => ?_, fun c4 => ?_⟩⟩⟩
    · have i13 : i = 13 := f2.mp ((nI_eq (b := 13) (by omega) (by decide)).mp c13)
      refine ⟨fun e => ?_, fun e => no132 (fun g => e ((nl 2 (by omega)).mpr (by have := (g.2.2.1 i13).1; omega)))⟩
      have e2 := (nl 2 (by omega)).mp e
      cases t with
      | nil => exact absurd e2 (by show ¬ 0 = 2; omega)
      | cons s t =>
        have hs : s < m := hl.2.2.2.1
        obtain ⟨t1, t2, t3⟩ := hT s hs
        refine q_mpart (s := 1) hb hm hkn (by show 1 ≤ _ + 1; omega) h hl ?_
        show vp_in (nI (b + s)) 400 ∧ ((S (nI (b + s)).toNatClampNeg = 2 → _) ∧ (¬ S (nI (b + s)).toNatClampNeg = 2 → _))
        rw [nI_clamp (n := b + s) (by omega)]
        refine ⟨vp_in_nI (by omega) (by decide), fun c2 => ?_, fun c2 => no132 (fun g => c2 (t2.mp (g.2.2.1 i13).2.1))⟩
        obtain ⟨u1, u2⟩ := t3 (t2.mpr c2)
        unfold wp_Model_shaped_J133
        refine ⟨fun z => absurd z (by decide), fun _ => q_mpart (s := 1) hb hm hkn (by show 1 ≤ _ + 1; omega) h hl ?_⟩
        show wp_Model_parts C N (nI (b + s)) _
        refine q_mparts hb hm (by omega) u1 u2 ?_
        have kp : ∀ j ∈ kids s, j < m := by
          have key : ∀ (l : List Nat) (lo : Nat), inc lo m l → ∀ j ∈ l, j < m := by
            intro l
            induction l with
            | nil => intro lo _ j hj; exact (List.not_mem_nil hj).elim
            | cons a l ih =>
              intro lo h j hj
              rcases List.mem_cons.mp hj with e | hj
              · rw [e]; exact h.2.1
              · exact ih _ h.2.2 j hj
          exact key _ 0 u2
        refine ⟨_, q_shaped_L159 (s := s) hb hm hkn h hl (by show 1 ≤ _ + 1; omega) rfl hs u1 u2 (kids s).length 0 (by omega) (fun g => h1 ?_) (fun g => h0 (fun g2 => g (fun j hj => (hT j (kp j hj)).1.mp ((g2.2.2.1 i13).2.2 j hj))))⟩
        exact ⟨fun z => absurd z (by omega), fun z => absurd z (by omega), fun _ => ⟨by rw [ll, e2], t2.mpr c2, fun j hj => (hT j (kp j hj)).1.mpr (g j hj)⟩, fun z => absurd z (by omega), fun z => absurd z (by omega), fun z => absurd z (by omega)⟩
    · have i12 : i = 12 := f3.mp ((nI_eq (b := 12) (by omega) (by decide)).mp c12)
      exact ⟨fun e => h1 ⟨fun z => absurd z (by omega), fun _ => by rw [ll, (nl 3 (by omega)).mp e], fun z => absurd z (by omega), fun z => absurd z (by omega), fun z => absurd z (by omega), fun z => absurd z (by omega)⟩, fun e => h0 (fun g => e ((nl 3 (by omega)).mpr (by have := g.2.1 i12; omega)))⟩
    · have n13 : i ≠ 13 := fun z => c13 (by rw [f2.mpr z]; rfl)
      have n12 : i ≠ 12 := fun z => c12 (by rw [f3.mpr z]; rfl)
      have c4 : 2 < i ∧ i < 11 := (f4 (by omega)).mp ((nI_leI (a := 4) (b := w) (by decide) (by omega)).mp c4)
      exact ⟨fun e => h1 ⟨fun z => absurd z (by omega), fun z => absurd z (by omega), fun z => absurd z (by omega), fun z => absurd z (by omega), fun _ => by rw [ll, (nl 2 (by omega)).mp e], fun z => absurd z (by omega)⟩, fun e => h0 (fun g => e ((nl 2 (by omega)).mpr (by have := g.2.2.2.2.1 c4; omega)))⟩
    · have n13 : i ≠ 13 := fun z => c13 (by rw [f2.mpr z]; rfl)
      have n12 : i ≠ 12 := fun z => c12 (by rw [f3.mpr z]; rfl)
      have c4 : ¬ (2 < i ∧ i < 11) := fun z => c4 ((nI_leI (a := 4) (b := w) (by decide) (by omega)).mpr ((f4 (by omega)).mpr z))
      refine ⟨fun e => h1 ⟨fun _ => by rw [ll, (nl 1 (by omega)).mp e], fun z => absurd z (by omega), fun z => absurd z (by omega), fun z => absurd z (by omega), fun z => absurd z c4, fun _ => by rw [ll, (nl 1 (by omega)).mp e]⟩, fun e => h0 (fun g => e ((nl 1 (by omega)).mpr ?_))⟩
      rcases Nat.lt_or_ge 2 i with z | z
      · have := g.1 (by omega)
        omega
      · have := g.2.2.2.2.2 z
        omega
  · have c : ¬ i < 14 := fun z => c (nI_lt (f1.mpr z) (by decide))
    have c45 : i = 14 ∨ i = 15 := by omega
    refine ⟨fun e => ?_, fun e => ?_⟩
    · have e2 : t.length < 1 := (nI_ltI (a := t.length) (b := 1) (by omega) (by decide)).mp e
      have nb : narrow .boolean (.int 0) = .int 0 := by decide
      refine ⟨1, fun _ => ⟨nb, h0 (fun g => ?_)⟩, fun z => absurd (nI_lt (a := t.length) (b := 2) (by omega) (by decide)) z⟩
      have := (g.2.2.2.1 c45).1
      omega
    · have e2 : 1 ≤ t.length := by
        rcases Nat.lt_or_ge t.length 1 with z | z
        · exact absurd (nI_lt z (by decide)) e
        · exact z
      refine ⟨_, q_shaped_L29 (K := K) (V := V) (F := F) (W := W) (kids := kids) hb hm hkn h hl ll.symm hT (t.length - 1) 2 (by omega) (fun g => h1 ?_) (fun g => h0 (fun g2 => g (g2.2.2.2.1 c45).2))⟩
      exact ⟨fun z => absurd z (by omega), fun z => absurd z (by omega), fun z => absurd z (by omega), fun _ => ⟨by omega, g⟩, fun z => absurd z (by omega), fun z => absurd z (by omega)⟩
/-! the nodes under a list stand between it and the first index behind it -/
def CONT (en : Nat → Nat) : Nat → List Nat → Nat → Prop
  | lo, [], hi => lo = hi
  | lo, a :: t, hi => a = lo ∧ CONT en (en a) t hi
def CTI (m : Nat) (K : Nat → Int32) (kids : Nat → List Nat) (en : Nat → Nat) : Prop := ∀ j, j < m → (K j ≠ 2 → en j = j + 1) ∧ (K j = 2 → CONT en (j + 1) (kids j) (en j))
theorem cont_of {b m q : Nat} {K V F O P S W C N Q R : Nat → Int32} {kids : Nat → List Nat} {w dp : Nat → Nat} (h : RX b m 0 q K V F O P S W C N Q R) (hm : 0 < m) (hT : TREE b m q K V F S W C N kids w dp) : ∃ en, CTI m K kids en := by
  obtain ⟨-, cs, ce, pa, dp', -, hE⟩ := h
  rcases hE with z | ⟨en, pe, A, B, C, D, E, Z⟩
  · omega
  have hm2 := hT.1
  have walk : ∀ (j : Nat) (t : List Nat) (a : Nat), 0 < a → a < m → pe a = j → ch F (F a) t → inc (a + 1) m t → CONT en (en a) t (en j) := by
    intro j t
    induction t with
    | nil =>
      intro a h0 h1 h2 h3 _
      have := (B a h0 h1 h3).1 (fun i hi => absurd hi (by omega))
      show en a = en j
      rw [this, h2]
    | cons c t ih =>
      intro a h0 h1 h2 h3 h4
      obtain ⟨e1, e2⟩ := h3
      rcases (A a h1).2.1 with y | ⟨y1, y2, y3⟩
      · exact absurd (e1.symm.trans y) (nI_m1 (by have := h4.2.1; omega))
      · have ec : c = en a := (nI_eq (by have := h4.2.1; omega) (by omega)).mp (e1.symm.trans y1)
        refine ⟨ec, ?_⟩
        exact ih c (by have := h4.1; omega) h4.2.1 (by rw [ec, y3]; exact h2) e2 h4.2.2
  refine ⟨en, fun j hj => ⟨(A j hj).1, fun hk => ?_⟩⟩
  rcases (hT.2 j hj).2.2.2 with z | z | z
  · exact absurd (hk.symm.trans z.1) (by decide)
  · exact absurd (hk.symm.trans z.1) (by decide)
  obtain ⟨-, -, -, z4, -, z6, -⟩ := z
  cases hkids : kids j with
  | nil =>
    rw [hkids] at z4
    exact ((A j hj).2.2.2 hk (fun i hi => absurd hi (by omega)) z4).symm
  | cons a t =>
    rw [hkids] at z4 z6
    rcases (A j hj).2.2.1 hk with y | ⟨y1, y2, y3⟩
    · exact absurd (z4.1.symm.trans y) (nI_m1 (by have := z6.2.1; omega))
    · have ea : a = j + 1 := (nI_eq (by have := z6.2.1; omega) (by omega)).mp (z4.1.symm.trans y1)
      exact ⟨ea, walk j t a (by omega) z6.2.1 (by rw [ea]; exact y3) z4.2 z6.2.2⟩
theorem CTI.to {m : Nat} {K K' : Nat → Int32} {kids : Nat → List Nat} {en : Nat → Nat} (h : CTI m K kids en) (e : ∀ j, j < m → K' j = K j) : CTI m K' kids en := fun j hj => by
  rw [e j hj]
  exact h j hj
