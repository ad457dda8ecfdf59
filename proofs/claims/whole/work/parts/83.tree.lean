/-! the tree that both tables hold: each list's parts, each node's characters, its depth -/
def wsum (w : Nat → Nat) (l : List Nat) : Nat := l.foldr (fun j a => w j + a) 0
def TREE (b m q : Nat) (K V F S W C N : Nat → Int32) (kids : Nat → List Nat) (w dp : Nat → Nat) : Prop :=
  m ≤ 200 ∧ ∀ j, j < m → 1 ≤ w j ∧ w j ≤ q ∧ dp j ≤ 12 ∧
    ((K j = 0 ∧ S (b + j) = 0 ∧ V j = W (b + j) ∧ C (b + j) = -1) ∨
     (K j = 1 ∧ S (b + j) = 1 ∧ nameR (V j) (W (b + j)) ∧ C (b + j) = -1 ∧ ∃ l : List Nat, isNm l ∧ V j = nI (enc 32 l) ∧ w j = l.length) ∨
     (K j = 2 ∧ S (b + j) = 2 ∧ dp j ≤ 11 ∧ ch F (V j) (kids j) ∧ chM b N (C (b + j)) (kids j) ∧ inc (j + 1) m (kids j) ∧ wsum w (kids j) + 2 ≤ w j ∧ ∀ c ∈ kids j, dp c = dp j + 1))
theorem chain_sum {b m q : Nat} {K V F O P S W C N Q R : Nat → Int32} {cs ce pa dp : Nat → Nat} (hR : RD b m 0 K V F O P S W C N Q R) (g : GI m 0 q K V F O P cs ce pa dp) {j : Nat} : ∀ r p, p < m → j < p → m ≤ p + r → pa p = j → ∃ l, ch F (nI p) (p :: l) ∧ chM b N (nI (b + p)) (p :: l) ∧ inc p m (p :: l) ∧ wsum (fun x => ce x - cs x) (p :: l) + cs p + 1 ≤ ce j ∧ ∀ c ∈ p :: l, dp c = dp p := by
  obtain ⟨h1, h2, h3, h4⟩ := hR
  obtain ⟨A, B, Cc, D, E, Nn, Gg⟩ := g
  have cl : ∀ x, clo 0 O x := fun x i hi => absurd hi (by omega)
  intro r
  induction r with
  | zero => intro p hp _ hr _; exact absurd hr (by omega)
  | succ r ih =>
    intro p hp hjp hr hpa
    obtain ⟨a1, -⟩ := h3 p hp
    have ap := (A p hp).2.2.2 (cl p)
    have dpp := (D p (by omega) hp).2.2 (cl _)
    rw [hpa] at dpp
    rcases B p hp with e | ⟨p2, e1, e2, e3, e4, e5, e6, e7⟩
    · rcases a1 with ⟨x1, x2⟩ | ⟨p1, x1, x2, x3⟩
      · refine ⟨[], ⟨rfl, x1⟩, ⟨rfl, x2⟩, ⟨Nat.le_refl _, hp, trivial⟩, ?_, fun c hc => ?_⟩
        · show (ce p - cs p) + 0 + cs p + 1 ≤ ce j
          omega
        · rw [List.mem_singleton.mp hc]
      · exact absurd (x2.symm.trans e) (nI_m1 (by omega))
    · rcases a1 with ⟨x1, x2⟩ | ⟨p1, x1, x2, x3⟩
      · exact absurd (e2.symm.trans x1) (nI_m1 (by omega))
      · have ep : p1 = p2 := (nI_eq (by omega) (by omega)).mp (x2.symm.trans e2)
        subst ep
        obtain ⟨l, g1, g2, g3, g4, g5⟩ := ih p1 x1 (by omega) (by omega) (by rw [e6]; exact hpa)
        refine ⟨p1 :: l, ⟨rfl, by rw [x2]; exact g1⟩, ⟨rfl, by rw [x3]; exact g2⟩, ⟨Nat.le_refl _, hp, g3.weak e3⟩, ?_, fun c hc => ?_⟩
        · show (ce p - cs p) + wsum (fun x => ce x - cs x) (p1 :: l) + cs p + 1 ≤ ce j
          omega
        · rcases List.mem_cons.mp hc with e | hc
          · rw [e]
          · rw [g5 c hc, e7]
theorem tree_of {b m q : Nat} {K V F O P S W C N Q R : Nat → Int32} (h : RX b m 0 q K V F O P S W C N Q R) : ∃ (kids : Nat → List Nat) (w dp : Nat → Nat), TREE b m q K V F S W C N kids w dp := by
  obtain ⟨hR, cs, ce, pa, dp, g⟩ := h
  have hR2 := hR
  have g2 := g
  obtain ⟨h1, h2, h3, h4⟩ := hR2
  obtain ⟨A, B, Cc, D, E, Nn, Gg⟩ := g2
  have cl : ∀ x, clo 0 O x := fun x i hi => absurd hi (by omega)
  have key : ∀ j, ∃ l : List Nat, j < m → K j = 2 → ch F (V j) l ∧ chM b N (C (b + j)) l ∧ inc (j + 1) m l ∧ wsum (fun x => ce x - cs x) l + 2 ≤ ce j - cs j ∧ ∀ c ∈ l, dp c = dp j + 1 := by
    intro j
    by_cases hj : j < m ∧ K j = 2
    · obtain ⟨hj, hk⟩ := hj
      have aj := (A j hj).2.2.2 (cl j)
      obtain ⟨-, nd⟩ := h3 j hj
      have hp : ptr b m (V j) (C (b + j)) := by
        rcases nd with nd | nd | nd
        · exact absurd (hk.symm.trans nd.1) (by decide)
        · exact absurd (hk.symm.trans nd.1) (by decide)
        · exact nd.2.2
      have hlt := Gg j hj hk (cl j)
      rcases Cc j hj hk with e | ⟨p, e1, e2, e3, e4, e5, e6⟩
      · rcases hp with ⟨x1, x2⟩ | ⟨p, x1, x2, x3⟩
        · refine ⟨[], fun _ _ => ⟨x1, x2, trivial, ?_, fun c hc => (List.not_mem_nil hc).elim⟩⟩
          show 0 + 2 ≤ ce j - cs j
          omega
        · exact absurd (x2.symm.trans e) (nI_m1 (by omega))
      · rcases hp with ⟨x1, x2⟩ | ⟨p', x1, x2, x3⟩
        · exact absurd (e2.symm.trans x1) (nI_m1 (by omega))
        · have ep : p' = p := (nI_eq (by omega) (by omega)).mp (x2.symm.trans e2)
          subst ep
          obtain ⟨l, g1, g2, g3, g4, g5⟩ := chain_sum hR g m p' e1 e3 (by omega) e5
          refine ⟨p' :: l, fun _ _ => ⟨by rw [x2]; exact g1, by rw [x3]; exact g2, g3.weak e3, ?_, fun c hc => by rw [g5 c hc, e6]⟩⟩
          omega
    · exact ⟨[], fun z1 z2 => absurd ⟨z1, z2⟩ hj⟩
  refine ⟨fun j => (key j).choose, fun x => ce x - cs x, dp, h1, fun j hj => ?_⟩
  have aj := A j hj
  have ac := aj.2.2.2 (cl j)
  obtain ⟨-, nd⟩ := h3 j hj
  refine ⟨by show 1 ≤ ce j - cs j; omega, by show ce j - cs j ≤ q; omega, aj.2.1, ?_⟩
  rcases nd with ⟨n1, n2, n3, n4⟩ | ⟨n1, n2, n3, n4⟩ | ⟨n1, n2, n3⟩
  · exact Or.inl ⟨n1, n2, n3, n4⟩
  · obtain ⟨l, l1, l2, l3⟩ := Nn j hj n1
    exact Or.inr (Or.inl ⟨n1, n2, n3, n4, l, l1, l2, by show ce j - cs j = l.length; omega⟩)
  · obtain ⟨k1, k2, k3, k4, k5⟩ := (key j).choose_spec hj n1
    exact Or.inr (Or.inr ⟨n1, n2, aj.2.2.1 n1, k1, k2, k3, k4, k5⟩)
