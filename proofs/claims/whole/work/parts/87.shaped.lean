/-! whether a form has its parts, the reference's side -/
theorem fpi_facts : ∀ i, i < 16 → (fpi.getD i 0 < 14 ↔ i < 14) ∧ (fpi.getD i 0 = 13 ↔ i = 13) ∧ (fpi.getD i 0 = 12 ↔ i = 12) ∧ (i < 12 → (4 ≤ fpi.getD i 0 ↔ 2 < i ∧ i < 11)) ∧ fpi.getD i 0 < 16 := by decide
theorem q_shaped {b m k i j0 : Nat} {K V F C N S W : Nat → Int32} {kids : Nat → List Nat} {t : List Nat} {post : Int32 → Prop} (hb : b ≤ 200) (hm : m ≤ 200) (hi : i < 16) (hkn : k < 400)
    (hT : ∀ j, j < m → (K j = 1 ↔ S (b + j) = 1) ∧ (K j = 2 ↔ S (b + j) = 2) ∧ (K j = 2 → chM b N (C (b + j)) (kids j) ∧ inc 0 m (kids j)))
    (h : chM b N (C k) (j0 :: t)) (hl : inc 0 m (j0 :: t)) (h1 : shp K kids i (j0 :: t) → post 1) (h0 : ¬ shp K kids i (j0 :: t) → post 0) : wp_Model_shaped C N S (nI k) (nI (fpi.getD i 0)) post := by
  have len := hl.len
  obtain ⟨f1, f2, f3, f4, f5⟩ := fpi_facts i hi
  generalize fpi.getD i 0 = w at f1 f2 f3 f4 f5 ⊢
  have el : nI (j0 :: t).length - 1 = nI t.length := nI_pred t.length
  have tl : t.length < 200 := by
    have : t.length + 1 ≤ m - 0 := len
    omega
  have nl : ∀ a : Nat, a < 100 → (nI t.length = nI a ↔ t.length = a) := fun a ha => nI_eq (by omega) (by omega)
  have ll : (j0 :: t).length = t.length + 1 := rfl
  refine q_mparts hb hm hkn h hl ?_
  rw [el]
  have no132 : ¬ shp K kids i (j0 :: t) → wp_Model_shaped_J132 C N S post (nI k) := fun g => by
    unfold wp_Model_shaped_J132 wp_Model_shaped_J133
    refine ⟨fun _ => ?_, fun c => absurd rfl c⟩
    exact ⟨_, q_shaped_L159_no (n := 0) (by omega) (h0 g) 0 0 rfl⟩
  refine ⟨fun c => ?_, fun c => ?_⟩
  · have c : w < 14 := (nI_ltI (a := w) (b := 14) (by omega) (by decide)).mp c
    have ci : i < 14 := f1.mp c
    refine ⟨fun c13 => ?_, fun c13 => ⟨fun c12 => ?_, fun c12 => ⟨fun c4 => ?_, fun c4 => ?_⟩⟩⟩
    · have i13 : i = 13 := f2.mp ((nI_eq (b := 13) (by omega) (by decide)).mp c13)
      refine ⟨fun e => ?_, fun e => no132 (fun g => e ((nl 2 (by omega)).mpr (by have := (g.2.2.1 i13).1; omega)))⟩
      have e2 := (nl 2 (by omega)).mp e
      cases t with
      | nil => exact absurd e2 (by show ¬ 0 = 2; omega)
      | cons s t =>
        have hs : s < m := hl.2.2.2.1
        obtain ⟨t1, t2, t3⟩ := hT s hs
        refine q_mpart (s := 1) hb hm hkn (by show 1 ≤ _ + 1; omega) h hl ?_
        show vp_in (nI (b + s)) 400 ∧ ((S (nI (b + s)).toNatClampNeg = 2 → _) ∧ (¬ S (nI (b + s)).toNatClampNeg = 2 → _))
        rw [nI_clamp (n := b + s) (by omega)]
        refine ⟨vp_in_nI (by omega) (by decide), fun c2 => ?_, fun c2 => no132 (fun g => c2 (t2.mp (g.2.2.1 i13).2.1))⟩
        obtain ⟨u1, u2⟩ := t3 (t2.mpr c2)
        unfold wp_Model_shaped_J133
        refine ⟨fun z => absurd z (by decide), fun _ => q_mpart (s := 1) hb hm hkn (by show 1 ≤ _ + 1; omega) h hl ?_⟩
        show wp_Model_parts C N (nI (b + s)) _
        refine q_mparts hb hm (by omega) u1 u2 ?_
        have kp : ∀ j ∈ kids s, j < m := by
          have key : ∀ (l : List Nat) (lo : Nat), inc lo m l → ∀ j ∈ l, j < m := by
            intro l
            induction l with
            | nil => intro lo _ j hj; exact (List.not_mem_nil hj).elim
            | cons a l ih =>
              intro lo h j hj
              rcases List.mem_cons.mp hj with e | hj
              · rw [e]; exact h.2.1
              · exact ih _ h.2.2 j hj
          exact key _ 0 u2
        refine ⟨_, q_shaped_L159 (s := s) hb hm hkn h hl (by show 1 ≤ _ + 1; omega) rfl hs u1 u2 (kids s).length 0 (by omega) (fun g => h1 ?_) (fun g => h0 (fun g2 => g (fun j hj => (hT j (kp j hj)).1.mp ((g2.2.2.1 i13).2.2 j hj))))⟩
        exact ⟨fun z => absurd z (by omega), fun z => absurd z (by omega), fun _ => ⟨by rw [ll, e2], t2.mpr c2, fun j hj => (hT j (kp j hj)).1.mpr (g j hj)⟩, fun z => absurd z (by omega), fun z => absurd z (by omega), fun z => absurd z (by omega)⟩
    · have i12 : i = 12 := f3.mp ((nI_eq (b := 12) (by omega) (by decide)).mp c12)
      exact ⟨fun e => h1 ⟨fun z => absurd z (by omega), fun _ => by rw [ll, (nl 3 (by omega)).mp e], fun z => absurd z (by omega), fun z => absurd z (by omega), fun z => absurd z (by omega), fun z => absurd z (by omega)⟩, fun e => h0 (fun g => e ((nl 3 (by omega)).mpr (by have := g.2.1 i12; omega)))⟩
    · have n13 : i ≠ 13 := fun z => c13 (by rw [f2.mpr z]; rfl)
      have n12 : i ≠ 12 := fun z => c12 (by rw [f3.mpr z]; rfl)
      have c4 : 2 < i ∧ i < 11 := (f4 (by omega)).mp ((nI_leI (a := 4) (b := w) (by decide) (by omega)).mp c4)
      exact ⟨fun e => h1 ⟨fun z => absurd z (by omega), fun z => absurd z (by omega), fun z => absurd z (by omega), fun z => absurd z (by omega), fun _ => by rw [ll, (nl 2 (by omega)).mp e], fun z => absurd z (by omega)⟩, fun e => h0 (fun g => e ((nl 2 (by omega)).mpr (by have := g.2.2.2.2.1 c4; omega)))⟩
    · have n13 : i ≠ 13 := fun z => c13 (by rw [f2.mpr z]; rfl)
      have n12 : i ≠ 12 := fun z => c12 (by rw [f3.mpr z]; rfl)
      have c4 : ¬ (2 < i ∧ i < 11) := fun z => c4 ((nI_leI (a := 4) (b := w) (by decide) (by omega)).mpr ((f4 (by omega)).mpr z))
      refine ⟨fun e => h1 ⟨fun _ => by rw [ll, (nl 1 (by omega)).mp e], fun z => absurd z (by omega), fun z => absurd z (by omega), fun z => absurd z (by omega), fun z => absurd z c4, fun _ => by rw [ll, (nl 1 (by omega)).mp e]⟩, fun e => h0 (fun g => e ((nl 1 (by omega)).mpr ?_))⟩
      rcases Nat.lt_or_ge 2 i with z | z
      · have := g.1 (by omega)
        omega
      · have := g.2.2.2.2.2 z
        omega
  · have c : ¬ i < 14 := fun z => c (nI_lt (f1.mpr z) (by decide))
    have c45 : i = 14 ∨ i = 15 := by omega
    refine ⟨fun e => ?_, fun e => ?_⟩
    · have e2 : t.length < 1 := (nI_ltI (a := t.length) (b := 1) (by omega) (by decide)).mp e
      have nb : narrow .boolean (.int 0) = .int 0 := by decide
      refine ⟨1, fun _ => ⟨nb, h0 (fun g => ?_)⟩, fun z => absurd (nI_lt (a := t.length) (b := 2) (by omega) (by decide)) z⟩
      have := (g.2.2.2.1 c45).1
      omega
    · have e2 : 1 ≤ t.length := by
        rcases Nat.lt_or_ge t.length 1 with z | z
        · exact absurd (nI_lt z (by decide)) e
        · exact z
      refine ⟨_, q_shaped_L29 (K := K) (V := V) (F := F) (W := W) (kids := kids) hb hm hkn h hl ll.symm hT (t.length - 1) 2 (by omega) (fun g => h1 ?_) (fun g => h0 (fun g2 => g (g2.2.2.2.1 c45).2))⟩
      exact ⟨fun z => absurd z (by omega), fun z => absurd z (by omega), fun z => absurd z (by omega), fun _ => ⟨by omega, g⟩, fun z => absurd z (by omega), fun z => absurd z (by omega)⟩
