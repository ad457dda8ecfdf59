/-! whether a form has its parts, the class's side: l is the whole list's parts, the form's name first -/
def shp (K : Nat → Int32) (kids : Nat → List Nat) (i : Nat) (l : List Nat) : Prop :=
  (i = 11 → l.length = 2) ∧ (i = 12 → l.length = 4) ∧ (i = 13 → l.length = 3 ∧ K (l.getD 1 0) = 2 ∧ ∀ j ∈ kids (l.getD 1 0), K j = 1) ∧
  (i = 14 ∨ i = 15 → 2 ≤ l.length ∧ ∀ j ∈ l.drop 2, bnd K kids j) ∧ (2 < i ∧ i < 11 → l.length = 3) ∧ (i ≤ 2 → l.length = 2)
theorem inc.drop {m : Nat} : ∀ (n : Nat) {l : List Nat} {lo : Nat}, inc lo m l → inc lo m (l.drop n)
  | 0, _, _, h => h
  | _ + 1, [], _, _ => trivial
  | n + 1, _ :: l, _, h => (inc.drop n h.2.2).weak (by have := h.1; omega)
theorem ch.drop {F : Nat → Int32} : ∀ (n : Nat) {l : List Nat} {x : Int32}, ch F x l → ch F (hdp (l.drop n)) (l.drop n)
  | 0, l, x, h => by rw [List.drop_zero, ← h.hd]; exact h
  | _ + 1, [], _, h => rfl
  | n + 1, _ :: l, _, h => ch.drop n h.2
theorem q_hasParts {m i j0 : Nat} {F K V : Nat → Int32} {kids : Nat → List Nat} {t : List Nat} {post : Int32 → Prop} (hm : m ≤ 200) (hi : i < 16) (hT : ∀ j, j < m → K j = 2 → ch F (V j) (kids j) ∧ inc 0 m (kids j)) (h : ch F (nI j0) (j0 :: t)) (hl : inc 0 m (j0 :: t)) (h1 : shp K kids i (j0 :: t) → post 1) (h0 : ¬ shp K kids i (j0 :: t) → post 0) : wp_Translator_hasItsParts (nI m) F K V (nI i) (nI j0) post := by
  have len := hl.len
  have hj0 : j0 < m := hl.2.1
  have ni : ∀ a : Nat, a < 100 → (nI i = nI a ↔ i = a) := fun a ha => nI_eq (by omega) (by omega)
  have nl : ∀ a : Nat, a < 100 → (nI (j0 :: t).length = nI a ↔ (j0 :: t).length = a) := fun a ha => nI_eq (by omega) (by omega)
  have v0 : vp_in (nI j0) 200 := vp_in_nI (by omega) (by decide)
  refine q_countFrom hm h hl ⟨fun c => ?_, fun c11 => ⟨fun c => ?_, fun c12 => ⟨fun c => ?_, fun c13 => ⟨fun c => ?_, fun c14 => ⟨fun c => ?_, fun c15 => ?_⟩⟩⟩⟩⟩
  · have c : i = 11 := (ni 11 (by omega)).mp c
    refine ⟨fun e => h1 ⟨fun _ => (nl 2 (by omega)).mp e, fun z => absurd z (by omega), fun z => absurd z (by omega), fun z => absurd z (by omega), fun z => absurd z (by omega), fun z => absurd z (by omega)⟩, fun e => h0 (fun g => e ((nl 2 (by omega)).mpr (g.1 c)))⟩
  · have c : i = 12 := (ni 12 (by omega)).mp c
    refine ⟨fun e => h1 ⟨fun z => absurd z (by omega), fun _ => (nl 4 (by omega)).mp e, fun z => absurd z (by omega), fun z => absurd z (by omega), fun z => absurd z (by omega), fun z => absurd z (by omega)⟩, fun e => h0 (fun g => e ((nl 4 (by omega)).mpr (g.2.1 c)))⟩
  · have c : i = 13 := (ni 13 (by omega)).mp c
    refine ⟨fun e => ?_, fun e => h0 (fun g => e ((nl 3 (by omega)).mpr (g.2.2.1 c).1))⟩
    have e3 := (nl 3 (by omega)).mp e
    cases t with
    | nil => exact absurd e3 (by show ¬ 0 + 1 = 3; omega)
    | cons s t =>
      have hs : s < m := hl.2.2.2.1
      have es : F j0 = nI s := h.2.1
      unfold wp_Datum_followerOf
      rw [nI_clamp (n := j0) (by omega), es]
      refine ⟨v0, q_isList (l := kids s) hm hs (fun k => hT s hs k) (fun k g => ⟨fun z => absurd z (by decide), fun _ => h1 ⟨fun z => absurd z (by omega), fun z => absurd z (by omega), fun _ => ⟨e3, k, g⟩, fun z => absurd z (by omega), fun z => absurd z (by omega), fun z => absurd z (by omega)⟩⟩) (fun g => ⟨fun _ => h0 (fun g2 => g (g2.2.2.1 c).2), fun z => absurd rfl z⟩)⟩
  · have c : i = 14 := (ni 14 (by omega)).mp c
    refine ⟨fun e => h0 (fun g => ?_), fun e => ?_⟩
    · have e2 := (nI_ltI (a := (j0 :: t).length) (b := 2) (by omega) (by decide)).mp e
      have := (g.2.2.2.1 (Or.inl c)).1
      omega
    · have e2 : 2 ≤ (j0 :: t).length := by
        rcases Nat.lt_or_ge (j0 :: t).length 2 with z | z
        · exact absurd (nI_lt z (by decide)) e
        · exact z
      refine q_partBehind (s := 2) hm (by omega) h hl (q_areB hm hT (ch.drop 2 h) (inc.drop 2 hl) (fun g => ⟨fun z => absurd z (by decide), fun _ => h1 ⟨fun z => absurd z (by omega), fun z => absurd z (by omega), fun z => absurd z (by omega), fun _ => ⟨e2, g⟩, fun z => absurd z (by omega), fun z => absurd z (by omega)⟩⟩) (fun g => ⟨fun _ => h0 (fun g2 => g (g2.2.2.2.1 (Or.inl c)).2), fun z => absurd rfl z⟩))
  · have c : i = 15 := (ni 15 (by omega)).mp c
    refine ⟨fun e => h0 (fun g => ?_), fun e => ?_⟩
    · have e2 := (nI_ltI (a := (j0 :: t).length) (b := 2) (by omega) (by decide)).mp e
      have := (g.2.2.2.1 (Or.inr c)).1
      omega
    · have e2 : 2 ≤ (j0 :: t).length := by
        rcases Nat.lt_or_ge (j0 :: t).length 2 with z | z
        · exact absurd (nI_lt z (by decide)) e
        · exact z
      refine q_partBehind (s := 2) hm (by omega) h hl (q_areB hm hT (ch.drop 2 h) (inc.drop 2 hl) (fun g => ⟨fun z => absurd z (by decide), fun _ => h1 ⟨fun z => absurd z (by omega), fun z => absurd z (by omega), fun z => absurd z (by omega), fun _ => ⟨e2, g⟩, fun z => absurd z (by omega), fun z => absurd z (by omega)⟩⟩) (fun g => ⟨fun _ => h0 (fun g2 => g (g2.2.2.2.1 (Or.inr c)).2), fun z => absurd rfl z⟩))
  · have d11 : i ≠ 11 := fun z => c11 ((ni 11 (by omega)).mpr z)
    have d12 : i ≠ 12 := fun z => c12 ((ni 12 (by omega)).mpr z)
    have d13 : i ≠ 13 := fun z => c13 ((ni 13 (by omega)).mpr z)
    have d14 : i ≠ 14 := fun z => c14 ((ni 14 (by omega)).mpr z)
    have d15 : i ≠ 15 := fun z => c15 ((ni 15 (by omega)).mpr z)
    refine ⟨fun c => ?_, fun c => ?_⟩
    · have c : 2 < i := (nI_ltI (a := 2) (b := i) (by decide) (by omega)).mp c
      exact ⟨fun e => h1 ⟨fun z => absurd z d11, fun z => absurd z d12, fun z => absurd z d13, fun z => absurd z (by omega), fun _ => (nl 3 (by omega)).mp e, fun z => absurd z (by omega)⟩, fun e => h0 (fun g => e ((nl 3 (by omega)).mpr (g.2.2.2.2.1 ⟨c, by omega⟩)))⟩
    · have c : i ≤ 2 := by
        rcases Nat.lt_or_ge 2 i with z | z
        · exact absurd (nI_lt z (by omega)) c
        · exact z
      exact ⟨fun e => h1 ⟨fun z => absurd z d11, fun z => absurd z d12, fun z => absurd z d13, fun z => absurd z (by omega), fun z => absurd z (by omega), fun _ => (nl 2 (by omega)).mp e⟩, fun e => h0 (fun g => e ((nl 2 (by omega)).mpr (g.2.2.2.2.2 c)))⟩
