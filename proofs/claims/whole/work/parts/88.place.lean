/-! the place of a name in a frame, the class's side -/
def mem0 (K : Nat → Int32) (kids : Nat → List Nat) (j : Nat) : Nat := if K j = 2 then (kids j).headD 0 else j
theorem q_place_L15 {m n : Nat} {F K V : Nat → Int32} {kids : Nat → List Nat} {nm : Int32} {post : Int32 → Prop} (hm : m ≤ 200) (hn : n ≤ 200) (hT : ∀ j, j < m → K j = 2 → ch F (V j) (kids j) ∧ inc 0 m (kids j)) : ∀ (l : List Nat) (x : Int32) (k lo : Nat), ch F x l → inc lo m l → k + l.length = n → (∀ j ∈ l, K j = 1 ∨ bnd K kids j) → (∀ i, i < l.length → V (mem0 K kids (l.getD i 0)) = nm → (∀ i', i' < i → V (mem0 K kids (l.getD i' 0)) ≠ nm) → post (nI (k + i))) → ((∀ j ∈ l, V (mem0 K kids j) ≠ nm) → post (-1)) → wp_Translator_placeIn_L15 (nI m) F K V post (l.length + 1) nm (nI n) x (nI k) := by
  intro l
  induction l with
  | nil =>
    intro x k lo h hi hl hf h1 h0
    have e : n = k := hl.symm
    subst e
    exact ⟨fun _ => h0 (fun j hj => (List.not_mem_nil hj).elim), fun c => absurd (Int32.le_refl _) c⟩
  | cons j l ih =>
    intro x k lo h hi hl hf h1 h0
    obtain ⟨e, h⟩ := h
    obtain ⟨i1, i2, i3⟩ := hi
    have hl' : k + (l.length + 1) = n := hl
    have vj : vp_in (nI j) 200 := vp_in_nI (by omega) (by decide)
    have go : ∀ a, a < m → a = mem0 K kids j → wp_Translator_placeIn_J64 (nI m) F K V (wp_Translator_placeIn_L15 (nI m) F K V post (l.length + 1)) post nm (nI n) (nI j) (nI k) (nI a) := fun a ha ea => by
      unfold wp_Translator_placeIn_J64 wp_Datum_valueOf wp_Datum_followerOf
      rw [nI_clamp (n := a) (by omega), nI_clamp (n := j) (by omega), nI_1]
      refine ⟨vp_in_nI (by omega) (by decide), fun c => ?_, fun c => ⟨vj, ih (F j) (k + 1) _ h i3 (by omega) (fun y hy => hf y (List.mem_cons_of_mem _ hy)) (fun i hi2 c2 c3 => ?_) (fun g => h0 (fun y hy => ?_))⟩⟩
      · exact h1 0 (by show 0 < _ + 1; omega) (by show V (mem0 K kids j) = nm; rw [← ea]; exact c) (fun i' z => absurd z (by omega))
      · rw [show k + 1 + i = k + (i + 1) by omega]
        refine h1 (i + 1) (by show i + 1 < _ + 1; omega) c2 (fun i' z => ?_)
        cases i' with
        | zero => show V (mem0 K kids j) ≠ nm; rw [← ea]; exact c
        | succ i' => exact c3 i' (by omega)
      · rcases List.mem_cons.mp hy with e2 | hy
        · rw [e2, ← ea]; exact c
        · exact g y hy
    refine ⟨fun c => absurd c (nI_ge (by omega) (by omega)), fun _ => ?_⟩
    rw [e]
    unfold wp_Datum_kindOf
    rw [nI_clamp (n := j) (by omega)]
    refine ⟨vj, fun c => ?_, fun c => ?_⟩
    · unfold wp_Translator_placeIn_J39
      refine ⟨fun z => absurd z (by decide), fun _ => ?_⟩
      unfold wp_Datum_firstPartOf
      rw [nI_clamp (n := j) (by omega)]
      refine ⟨vj, fun _ => ⟨vj, ?_⟩, fun z => absurd c z⟩
      obtain ⟨t1, t2⟩ := hT j i2 c
      rcases hf j List.mem_cons_self with z | z
      · exact absurd (c.symm.trans z) (by decide)
      · have z2 := z.2.1
        cases hk : kids j with
        | nil => rw [hk] at z2; exact absurd z2 (by decide)
        | cons a t =>
          rw [hk] at t1 t2
          rw [show V j = nI a from t1.1]
          exact go a t2.2.1 (by unfold mem0; rw [if_pos c, hk]; rfl)
    · unfold wp_Translator_placeIn_J39
      exact ⟨fun _ => go j i2 (by unfold mem0; rw [if_neg c]), fun z => absurd rfl z⟩
theorem q_place {m : Nat} {F K V : Nat → Int32} {kids : Nat → List Nat} {l : List Nat} {x nm : Int32} {post : Int32 → Prop} (hm : m ≤ 200) (hT : ∀ j, j < m → K j = 2 → ch F (V j) (kids j) ∧ inc 0 m (kids j)) (h : ch F x l) (hi : inc 0 m l) (hf : ∀ j ∈ l, K j = 1 ∨ bnd K kids j) (h1 : ∀ i, i < l.length → V (mem0 K kids (l.getD i 0)) = nm → (∀ i', i' < i → V (mem0 K kids (l.getD i' 0)) ≠ nm) → post (nI i)) (h0 : (∀ j ∈ l, V (mem0 K kids j) ≠ nm) → post (-1)) : wp_Translator_placeIn (nI m) F K V x nm post := by
  have := hi.len
  exact q_countFrom hm h hi ⟨_, q_place_L15 hm (by omega) hT l x 0 0 h hi (by omega) hf (fun i z1 z2 z3 => by rw [Nat.zero_add]; exact h1 i z1 z2 z3) h0⟩
