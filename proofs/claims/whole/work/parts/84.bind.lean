/-! bindings: lists of two parts, the first a name -/
def bnd (K : Nat → Int32) (kids : Nat → List Nat) (j : Nat) : Prop := K j = 2 ∧ (kids j).length = 2 ∧ K ((kids j).headD 0) = 1
theorem q_areB_L14 {m n : Nat} {F K V : Nat → Int32} {kids : Nat → List Nat} {post : Int32 → Prop} (hm : m ≤ 200) (hn : n ≤ 200) (hT : ∀ j, j < m → K j = 2 → ch F (V j) (kids j) ∧ inc 0 m (kids j)) : ∀ (l : List Nat) (x : Int32) (k lo : Nat), ch F x l → inc lo m l → k + l.length = n → ((∀ j ∈ l, bnd K kids j) → post 1) → (¬ (∀ j ∈ l, bnd K kids j) → post 0) → wp_Translator_areBindings_L14 (nI m) F K V post (l.length + 1) (nI n) x (nI k) := by
  intro l
  induction l with
  | nil =>
    intro x k lo h hi hl h1 h0
    have e : n = k := hl.symm
    subst e
    exact ⟨fun _ => h1 (fun j hj => (List.not_mem_nil hj).elim), fun c => absurd (Int32.le_refl _) c⟩
  | cons j l ih =>
    intro x k lo h hi hl h1 h0
    obtain ⟨e, h⟩ := h
    obtain ⟨i1, i2, i3⟩ := hi
    have hl' : k + (l.length + 1) = n := hl
    have vj : vp_in (nI j) 200 := vp_in_nI (by omega) (by decide)
    refine ⟨fun c => absurd c (nI_ge (by omega) (by omega)), fun _ => ?_⟩
    rw [e]
    unfold wp_Datum_firstPartOf
    rw [nI_clamp (n := j) (by omega)]
    refine ⟨vj, fun c2 => ⟨vj, ?_⟩, fun c2 => ?_⟩
    · obtain ⟨t1, t2⟩ := hT j i2 c2
      have tl := t2.len
      refine q_countFrom hm t1 t2 ⟨fun c3 => ?_, fun c3 => h0 (fun g => c3 (by rw [(g j List.mem_cons_self).2.1]; rfl))⟩
      have c4 : (kids j).length = 2 := (nI_eq (b := 2) (by omega) (by decide)).mp c3
      have hd := t1.hd
      obtain ⟨a, t, ek⟩ : ∃ a t, kids j = a :: t := by
        cases hk : kids j with
        | nil => rw [hk] at c4; exact absurd c4 (by decide)
        | cons a t => exact ⟨a, t, rfl⟩
      rw [ek] at hd t2
      have ha : a < m := t2.2.1
      have ehd : (kids j).headD 0 = a := by rw [ek]; rfl
      have hd : V j = nI a := hd
      rw [hd]
      unfold wp_Datum_kindOf wp_Datum_followerOf
      rw [nI_clamp (n := a) (by omega), nI_clamp (n := j) (by omega), nI_1]
      refine ⟨vp_in_nI (by omega) (by decide), fun c5 => ⟨vj, ih (F j) (k + 1) _ h i3 (by omega) (fun g => h1 (fun y hy => ?_)) (fun g => h0 (fun g2 => g (fun y hy => g2 y (List.mem_cons_of_mem _ hy))))⟩, fun c5 => h0 (fun g => c5 (by have := (g j List.mem_cons_self).2.2; rw [ehd] at this; exact this))⟩
      rcases List.mem_cons.mp hy with e2 | hy
      · rw [e2]
        exact ⟨c2, c4, by rw [ehd]; exact c5⟩
      · exact g y hy
    · refine q_countFrom (l := []) hm rfl trivial ⟨fun c3 => absurd c3 (by decide), fun _ => h0 (fun g => c2 (g j List.mem_cons_self).1)⟩
theorem q_areB {m : Nat} {F K V : Nat → Int32} {kids : Nat → List Nat} {l : List Nat} {x : Int32} {post : Int32 → Prop} (hm : m ≤ 200) (hT : ∀ j, j < m → K j = 2 → ch F (V j) (kids j) ∧ inc 0 m (kids j)) (h : ch F x l) (hi : inc 0 m l) (h1 : (∀ j ∈ l, bnd K kids j) → post 1) (h0 : ¬ (∀ j ∈ l, bnd K kids j) → post 0) : wp_Translator_areBindings (nI m) F K V x post := by
  have := hi.len
  exact q_countFrom hm h hi ⟨_, q_areB_L14 hm (by omega) hT l x 0 0 h hi (by omega) h1 h0⟩
