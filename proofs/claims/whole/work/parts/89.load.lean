/-! the place of a name in a frame, the reference's side -/
theorem q_load_L52 {b m f : Nat} {bank v1 v3 : Int32} {K C N W ar nms pd li op x1 x2 : Nat → Int32} {kids : Nat → List Nat} {K118 : Int32 → Int32 → Int32 → (Nat → Int32) → (Nat → Int32) → (Nat → Int32) → (Nat → Int32) → Prop} {K92 : Int32 → Int32 → (Nat → Int32) → (Nat → Int32) → (Nat → Int32) → (Nat → Int32) → Prop} {post : Int32 → (Nat → Int32) → (Nat → Int32) → (Nat → Int32) → (Nat → Int32) → Prop} (hb : b ≤ 200) (hm : m ≤ 200) (hf40 : f < 40) (hT : ∀ j, j < m → K j = 2 → chM b N (C (b + j)) (kids j) ∧ inc 0 m (kids j)) :
    ∀ (l : List Nat) (y : Int32) (k lo : Nat), chM b N y l → inc lo m l → (∀ j ∈ l, (pd f = 0 ∧ K j = 1) ∨ (¬ pd f = 0 ∧ bnd K kids j)) → (∀ i, i < l.length → W (b + mem0 K kids (l.getD i 0)) = v1 → (∀ i', i' < i → W (b + mem0 K kids (l.getD i' 0)) ≠ v1) → K92 v3 (nI (k + i)) li op x1 x2) → ((∀ j ∈ l, W (b + mem0 K kids j) ≠ v1) → K118 v1 v3 (nI f) li op x1 x2) → wp_Model_load_L52 bank ar C nms N pd W K118 K92 post (l.length + 1) v1 v3 (nI f) y (nI k) li op x1 x2 := by
  have ef : (nI f).toNatClampNeg = f := nI_clamp (by omega)
  have vf : vp_in (nI f) 40 := vp_in_nI hf40 (by decide)
  intro l
  induction l with
  | nil =>
    intro y k lo h hi hf h1 h0
    exact ⟨fun _ => h0 (fun j hj => (List.not_mem_nil hj).elim), fun c => absurd (by rw [show y = -1 from h]; decide) c⟩
  | cons j l ih =>
    intro y k lo h hi hf h1 h0
    obtain ⟨e, h⟩ := h
    obtain ⟨i1, i2, i3⟩ := hi
    have vj : vp_in (nI (b + j)) 400 := vp_in_nI (by omega) (by decide)
    have go : ∀ a, a < m → a = mem0 K kids j → wp_Model_load_J79 bank ar C nms N pd W (wp_Model_load_L52 bank ar C nms N pd W K118 K92 post (l.length + 1)) K118 K92 post v1 v3 (nI f) (nI (b + j)) (nI k) (nI (b + a)) li op x1 x2 := fun a ha ea => by
      unfold wp_Model_load_J79
      rw [nI_clamp (n := b + a) (by omega), nI_clamp (n := b + j) (by omega), nI_1]
      refine ⟨vp_in_nI (by omega) (by decide), fun c => ?_, fun c => ⟨vj, ih (N (b + j)) (k + 1) _ h i3 (fun y hy => hf y (List.mem_cons_of_mem _ hy)) (fun i hi2 c2 c3 => ?_) (fun g => h0 (fun y hy => ?_))⟩⟩
      · exact h1 0 (by show 0 < _ + 1; omega) (by show W (b + mem0 K kids j) = v1; rw [← ea]; exact c) (fun i' z => absurd z (by omega))
      · rw [show k + 1 + i = k + (i + 1) by omega]
        refine h1 (i + 1) (by show i + 1 < _ + 1; omega) c2 (fun i' z => ?_)
        cases i' with
        | zero => show W (b + mem0 K kids j) ≠ v1; rw [← ea]; exact c
        | succ i' => exact c3 i' (by omega)
      · rcases List.mem_cons.mp hy with e2 | hy
        · rw [e2, ← ea]; exact c
        · exact g y hy
    refine ⟨fun c => ?_, fun _ => ?_⟩
    · rw [e] at c
      exact absurd (nI_pos' (n := b + j) (by omega)) (Int32.not_le.mpr c)
    rw [e, ef]
    rcases hf j List.mem_cons_self with ⟨z1, z2⟩ | ⟨z1, z2⟩
    · exact ⟨vf, fun _ => go j i2 (by unfold mem0; rw [if_neg (by rw [z2]; decide)]), fun z => absurd z1 z⟩
    · refine ⟨vf, fun z => absurd z z1, fun _ => ⟨vj, ?_⟩⟩
      rw [nI_clamp (n := b + j) (by omega)]
      obtain ⟨t1, t2⟩ := hT j i2 z2.1
      have z3 := z2.2.1
      cases hk : kids j with
      | nil => rw [hk] at z3; exact absurd z3 (by decide)
      | cons a t =>
        rw [hk] at t1 t2
        rw [show C (b + j) = nI (b + a) from t1.1]
        exact go a t2.2.1 (by unfold mem0; rw [if_pos z2.1, hk]; rfl)
