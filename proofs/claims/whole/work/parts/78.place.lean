/-! the place of a name in a frame, the class's side -/
def mem0 (K : Nat → Int32) (kids : Nat → List Nat) (j : Nat) : Nat := if K j = 2 then (kids j).headD 0 else j
theorem q_place_L15 {m n : Nat} {F K V : Nat → Int32} {kids : Nat → List Nat} {nm : Int32} {post : Int32 → Prop} (hm : m ≤ 200) (hn : n ≤ 200) (hT : ∀ j, j < m → K j = 2 → ch F (V j) (kids j) ∧ inc 0 m (kids j)) : ∀ (l : List Nat) (x : Int32) (k lo : Nat), ch F x l → inc lo m l → k + l.length = n → (∀ j ∈ l, K j = 1 ∨ bnd K kids j) → (∀ i, i < l.length → V (mem0 K kids (l.getD i 0)) = nm → (∀ i', i' < i → V (mem0 K kids (l.getD i' 0)) ≠ nm) → post (nI (k + i))) → ((∀ j ∈ l, V (mem0 K kids j) ≠ nm) → post (-1)) → wp_Translator_placeIn_L15 (nI m) F K V post (l.length + 1) nm (nI n) x (nI k) := by
  intro l
  induction l with
  | nil =>
    intro x k lo h hi hl hf h1 h0
    have e : n = k := hl.symm
    subst e
    exact ⟨fun _ => h0 (fun j hj => (List.not_mem_nil hj).elim), fun c => absurd (Int32.le_refl _) c⟩
  | cons j l ih =>
    intro x k lo h hi hl hf h1 h0
    obtain ⟨e, h⟩ := h
    obtain ⟨i1, i2, i3⟩ := hi
    have hl' : k + (l.length + 1) = n := hl
    have vj : vp_in (nI j) 200 := vp_in_nI (by omega) (by decide)
    have go : ∀ a, a < m → a = mem0 K kids j → wp_Translator_placeIn_J64 (nI m) F K V (wp_Translator_placeIn_L15 (nI m) F K V post (l.length + 1)) post nm (nI n) (nI j) (nI k) (nI a) := fun a ha ea => by
      unfold wp_Translator_placeIn_J64 wp_Datum_valueOf wp_Datum_followerOf
      rw [nI_clamp (n := a) (by omega), nI_clamp (n := j) (by omega), nI_1]
      refine ⟨vp_in_nI (by omega) (by decide), fun c => ?_, fun c => ⟨vj, ih (F j) (k + 1) _ h i3 (by omega) (fun y hy => hf y (List.mem_cons_of_mem _ hy)) (fun i hi2 c2 c3 => ?_) (fun g => h0 (fun y hy => ?_))⟩⟩
      · exact h1 0 (by show 0 < _ + 1; omega) (by show V (mem0 K kids j) = nm; rw [← ea]; exact c) (fun i' z => absurd z (by omega))
      · rw [show k + 1 + i = k + (i + 1) by omega]
        refine h1 (i + 1) (by show i + 1 < _ + 1; omega) c2 (fun i' z => ?_)
        cases i' with
        | zero => show V (mem0 K kids j) ≠ nm; rw [← ea]; exact c
        | succ i' => exact c3 i' (by omega)
      · rcases List.mem_cons.mp hy with e2 | hy
        · rw [e2, ← ea]; exact c
        · exact g y hy
    refine ⟨fun c => absurd c (nI_ge (by omega) (by omega)), fun _ => ?_⟩
    rw [e]
    unfold wp_Datum_kindOf
    rw [nI_clamp (n := j) (by omega)]
    refine ⟨vj, fun c => ?_, fun c => ?_⟩
    · unfold wp_Translator_placeIn_J39
      refine ⟨fun z => absurd z (by decide), fun _ => ?_⟩
      unfold wp_Datum_firstPartOf
      rw [nI_clamp (n := j) (by omega)]
      refine ⟨vj, fun _ => ⟨vj, ?_⟩, fun z => absurd c z⟩
      obtain ⟨t1, t2⟩ := hT j i2 c
      rcases hf j List.mem_cons_self with z | z
      · exact absurd (c.symm.trans z) (by decide)
      · have z2 := z.2.1
        cases hk : kids j with
        | nil => rw [hk] at z2; exact absurd z2 (by decide)
        | cons a t =>
          rw [hk] at t1 t2
          rw [show V j = nI a from t1.1]
          exact go a t2.2.1 (by unfold mem0; rw [if_pos c, hk]; rfl)
    · unfold wp_Translator_placeIn_J39
      exact ⟨fun _ => go j i2 (by unfold mem0; rw [if_neg c]), fun z => absurd rfl z⟩
theorem q_place {m : Nat} {F K V : Nat → Int32} {kids : Nat → List Nat} {l : List Nat} {x nm : Int32} {post : Int32 → Prop} (hm : m ≤ 200) (hT : ∀ j, j < m → K j = 2 → ch F (V j) (kids j) ∧ inc 0 m (kids j)) (h : ch F x l) (hi : inc 0 m l) (hf : ∀ j ∈ l, K j = 1 ∨ bnd K kids j) (h1 : ∀ i, i < l.length → V (mem0 K kids (l.getD i 0)) = nm → (∀ i', i' < i → V (mem0 K kids (l.getD i' 0)) ≠ nm) → post (nI i)) (h0 : (∀ j ∈ l, V (mem0 K kids j) ≠ nm) → post (-1)) : wp_Translator_placeIn (nI m) F K V x nm post := by
  have := hi.len
  exact q_countFrom hm h hi ⟨_, q_place_L15 hm (by omega) hT l x 0 0 h hi (by omega) hf (fun i z1 z2 z3 => by rw [Nat.zero_add]; exact h1 i z1 z2 z3) h0⟩
/-! the place of a name in a frame, the reference's side -/
theorem q_load_L52 {b m f : Nat} {bank v1 v3 : Int32} {K C N W ar nms pd li op x1 x2 : Nat → Int32} {kids : Nat → List Nat} {K118 : Int32 → Int32 → Int32 → (Nat → Int32) → (Nat → Int32) → (Nat → Int32) → (Nat → Int32) → Prop} {K92 : Int32 → Int32 → (Nat → Int32) → (Nat → Int32) → (Nat → Int32) → (Nat → Int32) → Prop} {post : Int32 → (Nat → Int32) → (Nat → Int32) → (Nat → Int32) → (Nat → Int32) → Prop} (hb : b ≤ 200) (hm : m ≤ 200) (hf40 : f < 40) (hT : ∀ j, j < m → K j = 2 → chM b N (C (b + j)) (kids j) ∧ inc 0 m (kids j)) :
    ∀ (l : List Nat) (y : Int32) (k lo : Nat), chM b N y l → inc lo m l → (∀ j ∈ l, (pd f = 0 ∧ K j = 1) ∨ (¬ pd f = 0 ∧ bnd K kids j)) → (∀ i, i < l.length → W (b + mem0 K kids (l.getD i 0)) = v1 → (∀ i', i' < i → W (b + mem0 K kids (l.getD i' 0)) ≠ v1) → K92 v3 (nI (k + i)) li op x1 x2) → ((∀ j ∈ l, W (b + mem0 K kids j) ≠ v1) → K118 v1 v3 (nI f) li op x1 x2) → wp_Model_load_L52 bank ar C nms N pd W K118 K92 post (l.length + 1) v1 v3 (nI f) y (nI k) li op x1 x2 := by
  have ef : (nI f).toNatClampNeg = f := nI_clamp (by omega)
  have vf : vp_in (nI f) 40 := vp_in_nI hf40 (by decide)
  intro l
  induction l with
  | nil =>
    intro y k lo h hi hf h1 h0
    exact ⟨fun _ => h0 (fun j hj => (List.not_mem_nil hj).elim), fun c => absurd (by rw [show y = -1 from h]; decide) c⟩
  | cons j l ih =>
    intro y k lo h hi hf h1 h0
    obtain ⟨e, h⟩ := h
    obtain ⟨i1, i2, i3⟩ := hi
    have vj : vp_in (nI (b + j)) 400 := vp_in_nI (by omega) (by decide)
    have go : ∀ a, a < m → a = mem0 K kids j → wp_Model_load_J79 bank ar C nms N pd W (wp_Model_load_L52 bank ar C nms N pd W K118 K92 post (l.length + 1)) K118 K92 post v1 v3 (nI f) (nI (b + j)) (nI k) (nI (b + a)) li op x1 x2 := fun a ha ea => by
      unfold wp_Model_load_J79
      rw [nI_clamp (n := b + a) (by omega), nI_clamp (n := b + j) (by omega), nI_1]
      refine ⟨vp_in_nI (by omega) (by decide), fun c => ?_, fun c => ⟨vj, ih (N (b + j)) (k + 1) _ h i3 (fun y hy => hf y (List.mem_cons_of_mem _ hy)) (fun i hi2 c2 c3 => ?_) (fun g => h0 (fun y hy => ?_))⟩⟩
      · exact h1 0 (by show 0 < _ + 1; omega) (by show W (b + mem0 K kids j) = v1; rw [← ea]; exact c) (fun i' z => absurd z (by omega))
      · rw [show k + 1 + i = k + (i + 1) by omega]
        refine h1 (i + 1) (by show i + 1 < _ + 1; omega) c2 (fun i' z => ?_)
        cases i' with
        | zero => show W (b + mem0 K kids j) ≠ v1; rw [← ea]; exact c
        | succ i' => exact c3 i' (by omega)
      · rcases List.mem_cons.mp hy with e2 | hy
        · rw [e2, ← ea]; exact c
        · exact g y hy
    refine ⟨fun c => ?_, fun _ => ?_⟩
    · rw [e] at c
      exact absurd (nI_pos' (n := b + j) (by omega)) (Int32.not_le.mpr c)
    rw [e, ef]
    rcases hf j List.mem_cons_self with ⟨z1, z2⟩ | ⟨z1, z2⟩
    · exact ⟨vf, fun _ => go j i2 (by unfold mem0; rw [if_neg (by rw [z2]; decide)]), fun z => absurd z1 z⟩
    · refine ⟨vf, fun z => absurd z z1, fun _ => ⟨vj, ?_⟩⟩
      rw [nI_clamp (n := b + j) (by omega)]
      obtain ⟨t1, t2⟩ := hT j i2 z2.1
      have z3 := z2.2.1
      cases hk : kids j with
      | nil => rw [hk] at z3; exact absurd z3 (by decide)
      | cons a t =>
        rw [hk] at t1 t2
        rw [show C (b + j) = nI (b + a) from t1.1]
        exact go a t2.2.1 (by unfold mem0; rw [if_pos z2.1, hk]; rfl)
/-! the code that both put out: to is the reference's bank that is written, sz the lines so far, X the lines whose addresses the class has still to add -/
def EM (to sz : Nat) (X : List Nat) (wo li op x1 x2 : Nat → Int32) : Prop := sz ≤ 512 ∧ li to = nI sz ∧ ∀ k, k < sz → k ∉ X → wo k = (op (512 * to + k) + (32 : Int32) * x1 (512 * to + k)) + (16384 : Int32) * x2 (512 * to + k)
theorem EM.nil {to : Nat} {X : List Nat} {wo li op x1 x2 : Nat → Int32} (h : li to = 0) : EM to 0 X wo li op x1 x2 := ⟨by omega, h, fun k hk => absurd hk (by omega)⟩
theorem EM.emit {to sz : Nat} {X : List Nat} {wo li op x1 x2 : Nat → Int32} {bank o a c : Int32} (h : EM to sz X wo li op x1 x2) (hs : sz < 512) (ht : to < 2) (hbk : (1 : Int32) - bank = nI to) :
    EM to (sz + 1) X (upd wo sz ((o + (32 : Int32) * a) + (16384 : Int32) * c)) (upd li to (nI (sz + 1))) (upd op (512 * to + sz) o) (upd x1 (512 * to + sz) a) (upd x2 (512 * to + sz) c) ∧
    (∀ post : Int32 → Int32 → (Nat → Int32) → Prop, post (nI sz) (nI (sz + 1)) (upd wo sz ((o + (32 : Int32) * a) + (16384 : Int32) * c)) → wp_Program_emit (nI sz) wo o a c post) ∧
    (∀ post : Int32 → (Nat → Int32) → (Nat → Int32) → (Nat → Int32) → (Nat → Int32) → Prop, post (nI sz) (upd li to (nI (sz + 1))) (upd op (512 * to + sz) o) (upd x1 (512 * to + sz) a) (upd x2 (512 * to + sz) c) → wp_Model_emit bank li op x1 x2 o a c post) := by
  obtain ⟨h1, h2, h3⟩ := h
  refine ⟨⟨by omega, pk_us, fun k hk hx => ?_⟩, fun post hp => ?_, fun post hp => ?_⟩
  · by_cases e : k = sz
    · subst e
      rw [pk_us, pk_us, pk_us, pk_us]
    · have e2 : 512 * to + k ≠ 512 * to + sz := by omega
      rw [pk_un e, pk_un e2, pk_un e2, pk_un e2]
      exact h3 k (by omega) hx
  · refine ⟨fun c => absurd c (nI_ge (a := sz) (b := 512) hs (by decide)), fun _ => ⟨vp_in_nI hs (by decide), ?_⟩⟩
    rw [nI_clamp (n := sz) (by omega), nI_1]
    exact hp
  · have vt : vp_in (nI to) 2 := vp_in_nI ht (by decide)
    have et : (nI to).toNatClampNeg = to := nI_clamp (by omega)
    have ea : (512 : Int32) * nI to + nI sz = nI (512 * to + sz) := by
      rw [show (512 : Int32) * nI to = nI (512 * to) from pk_mul 512 _, nI_add]
    have ve : vp_in (nI (512 * to + sz)) 1024 := vp_in_nI (by omega) (by decide)
    unfold wp_Model_emit
    rw [hbk, et, h2, ea, nI_clamp (n := 512 * to + sz) (by omega), nI_1]
    exact ⟨vt, ve, ve, ve, vt, vt, hp⟩
theorem EM.hole {to sz : Nat} {X : List Nat} {wo li op x1 x2 : Nat → Int32} (h : EM to sz X wo li op x1 x2) (a : Nat) : EM to sz (a :: X) wo li op x1 x2 :=
  ⟨h.1, h.2.1, fun k hk hx => h.2.2 k hk (fun z => hx (List.mem_cons_of_mem _ z))⟩
/-- the reference sets an address of a line that is left out -/
theorem EM.set1 {to sz a : Nat} {X : List Nat} {wo li op x1 x2 : Nat → Int32} {v : Int32} (h : EM to sz X wo li op x1 x2) (ha : a ∈ X) : EM to sz X wo li op (upd x1 (512 * to + a) v) x2 := by
  refine ⟨h.1, h.2.1, fun k hk hx => ?_⟩
  have e : 512 * to + k ≠ 512 * to + a := fun z => hx (by rw [show k = a by omega]; exact ha)
  rw [pk_un e]
  exact h.2.2 k hk hx
theorem EM.set2 {to sz a : Nat} {X : List Nat} {wo li op x1 x2 : Nat → Int32} {v : Int32} (h : EM to sz X wo li op x1 x2) (ha : a ∈ X) : EM to sz X wo li op x1 (upd x2 (512 * to + a) v) := by
  refine ⟨h.1, h.2.1, fun k hk hx => ?_⟩
  have e : 512 * to + k ≠ 512 * to + a := fun z => hx (by rw [show k = a by omega]; exact ha)
  rw [pk_un e]
  exact h.2.2 k hk hx
/-- the class adds both addresses: the line agrees again -/
theorem EM.fill {to sz a : Nat} {X : List Nat} {wo li op x1 x2 : Nat → Int32} (h : EM to sz (a :: X) wo li op x1 x2) (hw : wo a = op (512 * to + a)) : EM to sz X (upd wo a (wo a + ((32 : Int32) * x1 (512 * to + a) + (16384 : Int32) * x2 (512 * to + a)))) li op x1 x2 := by
  refine ⟨h.1, h.2.1, fun k hk hx => ?_⟩
  by_cases e : k = a
  · subst e
    rw [pk_us, hw, Int32.add_assoc]
  · rw [pk_un e]
    exact h.2.2 k hk (fun z => by
      rcases List.mem_cons.mp z with z | z
      · exact e z
      · exact hx z)
