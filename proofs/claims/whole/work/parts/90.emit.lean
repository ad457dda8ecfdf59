/-! the code that both put out: to is the reference's bank that is written, sz the lines so far, X the lines whose addresses the class has still to add -/
def EM (to sz : Nat) (X : List Nat) (wo li op x1 x2 : Nat → Int32) : Prop := sz ≤ 512 ∧ li to = nI sz ∧ ∀ k, k < sz → k ∉ X → wo k = (op (512 * to + k) + (32 : Int32) * x1 (512 * to + k)) + (16384 : Int32) * x2 (512 * to + k)
theorem EM.nil {to : Nat} {X : List Nat} {wo li op x1 x2 : Nat → Int32} (h : li to = 0) : EM to 0 X wo li op x1 x2 := ⟨by omega, h, fun k hk => absurd hk (by omega)⟩
theorem EM.emit {to sz : Nat} {X : List Nat} {wo li op x1 x2 : Nat → Int32} {bank o a c : Int32} (h : EM to sz X wo li op x1 x2) (hs : sz < 512) (ht : to < 2) (hbk : (1 : Int32) - bank = nI to) :
    EM to (sz + 1) X (upd wo sz ((o + (32 : Int32) * a) + (16384 : Int32) * c)) (upd li to (nI (sz + 1))) (upd op (512 * to + sz) o) (upd x1 (512 * to + sz) a) (upd x2 (512 * to + sz) c) ∧
    (∀ post : Int32 → Int32 → (Nat → Int32) → Prop, post (nI sz) (nI (sz + 1)) (upd wo sz ((o + (32 : Int32) * a) + (16384 : Int32) * c)) → wp_Program_emit (nI sz) wo o a c post) ∧
    (∀ post : Int32 → (Nat → Int32) → (Nat → Int32) → (Nat → Int32) → (Nat → Int32) → Prop, post (nI sz) (upd li to (nI (sz + 1))) (upd op (512 * to + sz) o) (upd x1 (512 * to + sz) a) (upd x2 (512 * to + sz) c) → wp_Model_emit bank li op x1 x2 o a c post) := by
  obtain ⟨h1, h2, h3⟩ := h
  refine ⟨⟨by omega, pk_us, fun k hk hx => ?_⟩, fun post hp => ?_, fun post hp => ?_⟩
  · by_cases e : k = sz
    · subst e
      rw [pk_us, pk_us, pk_us, pk_us]
    · have e2 : 512 * to + k ≠ 512 * to + sz := by omega
      rw [pk_un e, pk_un e2, pk_un e2, pk_un e2]
      exact h3 k (by omega) hx
  · refine ⟨fun c => absurd c (nI_ge (a := sz) (b := 512) hs (by decide)), fun _ => ⟨vp_in_nI hs (by decide), ?_⟩⟩
    rw [nI_clamp (n := sz) (by omega), nI_1]
    exact hp
  · have vt : vp_in (nI to) 2 := vp_in_nI ht (by decide)
    have et : (nI to).toNatClampNeg = to := nI_clamp (by omega)
    have ea : (512 : Int32) * nI to + nI sz = nI (512 * to + sz) := by
      rw [show (512 : Int32) * nI to = nI (512 * to) from pk_mul 512 _, nI_add]
    have ve : vp_in (nI (512 * to + sz)) 1024 := vp_in_nI (by omega) (by decide)
    unfold wp_Model_emit
    rw [hbk, et, h2, ea, nI_clamp (n := 512 * to + sz) (by omega), nI_1]
    exact ⟨vt, ve, ve, ve, vt, vt, hp⟩
theorem EM.hole {to sz : Nat} {X : List Nat} {wo li op x1 x2 : Nat → Int32} (h : EM to sz X wo li op x1 x2) (a : Nat) : EM to sz (a :: X) wo li op x1 x2 :=
  ⟨h.1, h.2.1, fun k hk hx => h.2.2 k hk (fun z => hx (List.mem_cons_of_mem _ z))⟩
/-- the reference sets an address of a line that is left out -/
theorem EM.set1 {to sz a : Nat} {X : List Nat} {wo li op x1 x2 : Nat → Int32} {v : Int32} (h : EM to sz X wo li op x1 x2) (ha : a ∈ X) : EM to sz X wo li op (upd x1 (512 * to + a) v) x2 := by
  refine ⟨h.1, h.2.1, fun k hk hx => ?_⟩
  have e : 512 * to + k ≠ 512 * to + a := fun z => hx (by rw [show k = a by omega]; exact ha)
  rw [pk_un e]
  exact h.2.2 k hk hx
theorem EM.set2 {to sz a : Nat} {X : List Nat} {wo li op x1 x2 : Nat → Int32} {v : Int32} (h : EM to sz X wo li op x1 x2) (ha : a ∈ X) : EM to sz X wo li op x1 (upd x2 (512 * to + a) v) := by
  refine ⟨h.1, h.2.1, fun k hk hx => ?_⟩
  have e : 512 * to + k ≠ 512 * to + a := fun z => hx (by rw [show k = a by omega]; exact ha)
  rw [pk_un e]
  exact h.2.2 k hk hx
/-- the class adds both addresses: the line agrees again -/
theorem EM.fill {to sz a : Nat} {X : List Nat} {wo li op x1 x2 : Nat → Int32} (h : EM to sz (a :: X) wo li op x1 x2) (hw : wo a = op (512 * to + a)) : EM to sz X (upd wo a (wo a + ((32 : Int32) * x1 (512 * to + a) + (16384 : Int32) * x2 (512 * to + a)))) li op x1 x2 := by
  refine ⟨h.1, h.2.1, fun k hk hx => ?_⟩
  by_cases e : k = a
  · subst e
    rw [pk_us, hw, Int32.add_assoc]
  · rw [pk_un e]
    exact h.2.2 k hk (fun z => by
      rcases List.mem_cons.mp z with z | z
      · exact e z
      · exact hx z)
