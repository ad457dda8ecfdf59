/-! names: the same letters, coded in two ways; the forms' names -/
theorem encR_inj (q : Nat) : ∀ l l' : List Nat, (∀ x ∈ l, 1 ≤ x ∧ x < q) → (∀ x ∈ l', 1 ≤ x ∧ x < q) → l.foldr (fun x a => a * q + x) 0 = l'.foldr (fun x a => a * q + x) 0 → l = l'
  | [], [], _, _, _ => rfl
  | [], y :: l', _, h', e => by
    have := h' y List.mem_cons_self
    have e2 : 0 = l'.foldr (fun x a => a * q + x) 0 * q + y := e
    omega
  | x :: l, [], h, _, e => by
    have := h x List.mem_cons_self
    have e2 : l.foldr (fun x a => a * q + x) 0 * q + x = 0 := e
    omega
  | x :: l, y :: l', h, h', e => by
    have hx := h x List.mem_cons_self
    have hy := h' y List.mem_cons_self
    have e2 : l.foldr (fun x a => a * q + x) 0 * q + x = l'.foldr (fun x a => a * q + x) 0 * q + y := e
    have m1 : (l.foldr (fun x a => a * q + x) 0 * q + x) % q = x := by rw [Nat.mul_add_mod', Nat.mod_eq_of_lt hx.2]
    have m2 : (l'.foldr (fun x a => a * q + x) 0 * q + y) % q = y := by rw [Nat.mul_add_mod', Nat.mod_eq_of_lt hy.2]
    have exy : x = y := by rw [← m1, ← m2, e2]
    subst exy
    have e3 : l.foldr (fun x a => a * q + x) 0 * q = l'.foldr (fun x a => a * q + x) 0 * q := by omega
    have e4 := Nat.eq_of_mul_eq_mul_right (by omega) e3
    rw [encR_inj q l l' (fun z hz => h z (List.mem_cons_of_mem _ hz)) (fun z hz => h' z (List.mem_cons_of_mem _ hz)) e4]
theorem enc_inj {q : Nat} (hq : 26 < q) {l l' : List Nat} (h : isNm l) (h' : isNm l') (e : enc q l = enc q l') : l = l' := by
  have r : ∀ l : List Nat, enc q l = l.reverse.foldr (fun x a => a * q + x) 0 := fun l => by
    unfold enc
    rw [List.foldr_reverse]
  rw [r, r] at e
  have g : ∀ l : List Nat, isNm l → ∀ x ∈ l.reverse, 1 ≤ x ∧ x < q := fun l h x hx => by
    have := h.2.2 x (List.mem_reverse.mp hx)
    omega
  have := encR_inj q l.reverse l'.reverse (g l h) (g l' h') e
  have := congrArg List.reverse this
  rwa [List.reverse_reverse, List.reverse_reverse] at this
theorem enc_bound {q : Nat} (hq : 26 < q) (hq2 : q ≤ 32) {l : List Nat} (h : isNm l) : enc q l < 2 ^ 30 := by
  have h1 := enc_lt (q := q) (l := l) (fun x hx => by have := h.2.2 x hx; omega)
  have h2 : q ^ l.length ≤ 32 ^ 6 := Nat.le_trans (Nat.pow_le_pow_left hq2 _) (Nat.pow_le_pow_right (by decide) h.2.1)
  have h3 : (32 : Nat) ^ 6 = 2 ^ 30 := by decide
  omega
theorem nameR_eq {v w v' w' : Int32} (h : nameR v w) (h' : nameR v' w') : v = v' ↔ w = w' := by
  obtain ⟨l, h1, h2, h3⟩ := h
  obtain ⟨l', g1, g2, g3⟩ := h'
  have b1 := enc_bound (q := 32) (by decide) (by decide) h1
  have b2 := enc_bound (q := 32) (by decide) (by decide) g1
  have b3 := enc_bound (q := 27) (by decide) (by decide) h1
  have b4 := enc_bound (q := 27) (by decide) (by decide) g1
  constructor
  · intro e
    rw [h2, g2] at e
    have e := enc_inj (by decide) h1 g1 ((nI_eq (by omega) (by omega)).mp e)
    rw [h3, g3, e]
  · intro e
    rw [h3, g3] at e
    have e := enc_inj (by decide) h1 g1 ((nI_eq (by omega) (by omega)).mp e)
    rw [h2, g2, e]
def formL : List (List Nat) := [[3, 1, 18], [3, 4, 18], [1, 20, 15, 13], [3, 15, 14, 19], [5, 17], [12, 5, 17], [1, 4, 4], [19, 21, 2], [13, 21, 12], [4, 9, 22], [18, 5, 13], [17, 21, 15, 20, 5], [9, 6], [12, 1, 13, 2, 4, 1], [12, 5, 20], [12, 5, 20, 18, 5, 3]]
def fpi : List Nat := [1, 2, 3, 11, 9, 10, 4, 5, 6, 7, 8, 0, 12, 13, 14, 15]
def formC : List Int32 := (tst 71).2
set_option maxRecDepth 100000 in
theorem form_names : ∀ i, i < 16 → formC.getD i 0 = nI (enc 32 (formL.getD i [])) ∧ formM.getD (fpi.getD i 0) 0 = nI (enc 27 (formL.getD i [])) ∧ fpi.getD i 0 < 16 ∧ (formL.getD i []).length ≤ 6 ∧ (formL.getD i []) ≠ [] ∧ ∀ x ∈ formL.getD i [], 1 ≤ x ∧ x ≤ 26 := by decide +kernel
theorem form_both {i : Nat} (h : i < 16) : nameR (formC.getD i 0) (formM.getD (fpi.getD i 0) 0) := by
  obtain ⟨h1, h2, h3, h4, h5, h6⟩ := form_names i h
  exact ⟨_, ⟨h5, h4, h6⟩, h1, h2⟩
