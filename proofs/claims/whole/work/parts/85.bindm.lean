/-! bindings, on the reference's side -/
theorem q_shaped_L29_no {b m k n : Nat} {C N S : Nat → Int32} {lk : List Nat} {post : Int32 → Prop} (hb : b ≤ 200) (hm : m ≤ 200) (hkn : k < 400) (hck : chM b N (C k) lk) (hik : inc 0 m lk) (hn : n + 1 = lk.length) (h0 : post 0) : ∀ r i, i + r = n + 1 → wp_Model_shaped_L29 C N S post (r + 1) (nI k) (nI n) 0 (nI i) := by
  have nb : narrow .boolean (.int 0) = .int 0 := by decide
  have hlen := hik.len
  intro r
  induction r with
  | zero =>
    intro i e
    exact ⟨fun _ => ⟨nb, h0⟩, fun c => absurd (nI_lt (by omega) (by omega)) c⟩
  | succ r ih =>
    intro i e
    refine ⟨fun c => absurd c (Int32.not_lt.mpr (nI_le (by omega) (by omega))), fun _ => q_mpart (s := i) hb hm hkn (by omega) hck hik ⟨fun _ => ?_, fun c => absurd rfl c⟩⟩
    unfold wp_Model_shaped_J90 wp_Model_shaped_J91
    rw [nI_1]
    exact ih (i + 1) (by omega)
theorem q_shaped_L29 {b m k n : Nat} {K V F C N S W : Nat → Int32} {kids : Nat → List Nat} {lk : List Nat} {post : Int32 → Prop} (hb : b ≤ 200) (hm : m ≤ 200) (hkn : k < 400) (hck : chM b N (C k) lk) (hik : inc 0 m lk) (hn : n + 1 = lk.length)
    (hT : ∀ j, j < m → (K j = 1 ↔ S (b + j) = 1) ∧ (K j = 2 ↔ S (b + j) = 2) ∧ (K j = 2 → chM b N (C (b + j)) (kids j) ∧ inc 0 m (kids j))) :
    ∀ r i, i + r = n + 1 → ((∀ j ∈ lk.drop i, bnd K kids j) → post 1) → (¬ (∀ j ∈ lk.drop i, bnd K kids j) → post 0) → wp_Model_shaped_L29 C N S post (r + 1) (nI k) (nI n) 1 (nI i) := by
  have nb : narrow .boolean (.int 1) = .int 1 := by decide
  have hlen := hik.len
  have hpos : ∀ j ∈ lk, j < m := by
    have key : ∀ (l : List Nat) (lo : Nat), inc lo m l → ∀ j ∈ l, j < m := by
      intro l
      induction l with
      | nil => intro lo _ j hj; exact (List.not_mem_nil hj).elim
      | cons a l ih =>
        intro lo h j hj
        rcases List.mem_cons.mp hj with e | hj
        · rw [e]; exact h.2.1
        · exact ih _ h.2.2 j hj
    exact key lk 0 hik
  intro r
  induction r with
  | zero =>
    intro i e h1 h0
    refine ⟨fun _ => ⟨nb, h1 (fun j hj => ?_)⟩, fun c => absurd (nI_lt (by omega) (by omega)) c⟩
    rw [show i = lk.length by omega, List.drop_length] at hj
    exact (List.not_mem_nil hj).elim
  | succ r ih =>
    intro i e h1 h0
    have hil : i < lk.length := by omega
    have ed : lk.drop i = lk[i] :: lk.drop (i + 1) := List.drop_eq_getElem_cons hil
    have hj : lk[i] < m := hpos _ (List.getElem_mem hil)
    obtain ⟨j, ej⟩ : ∃ j, lk[i] = j := ⟨_, rfl⟩
    rw [ej] at ed hj
    obtain ⟨t1, t2, t3⟩ := hT j hj
    have no : ¬ bnd K kids j → wp_Model_shaped_J90 C N S (wp_Model_shaped_L29 C N S post (r + 1)) post (nI k) (nI n) (nI i) := fun g => by
      unfold wp_Model_shaped_J90 wp_Model_shaped_J91
      rw [nI_1]
      exact q_shaped_L29_no hb hm hkn hck hik hn (h0 (fun g2 => g (g2 j (by rw [ed]; exact List.mem_cons_self)))) r (i + 1) (by omega)
    refine ⟨fun c => absurd c (Int32.not_lt.mpr (nI_le (by omega) (by omega))), fun _ => q_mpart (s := i) hb hm hkn (by omega) hck hik ⟨fun c => absurd c (by decide), fun _ => ?_⟩⟩
    rw [ed]
    show vp_in (nI (b + j)) 400 ∧ ((S (nI (b + j)).toNatClampNeg = 2 → wp_Model_parts C N (nI (b + j)) _) ∧ (¬ S (nI (b + j)).toNatClampNeg = 2 → _))
    rw [nI_clamp (n := b + j) (by omega)]
    have vj : vp_in (nI (b + j)) 400 := vp_in_nI (by omega) (by decide)
    refine ⟨vj, fun c => ?_, fun c => no (fun g => c (t2.mp g.1))⟩
    obtain ⟨u1, u2⟩ := t3 (t2.mpr c)
    have ul := u2.len
    refine q_mparts hb hm (by omega) u1 u2 ⟨fun c3 => ?_, fun c3 => no (fun g => c3 (by rw [g.2.1]; rfl))⟩
    have c4 : (kids j).length = 2 := (nI_eq (b := 2) (by omega) (by decide)).mp c3
    have hd := u1.hd
    obtain ⟨a, t, ek⟩ : ∃ a t, kids j = a :: t := by
      cases hk : kids j with
      | nil => rw [hk] at c4; exact absurd c4 (by decide)
      | cons a t => exact ⟨a, t, rfl⟩
    rw [ek] at hd u2
    have ha : a < m := u2.2.1
    have ehd : (kids j).headD 0 = a := by rw [ek]; rfl
    have hd : C (b + j) = nI (b + a) := hd
    show vp_in (nI (b + j)) 400 ∧ vp_in (C (nI (b + j)).toNatClampNeg) 400 ∧ ((S (C (nI (b + j)).toNatClampNeg).toNatClampNeg = 1 → _) ∧ (¬ S (C (nI (b + j)).toNatClampNeg).toNatClampNeg = 1 → _))
    rw [nI_clamp (n := b + j) (by omega), hd, nI_clamp (n := b + a) (by omega)]
    obtain ⟨s1, -, -⟩ := hT a ha
    refine ⟨vj, vp_in_nI (by omega) (by decide), fun c5 => ?_, fun c5 => no (fun g => c5 (s1.mp (by have := g.2.2; rw [ehd] at this; exact this)))⟩
    unfold wp_Model_shaped_J91
    rw [nI_1]
    refine ih (i + 1) (by omega) (fun g => h1 (fun y hy => ?_)) (fun g => h0 (fun g2 => g (fun y hy => g2 y (by rw [ed]; exact List.mem_cons_of_mem _ hy))))
    rw [ed] at hy
    rcases List.mem_cons.mp hy with e2 | hy
    · rw [e2]
      exact ⟨t2.mpr c, c4, by rw [ehd]; exact s1.mpr c5⟩
    · exact g y hy
