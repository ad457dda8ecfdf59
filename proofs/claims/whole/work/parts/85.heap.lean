/-! the cells of both: a bijection between those in use -/
def cnt (p : Nat → Int32) : Nat → Nat
  | 0 => 0
  | n + 1 => cnt p n + (if p n = 0 then 0 else 1)
theorem cnt_le (p : Nat → Int32) : ∀ n, cnt p n ≤ n
  | 0 => Nat.le_refl _
  | n + 1 => by
    have := cnt_le p n
    show cnt p n + (if p n = 0 then 0 else 1) ≤ n + 1
    split <;> omega
theorem cnt_lt {p : Nat → Int32} : ∀ {n : Nat}, cnt p n < n → ∃ c, c < n ∧ p c = 0 ∧ ∀ c', c' < c → p c' ≠ 0
  | 0, h => absurd h (Nat.lt_irrefl _)
  | n + 1, h => by
    by_cases h1 : cnt p n < n
    · obtain ⟨c, h2, h3, h4⟩ := cnt_lt h1
      exact ⟨c, by omega, h3, h4⟩
    · have h2 : cnt p n = n := by have := cnt_le p n; omega
      have h3 : cnt p n + (if p n = 0 then 0 else 1) < n + 1 := h
      have h4 : p n = 0 := by
        by_cases e : p n = 0
        · exact e
        · rw [if_neg e] at h3; omega
      have full : ∀ k, cnt p k = k → ∀ c', c' < k → p c' ≠ 0 := by
        intro k
        induction k with
        | zero => intro _ c' hc'; omega
        | succ k ih =>
          intro hk c' hc'
          have hk2 : cnt p k + (if p k = 0 then 0 else 1) = k + 1 := hk
          have hle := cnt_le p k
          have hpk : ¬ p k = 0 := fun e => by rw [if_pos e] at hk2; omega
          rw [if_neg hpk] at hk2
          by_cases e : c' = k
          · rw [e]; exact hpk
          · exact ih (by omega) c' (by omega)
      exact ⟨n, by omega, h4, full n h2⟩
theorem cnt_same {p q : Nat → Int32} : ∀ n, (∀ c, c < n → (p c = 0 ↔ q c = 0)) → cnt p n = cnt q n
  | 0, _ => rfl
  | n + 1, h => by
    show cnt p n + (if p n = 0 then 0 else 1) = cnt q n + (if q n = 0 then 0 else 1)
    rw [cnt_same n (fun c hc => h c (by omega))]
    by_cases e : p n = 0
    · rw [if_pos e, if_pos ((h n (by omega)).mp e)]
    · rw [if_neg e, if_neg (fun z => e ((h n (by omega)).mpr z))]
theorem cnt_upd {p : Nat → Int32} {c : Nat} {v : Int32} (hv : ¬ v = 0) (hc : p c = 0) : ∀ n, c < n → cnt (upd p c v) n = cnt p n + 1
  | 0, h => absurd h (Nat.not_lt_zero _)
  | n + 1, h => by
    show cnt (upd p c v) n + (if upd p c v n = 0 then 0 else 1) = cnt p n + (if p n = 0 then 0 else 1) + 1
    by_cases e : c = n
    · subst e
      rw [pk_us, if_neg hv, hc, if_pos rfl, cnt_same (p := upd p c v) (q := p) c (fun x hx => by rw [pk_un (by omega)])]
    · rw [pk_un (Ne.symm e), cnt_upd hv hc n (by omega)]
      omega
/-- the cells in use: those that are not in the row of free ones -/
def US (sz f : Nat) (fre : Nat → Int32) (c : Nat) : Prop := c < sz ∧ ∀ i, i < f → fre i ≠ nI c
def updN (f : Nat → Nat) (k x : Nat) : Nat → Nat := fun j => if j = k then x else f j
theorem un_s {f : Nat → Nat} {k x : Nat} : updN f k x k = x := if_pos rfl
theorem un_n {f : Nat → Nat} {k x j : Nat} (h : j ≠ k) : updN f k x j = f j := if_neg h
def CELL (π : Nat → Nat) (U G : Nat → Prop) (kc lc rc km lm rm : Nat → Int32) (c : Nat) : Prop :=
  (kc c = 0 ∧ km (π c) = 1 ∧ lm (π c) = lc c) ∨ (kc c = 1 ∧ km (π c) = 2 ∧ nameR (lc c) (lm (π c))) ∨
  (kc c = 2 ∧ km (π c) = 3 ∧ ∃ a b, lc c = nI a ∧ rc c = nI b ∧ lm (π c) = nI (π a) ∧ rm (π c) = nI (π b) ∧ U a ∧ U b) ∨
  (kc c = 3 ∧ km (π c) = 4 ∧ ∃ a b, a < 512 ∧ lc c = nI a ∧ lm (π c) = nI a ∧ rc c = nI b ∧ rm (π c) = nI (π b) ∧ U b ∧ G a) ∨
  (kc c = 4 ∧ km (π c) = 5 ∧ ∃ a b, a < 512 ∧ lc c = nI a ∧ lm (π c) = nI a ∧ rc c = nI b ∧ rm (π c) = nI (π b) ∧ U b)
def HP (sz f : Nat) (fre kc lc rc tk km lm rm : Nat → Int32) (π : Nat → Nat) (G : Nat → Prop) : Prop :=
  24 ≤ sz ∧ sz ≤ 200 ∧ f + 3 ≤ sz ∧ (∀ i, i < f → ∃ c, c < sz ∧ fre i = nI c) ∧ (∀ i j, i < f → j < f → fre i = fre j → i = j) ∧
  (∀ c, US sz f fre c → π c < sz ∧ ¬ tk (π c) = 0 ∧ CELL π (US sz f fre) G kc lc rc km lm rm c) ∧
  (∀ c c', US sz f fre c → US sz f fre c' → π c = π c' → c = c') ∧ cnt tk sz + f = sz ∧ (∀ c, c < 3 → US sz f fre c ∧ π c = c ∧ kc c = 1)
theorem q_make {sz : Nat} {tk km lm rm : Nat → Int32} {us k l r : Int32} {c : Nat} {post : Int32 → Int32 → (Nat → Int32) → (Nat → Int32) → (Nat → Int32) → (Nat → Int32) → Prop} (hs : sz ≤ 200) (hc : c < sz) (h0 : tk c = 0) (h1 : ∀ c', c' < c → tk c' ≠ 0) (hp : post (nI c) (us + 1) (upd km c k) (upd lm c l) (upd rm c r) (upd tk c 1)) : wp_Model_make (nI sz) us km lm rm tk k l r post := by
  have fin : wp_Model_make_J30 (nI sz) post k l r (nI c) us km lm rm tk := by
    unfold wp_Model_make_J30
    rw [nI_clamp (n := c) (by omega)]
    have v : vp_in (nI c) 200 := vp_in_nI (by omega) (by decide)
    exact ⟨v, v, v, v, hp⟩
  have es : nI sz - 1 = nI (sz - 1) := by
    rw [show sz = (sz - 1) + 1 by omega, nI_pred]
    rfl
  have key : ∀ m x, x + m = c → wp_Model_make_L3 (nI sz) (wp_Model_make_J30 (nI sz) post) post (m + 1) k l r (nI x) us km lm rm tk := by
    intro m
    induction m with
    | zero =>
      intro x e
      have : x = c := e
      subst this
      refine ⟨fun _ => fin, fun _ => ?_⟩
      rw [nI_clamp (n := x) (by omega)]
      exact ⟨vp_in_nI (by omega) (by decide), fun _ => fin, fun z => absurd h0 z⟩
    | succ m ih =>
      intro x e
      refine ⟨fun z => ?_, fun _ => ?_⟩
      · rw [es] at z
        exact absurd z (nI_ge (by omega) (by omega))
      · rw [nI_clamp (n := x) (by omega), nI_1]
        exact ⟨vp_in_nI (by omega) (by decide), fun z => absurd z (h1 x (by omega)), fun _ => ih (x + 1) (by omega)⟩
  exact ⟨_, key c 0 (by omega)⟩
theorem CELL.to {π π' : Nat → Nat} {U U' G : Nat → Prop} {kc lc rc km lm rm kc' lc' rc' km' lm' rm' : Nat → Int32} {c : Nat} (h : CELL π U G kc lc rc km lm rm c) (hU : ∀ x, U x → U' x ∧ π' x = π x) (hc : U c) (e1 : kc' c = kc c ∧ lc' c = lc c ∧ rc' c = rc c) (e2 : km' (π c) = km (π c) ∧ lm' (π c) = lm (π c) ∧ rm' (π c) = rm (π c)) : CELL π' U' G kc' lc' rc' km' lm' rm' c := by
  unfold CELL at h ⊢
  rw [(hU c hc).2, e1.1, e1.2.1, e1.2.2, e2.1, e2.2.1, e2.2.2]
  rcases h with h | h | ⟨h1, h2, a, b, h3, h4, h5, h6, h7, h8⟩ | ⟨h1, h2, a, b, h3, h4, h5, h6, h7, h8, h9⟩ | ⟨h1, h2, a, b, h3, h4, h5, h6, h7, h8⟩
  · exact Or.inl h
  · exact Or.inr (Or.inl h)
  · exact Or.inr (Or.inr (Or.inl ⟨h1, h2, a, b, h3, h4, by rw [(hU a h7).2]; exact h5, by rw [(hU b h8).2]; exact h6, (hU a h7).1, (hU b h8).1⟩))
  · exact Or.inr (Or.inr (Or.inr (Or.inl ⟨h1, h2, a, b, h3, h4, h5, h6, by rw [(hU b h8).2]; exact h7, (hU b h8).1, h9⟩)))
  · exact Or.inr (Or.inr (Or.inr (Or.inr ⟨h1, h2, a, b, h3, h4, h5, h6, by rw [(hU b h8).2]; exact h7, (hU b h8).1⟩)))
/-- both take a cell -/
theorem HP.alloc {sz f : Nat} {fre kc lc rc tk km lm rm : Nat → Int32} {π : Nat → Nat} {G : Nat → Prop} (h : HP sz (f + 1) fre kc lc rc tk km lm rm π G) : ∃ c c', ¬ US sz (f + 1) fre c ∧ c < sz ∧ c' < sz ∧ US sz f fre c ∧ (∀ x, US sz (f + 1) fre x → US sz f fre x ∧ updN π c c' x = π x ∧ x ≠ c ∧ π x ≠ c') ∧ (∀ x, US sz f fre x → US sz (f + 1) fre x ∨ x = c) ∧
    (∀ (k l r : Int32) (post : Int32 → Int32 → (Nat → Int32) → (Nat → Int32) → (Nat → Int32) → Prop), post (nI c) (nI f) (upd kc c k) (upd lc c l) (upd rc c r) → wp_Memory_take sz sz sz sz (nI (f + 1)) fre kc lc rc k l r post) ∧
    (∀ (us k l r : Int32) (post : Int32 → Int32 → (Nat → Int32) → (Nat → Int32) → (Nat → Int32) → (Nat → Int32) → Prop), post (nI c') (us + 1) (upd km c' k) (upd lm c' l) (upd rm c' r) (upd tk c' 1) → wp_Model_make (nI sz) us km lm rm tk k l r post) ∧
    (∀ k l r k' l' r', CELL (updN π c c') (US sz f fre) G (upd kc c k) (upd lc c l) (upd rc c r) (upd km c' k') (upd lm c' l') (upd rm c' r') c → HP sz f fre (upd kc c k) (upd lc c l) (upd rc c r) (upd tk c' 1) (upd km c' k') (upd lm c' l') (upd rm c' r') (updN π c c') G) := by
  obtain ⟨h1, h2, h3, h4, h5, h6, h7, h8, h9⟩ := h
  obtain ⟨c, c1, c2⟩ := h4 f (by omega)
  obtain ⟨c', d1, d2, d3⟩ := cnt_lt (p := tk) (n := sz) (by omega)
  have nu : ¬ US sz (f + 1) fre c := fun z => z.2 f (by omega) c2
  have uc : US sz f fre c := ⟨c1, fun i hi e => absurd (h5 i f (by omega) (by omega) (e.trans c2.symm)) (by omega)⟩
  have mono : ∀ x, US sz (f + 1) fre x → US sz f fre x ∧ updN π c c' x = π x ∧ x ≠ c ∧ π x ≠ c' := fun x hx => by
    have ne : x ≠ c := fun e => nu (by rw [← e]; exact hx)
    exact ⟨⟨hx.1, fun i hi => hx.2 i (by omega)⟩, un_n ne, ne, fun e => (h6 x hx).2.1 (by rw [e]; exact d2)⟩
  have back : ∀ x, US sz f fre x → US sz (f + 1) fre x ∨ x = c := fun x hx => by
    by_cases e : x = c
    · exact Or.inr e
    · refine Or.inl ⟨hx.1, fun i hi => ?_⟩
      by_cases e2 : i = f
      · rw [e2, c2]
        exact fun z => e ((nI_eq (by have := hx.1; omega) (by omega)).mp z.symm)
      · exact hx.2 i (by omega)
  refine ⟨c, c', nu, c1, d1, uc, mono, back, fun k l r post hp => ?_, fun us k l r post hp => q_make h2 d1 d2 d3 hp, fun k l r k' l' r' hc => ?_⟩
  · refine ⟨fun z => absurd z (nI_ne0 (by omega) (by omega)), fun _ => ?_⟩
    rw [nI_pred, nI_clamp (n := f) (by omega), c2, nI_clamp (n := c) (by omega)]
    have vc : vp_in (nI c) sz := vp_in_nI c1 (by omega)
    exact ⟨vp_in_nI (by omega) (by omega), vc, vc, vc, hp⟩
  · refine ⟨h1, h2, by omega, fun i hi => h4 i (by omega), fun i j hi hj => h5 i j (by omega) (by omega), fun x hx => ?_, fun x y hx hy e => ?_, ?_, fun x hx => ?_⟩
    · rcases back x hx with z | z
      · obtain ⟨m1, m2, m3, m4⟩ := mono x z
        obtain ⟨a1, a2, a3⟩ := h6 x z
        refine ⟨by rw [m2]; exact a1, by rw [m2, pk_un m4]; exact a2, a3.to (fun y hy => ⟨(mono y hy).1, (mono y hy).2.1⟩) z ⟨pk_un m3, pk_un m3, pk_un m3⟩ ⟨pk_un m4, pk_un m4, pk_un m4⟩⟩
      · subst z
        refine ⟨by rw [un_s]; exact d1, by rw [un_s, pk_us]; decide, hc⟩
    · rcases back x hx with z | z
      · rcases back y hy with z2 | z2
        · rw [(mono x z).2.1, (mono y z2).2.1] at e
          exact h7 x y z z2 e
        · rw [(mono x z).2.1, z2, un_s] at e
          exact absurd e (mono x z).2.2.2
      · rcases back y hy with z2 | z2
        · rw [(mono y z2).2.1, z, un_s] at e
          exact absurd e.symm (mono y z2).2.2.2
        · rw [z, z2]
    · rw [cnt_upd (by decide) d2 sz d1]
      omega
    · obtain ⟨a1, a2, a3⟩ := h9 x hx
      obtain ⟨m1, m2, m3, m4⟩ := mono x a1
      exact ⟨m1, by rw [m2]; exact a2, by rw [pk_un m3]; exact a3⟩
