/-! the cells of both: a bijection between those in use -/
def cnt (p : Nat → Int32) : Nat → Nat
  | 0 => 0
  | n + 1 => cnt p n + (if p n = 0 then 0 else 1)
theorem cnt_le (p : Nat → Int32) : ∀ n, cnt p n ≤ n
  | 0 => Nat.le_refl _
  | n + 1 => by
    have := cnt_le p n
    show cnt p n + (if p n = 0 then 0 else 1) ≤ n + 1
    split <;> omega
theorem cnt_lt {p : Nat → Int32} : ∀ {n : Nat}, cnt p n < n → ∃ c, c < n ∧ p c = 0 ∧ ∀ c', c' < c → p c' ≠ 0
  | 0, h => absurd h (Nat.lt_irrefl _)
  | n + 1, h => by
    by_cases h1 : cnt p n < n
    · obtain ⟨c, h2, h3, h4⟩ := cnt_lt h1
      exact ⟨c, by omega, h3, h4⟩
    · have h2 : cnt p n = n := by have := cnt_le p n; omega
      have h3 : cnt p n + (if p n = 0 then 0 else 1) < n + 1 := h
      have h4 : p n = 0 := by
        by_cases e : p n = 0
        · exact e
        · rw [if_neg e] at h3; omega
      have full : ∀ k, cnt p k = k → ∀ c', c' < k → p c' ≠ 0 := by
        intro k
        induction k with
        | zero => intro _ c' hc'; omega
        | succ k ih =>
          intro hk c' hc'
          have hk2 : cnt p k + (if p k = 0 then 0 else 1) = k + 1 := hk
          have hle := cnt_le p k
          have hpk : ¬ p k = 0 := fun e => by rw [if_pos e] at hk2; omega
          rw [if_neg hpk] at hk2
          by_cases e : c' = k
          · rw [e]; exact hpk
          · exact ih (by omega) c' (by omega)
      exact ⟨n, by omega, h4, full n h2⟩
theorem cnt_same {p q : Nat → Int32} : ∀ n, (∀ c, c < n → (p c = 0 ↔ q c = 0)) → cnt p n = cnt q n
  | 0, _ => rfl
  | n + 1, h => by
    show cnt p n + (if p n = 0 then 0 else 1) = cnt q n + (if q n = 0 then 0 else 1)
    rw [cnt_same n (fun c hc => h c (by omega))]
    by_cases e : p n = 0
    · rw [if_pos e, if_pos ((h n (by omega)).mp e)]
    · rw [if_neg e, if_neg (fun z => e ((h n (by omega)).mpr z))]
theorem cnt_upd {p : Nat → Int32} {c : Nat} {v : Int32} (hv : ¬ v = 0) (hc : p c = 0) : ∀ n, c < n → cnt (upd p c v) n = cnt p n + 1
  | 0, h => absurd h (Nat.not_lt_zero _)
  | n + 1, h => by
    show cnt (upd p c v) n + (if upd p c v n = 0 then 0 else 1) = cnt p n + (if p n = 0 then 0 else 1) + 1
    by_cases e : c = n
    · subst e
      rw [pk_us, if_neg hv, hc, if_pos rfl, cnt_same (p := upd p c v) (q := p) c (fun x hx => by rw [pk_un (by omega)])]
    · rw [pk_un (Ne.symm e), cnt_upd hv hc n (by omega)]
      omega
/-- the cells in use: those that are not in the row of free ones -/
def US (sz f : Nat) (fre : Nat → Int32) (c : Nat) : Prop := c < sz ∧ ∀ i, i < f → fre i ≠ nI c
def updN (f : Nat → Nat) (k x : Nat) : Nat → Nat := fun j => if j = k then x else f j
theorem un_s {f : Nat → Nat} {k x : Nat} : updN f k x k = x := if_pos rfl
theorem un_n {f : Nat → Nat} {k x j : Nat} (h : j ≠ k) : updN f k x j = f j := if_neg h
def CELL (π : Nat → Nat) (U G : Nat → Prop) (kc lc rc km lm rm : Nat → Int32) (c : Nat) : Prop :=
  (kc c = 0 ∧ km (π c) = 1 ∧ lm (π c) = lc c) ∨ (kc c = 1 ∧ km (π c) = 2 ∧ nameR (lc c) (lm (π c))) ∨
  (kc c = 2 ∧ km (π c) = 3 ∧ ∃ a b, lc c = nI a ∧ rc c = nI b ∧ lm (π c) = nI (π a) ∧ rm (π c) = nI (π b) ∧ U a ∧ U b) ∨
  (kc c = 3 ∧ km (π c) = 4 ∧ ∃ a b, a < 512 ∧ lc c = nI a ∧ lm (π c) = nI a ∧ rc c = nI b ∧ rm (π c) = nI (π b) ∧ U b ∧ G a) ∨
  (kc c = 4 ∧ km (π c) = 5 ∧ ∃ a b, a < 512 ∧ lc c = nI a ∧ lm (π c) = nI a ∧ rc c = nI b ∧ rm (π c) = nI (π b) ∧ U b)
/-- no way along the rights of pairs and marks leads back -/
def ACY (U : Nat → Prop) (kc rc : Nat → Int32) : Prop := ∃ rk : Nat → Nat, ∀ c b, U c → b < 200 → (kc c = 2 ∨ kc c = 4) → rc c = nI b → rk b < rk c ∧ U b
theorem ACY.add {U U' : Nat → Prop} {kc rc : Nat → Int32} {c : Nat} {k r : Int32} (h : ACY U kc rc) (back : ∀ x, U' x → U x ∨ x = c) (mono : ∀ x, U x → U' x ∧ x ≠ c) (hn : ∀ b, b < 200 → (k = 2 ∨ k = 4) → r = nI b → U b) : ACY U' (upd kc c k) (upd rc c r) := by
  obtain ⟨rk, h⟩ := h
  refine ⟨updN rk c (rk r.toNatClampNeg + 1), fun x b hx hb hk hr => ?_⟩
  rcases back x hx with z | z
  · have ne := (mono x z).2
    rw [pk_un ne] at hk hr
    obtain ⟨a1, a2⟩ := h x b z hb hk hr
    rw [un_n ne, un_n (mono b a2).2]
    exact ⟨a1, (mono b a2).1⟩
  · subst z
    rw [pk_us] at hk hr
    have u := hn b hb hk hr
    rw [un_s, un_n (mono b u).2, hr, nI_clamp (by omega)]
    exact ⟨by omega, (mono b u).1⟩
def HP (sz f : Nat) (fre kc lc rc tk km lm rm : Nat → Int32) (π : Nat → Nat) (G : Nat → Prop) : Prop :=
  24 ≤ sz ∧ sz ≤ 200 ∧ f + 3 ≤ sz ∧ (∀ i, i < f → ∃ c, c < sz ∧ fre i = nI c) ∧ (∀ i j, i < f → j < f → fre i = fre j → i = j) ∧
  (∀ c, US sz f fre c → π c < sz ∧ ¬ tk (π c) = 0 ∧ CELL π (US sz f fre) G kc lc rc km lm rm c) ∧
  (∀ c c', US sz f fre c → US sz f fre c' → π c = π c' → c = c') ∧ cnt tk sz + f = sz ∧ (∀ c, c < 3 → US sz f fre c ∧ π c = c ∧ kc c = 1) ∧ ACY (US sz f fre) kc rc
theorem q_make {sz : Nat} {tk km lm rm : Nat → Int32} {us k l r : Int32} {c : Nat} {post : Int32 → Int32 → (Nat → Int32) → (Nat → Int32) → (Nat → Int32) → (Nat → Int32) → Prop} (hs : sz ≤ 200) (hc : c < sz) (h0 : tk c = 0) (h1 : ∀ c', c' < c → tk c' ≠ 0) (hp : post (nI c) (us + 1) (upd km c k) (upd lm c l) (upd rm c r) (upd tk c 1)) : wp_Model_make (nI sz) us km lm rm tk k l r post := by
  have fin : wp_Model_make_J30 (nI sz) post k l r (nI c) us km lm rm tk := by
    unfold wp_Model_make_J30
    rw [nI_clamp (n := c) (by omega)]
    have v : vp_in (nI c) 200 := vp_in_nI (by omega) (by decide)
    exact ⟨v, v, v, v, hp⟩
  have es : nI sz - 1 = nI (sz - 1) := by
    rw [show sz = (sz - 1) + 1 by omega, nI_pred]
    rfl
  have key : ∀ m x, x + m = c → wp_Model_make_L3 (nI sz) (wp_Model_make_J30 (nI sz) post) post (m + 1) k l r (nI x) us km lm rm tk := by
    intro m
    induction m with
    | zero =>
      intro x e
      have : x = c := e
      subst this
      refine ⟨fun _ => fin, fun _ => ?_⟩
      rw [nI_clamp (n := x) (by omega)]
      exact ⟨vp_in_nI (by omega) (by decide), fun _ => fin, fun z => absurd h0 z⟩
    | succ m ih =>
      intro x e
      refine ⟨fun z => ?_, fun _ => ?_⟩
      · rw [es] at z
        exact absurd z (nI_ge (by omega) (by omega))
      · rw [nI_clamp (n := x) (by omega), nI_1]
        exact ⟨vp_in_nI (by omega) (by decide), fun z => absurd z (h1 x (by omega)), fun _ => ih (x + 1) (by omega)⟩
  exact ⟨_, key c 0 (by omega)⟩
theorem CELL.to {π π' : Nat → Nat} {U U' G : Nat → Prop} {kc lc rc km lm rm kc' lc' rc' km' lm' rm' : Nat → Int32} {c : Nat} (h : CELL π U G kc lc rc km lm rm c) (hU : ∀ x, U x → U' x ∧ π' x = π x) (hc : U c) (e1 : kc' c = kc c ∧ lc' c = lc c ∧ rc' c = rc c) (e2 : km' (π c) = km (π c) ∧ lm' (π c) = lm (π c) ∧ rm' (π c) = rm (π c)) : CELL π' U' G kc' lc' rc' km' lm' rm' c := by
  unfold CELL at h ⊢
  rw [(hU c hc).2, e1.1, e1.2.1, e1.2.2, e2.1, e2.2.1, e2.2.2]
  rcases h with h | h | ⟨h1, h2, a, b, h3, h4, h5, h6, h7, h8⟩ | ⟨h1, h2, a, b, h3, h4, h5, h6, h7, h8, h9⟩ | ⟨h1, h2, a, b, h3, h4, h5, h6, h7, h8⟩
  · exact Or.inl h
  · exact Or.inr (Or.inl h)
  · exact Or.inr (Or.inr (Or.inl ⟨h1, h2, a, b, h3, h4, by rw [(hU a h7).2]; exact h5, by rw [(hU b h8).2]; exact h6, (hU a h7).1, (hU b h8).1⟩))
  · exact Or.inr (Or.inr (Or.inr (Or.inl ⟨h1, h2, a, b, h3, h4, h5, h6, by rw [(hU b h8).2]; exact h7, (hU b h8).1, h9⟩)))
  · exact Or.inr (Or.inr (Or.inr (Or.inr ⟨h1, h2, a, b, h3, h4, h5, h6, by rw [(hU b h8).2]; exact h7, (hU b h8).1⟩)))
/-- both take a cell -/
theorem HP.alloc {sz f : Nat} {fre kc lc rc tk km lm rm : Nat → Int32} {π : Nat → Nat} {G : Nat → Prop} (h : HP sz (f + 1) fre kc lc rc tk km lm rm π G) : ∃ c c', ¬ US sz (f + 1) fre c ∧ c < sz ∧ c' < sz ∧ US sz f fre c ∧ (∀ x, US sz (f + 1) fre x → US sz f fre x ∧ updN π c c' x = π x ∧ x ≠ c ∧ π x ≠ c') ∧ (∀ x, US sz f fre x → US sz (f + 1) fre x ∨ x = c) ∧
    (∀ (k l r : Int32) (post : Int32 → Int32 → (Nat → Int32) → (Nat → Int32) → (Nat → Int32) → Prop), post (nI c) (nI f) (upd kc c k) (upd lc c l) (upd rc c r) → wp_Memory_take sz sz sz sz (nI (f + 1)) fre kc lc rc k l r post) ∧
    (∀ (us k l r : Int32) (post : Int32 → Int32 → (Nat → Int32) → (Nat → Int32) → (Nat → Int32) → (Nat → Int32) → Prop), post (nI c') (us + 1) (upd km c' k) (upd lm c' l) (upd rm c' r) (upd tk c' 1) → wp_Model_make (nI sz) us km lm rm tk k l r post) ∧
    (∀ k l r k' l' r', (∀ b, b < 200 → (k = 2 ∨ k = 4) → r = nI b → US sz (f + 1) fre b) → CELL (updN π c c') (US sz f fre) G (upd kc c k) (upd lc c l) (upd rc c r) (upd km c' k') (upd lm c' l') (upd rm c' r') c → HP sz f fre (upd kc c k) (upd lc c l) (upd rc c r) (upd tk c' 1) (upd km c' k') (upd lm c' l') (upd rm c' r') (updN π c c') G) := by
  obtain ⟨h1, h2, h3, h4, h5, h6, h7, h8, h9, h10⟩ := h
  obtain ⟨c, c1, c2⟩ := h4 f (by omega)
  obtain ⟨c', d1, d2, d3⟩ := cnt_lt (p := tk) (n := sz) (by omega)
  have nu : ¬ US sz (f + 1) fre c := fun z => z.2 f (by omega) c2
  have uc : US sz f fre c := ⟨c1, fun i hi e => absurd (h5 i f (by omega) (by omega) (e.trans c2.symm)) (by omega)⟩
  have mono : ∀ x, US sz (f + 1) fre x → US sz f fre x ∧ updN π c c' x = π x ∧ x ≠ c ∧ π x ≠ c' := fun x hx => by
    have ne : x ≠ c := fun e => nu (by rw [← e]; exact hx)
    exact ⟨⟨hx.1, fun i hi => hx.2 i (by omega)⟩, un_n ne, ne, fun e => (h6 x hx).2.1 (by rw [e]; exact d2)⟩
  have back : ∀ x, US sz f fre x → US sz (f + 1) fre x ∨ x = c := fun x hx => by
    by_cases e : x = c
    · exact Or.inr e
    · refine Or.inl ⟨hx.1, fun i hi => ?_⟩
      by_cases e2 : i = f
      · rw [e2, c2]
        exact fun z => e ((nI_eq (by have := hx.1; omega) (by omega)).mp z.symm)
      · exact hx.2 i (by omega)
  refine ⟨c, c', nu, c1, d1, uc, mono, back, fun k l r post hp => ?_, fun us k l r post hp => q_make h2 d1 d2 d3 hp, fun k l r k' l' r' hac hc => ?_⟩
  · refine ⟨fun z => absurd z (nI_ne0 (by omega) (by omega)), fun _ => ?_⟩
    rw [nI_pred, nI_clamp (n := f) (by omega), c2, nI_clamp (n := c) (by omega)]
    have vc : vp_in (nI c) sz := vp_in_nI c1 (by omega)
    exact ⟨vp_in_nI (by omega) (by omega), vc, vc, vc, hp⟩
  · refine ⟨h1, h2, by omega, fun i hi => h4 i (by omega), fun i j hi hj => h5 i j (by omega) (by omega), fun x hx => ?_, fun x y hx hy e => ?_, ?_, fun x hx => ?_, h10.add back (fun x hx => ⟨(mono x hx).1, (mono x hx).2.2.1⟩) hac⟩
    · rcases back x hx with z | z
      · obtain ⟨m1, m2, m3, m4⟩ := mono x z
        obtain ⟨a1, a2, a3⟩ := h6 x z
        refine ⟨by rw [m2]; exact a1, by rw [m2, pk_un m4]; exact a2, a3.to (fun y hy => ⟨(mono y hy).1, (mono y hy).2.1⟩) z ⟨pk_un m3, pk_un m3, pk_un m3⟩ ⟨pk_un m4, pk_un m4, pk_un m4⟩⟩
      · subst z
        refine ⟨by rw [un_s]; exact d1, by rw [un_s, pk_us]; decide, hc⟩
    · rcases back x hx with z | z
      · rcases back y hy with z2 | z2
        · rw [(mono x z).2.1, (mono y z2).2.1] at e
          exact h7 x y z z2 e
        · rw [(mono x z).2.1, z2, un_s] at e
          exact absurd e (mono x z).2.2.2
      · rcases back y hy with z2 | z2
        · rw [(mono y z2).2.1, z, un_s] at e
          exact absurd e.symm (mono y z2).2.2.2
        · rw [z, z2]
    · rw [cnt_upd (by decide) d2 sz d1]
      omega
    · obtain ⟨a1, a2, a3⟩ := h9 x hx
      obtain ⟨m1, m2, m3, m4⟩ := mono x a1
      exact ⟨m1, by rw [m2]; exact a2, by rw [pk_un m3]; exact a3⟩
/-! the code keeps S, E and D in order: at each line, how many values S holds since the call, how many frames of DUM stand on E, which joins are owed, whether it is in a function; rap: the top is a closure over E itself -/
def STEP (cd : Nat → Nat × Nat × Nat) (n nco : Nat) (T : Nat → Nat → Nat → List Nat → Bool → Bool → Prop) (a h q : Nat) (js : List Nat) (fn rap : Bool) : Prop :=
  a < n ∧ (cd a).1 ≤ 20 ∧ (cd a).2.1 < 512 ∧ (cd a).2.2 < 512 ∧
  ((cd a).1 = 0 → T (a + 1) (h + 1) q js fn false) ∧
  ((cd a).1 = 1 → (cd a).2.1 ≤ nco ∧ T (a + 1) (h + 1) q js fn false) ∧
  ((cd a).1 = 2 → T (a + 1) 0 0 [] true false ∧ (T (cd a).2.1 (h + 1) q js fn false ∨ (1 ≤ q ∧ T (cd a).2.1 (h + 1) q js fn true))) ∧
  ((cd a).1 = 3 → 2 ≤ h ∧ T (a + 1) (h - 1) q js fn false) ∧
  ((cd a).1 = 4 → fn = true ∧ js = [] ∧ 1 ≤ h) ∧
  ((cd a).1 = 5 → T (a + 1) h (q + 1) js fn false) ∧
  ((cd a).1 = 6 → rap = true ∧ 2 ≤ h ∧ 1 ≤ q ∧ T (a + 1) (h - 1) (q - 1) js fn false) ∧
  ((cd a).1 = 7 → 1 ≤ h ∧ T (a + 1) (h - 1) q ((cd a).2.2 :: js) fn false ∧ T (cd a).2.1 (h - 1) q ((cd a).2.2 :: js) fn false) ∧
  ((cd a).1 = 8 → ∃ z js', js = z :: js' ∧ T z h q js' fn false) ∧
  (9 ≤ (cd a).1 ∧ (cd a).1 ≤ 11 → 1 ≤ h ∧ T (a + 1) h q js fn false) ∧
  (12 ≤ (cd a).1 ∧ (cd a).1 ≤ 19 → 2 ≤ h ∧ T (a + 1) (h - 1) q js fn false) ∧
  ((cd a).1 = 20 → 1 ≤ h)
def GOOD (cd : Nat → Nat × Nat × Nat) (n nco : Nat) (a h q : Nat) (js : List Nat) (fn rap : Bool) : Prop := ∃ T : Nat → Nat → Nat → List Nat → Bool → Bool → Prop, T a h q js fn rap ∧ ∀ a h q js fn rap, T a h q js fn rap → STEP cd n nco T a h q js fn rap
section
variable {cd : Nat → Nat × Nat × Nat} {n nco : Nat} {T T' : Nat → Nat → Nat → List Nat → Bool → Bool → Prop} {a h q : Nat} {js : List Nat} {fn rap : Bool}
theorem STEP.mono (hT : ∀ a h q js fn rap, T a h q js fn rap → T' a h q js fn rap) (s : STEP cd n nco T a h q js fn rap) : STEP cd n nco T' a h q js fn rap := by
  obtain ⟨s1, s2, s3, s4, t0, t1, t2, t3, t4, t5, t6, t7, t8, t9, t12, t20⟩ := s
  refine ⟨s1, s2, s3, s4, fun e => hT _ _ _ _ _ _ (t0 e), fun e => ⟨(t1 e).1, hT _ _ _ _ _ _ (t1 e).2⟩, fun e => ⟨hT _ _ _ _ _ _ (t2 e).1, ?_⟩, fun e => ⟨(t3 e).1, hT _ _ _ _ _ _ (t3 e).2⟩, t4, fun e => hT _ _ _ _ _ _ (t5 e), fun e => ⟨(t6 e).1, (t6 e).2.1, (t6 e).2.2.1, hT _ _ _ _ _ _ (t6 e).2.2.2⟩, fun e => ⟨(t7 e).1, hT _ _ _ _ _ _ (t7 e).2.1, hT _ _ _ _ _ _ (t7 e).2.2⟩, fun e => ?_, fun e => ⟨(t9 e).1, hT _ _ _ _ _ _ (t9 e).2⟩, fun e => ⟨(t12 e).1, hT _ _ _ _ _ _ (t12 e).2⟩, t20⟩
  · rcases (t2 e).2 with z | z
    · exact Or.inl (hT _ _ _ _ _ _ z)
    · exact Or.inr ⟨z.1, hT _ _ _ _ _ _ z.2⟩
  · obtain ⟨z, js', e1, e2⟩ := t8 e
    exact ⟨z, js', e1, hT _ _ _ _ _ _ e2⟩
theorem GOOD.elim (g : GOOD cd n nco a h q js fn rap) : STEP cd n nco (GOOD cd n nco) a h q js fn rap := by
  obtain ⟨T, t1, t2⟩ := g
  exact (t2 _ _ _ _ _ _ t1).mono (fun a h q js fn rap z => ⟨T, z, t2⟩)
theorem GOOD.intro (s : STEP cd n nco (GOOD cd n nco) a h q js fn rap) : GOOD cd n nco a h q js fn rap := by
  refine ⟨fun a' h' q' js' fn' rap' => GOOD cd n nco a' h' q' js' fn' rap' ∨ (a' = a ∧ h' = h ∧ q' = q ∧ js' = js ∧ fn' = fn ∧ rap' = rap), Or.inr ⟨rfl, rfl, rfl, rfl, rfl, rfl⟩, fun a' h' q' js' fn' rap' z => ?_⟩
  rcases z with z | ⟨e1, e2, e3, e4, e5, e6⟩
  · exact z.elim.mono (fun _ _ _ _ _ _ y => Or.inl y)
  · subst e1 e2 e3 e4 e5 e6
    exact s.mono (fun _ _ _ _ _ _ y => Or.inl y)
end
def CDE (cd : Nat → Nat × Nat × Nat) (p : Nat) (L : List (Nat × Nat × Nat)) : Prop := ∀ i, i < L.length → cd (p + i) = L.getD i (0, 0, 0)
theorem CDE.left {cd : Nat → Nat × Nat × Nat} {p : Nat} {L M : List (Nat × Nat × Nat)} (h : CDE cd p (L ++ M)) : CDE cd p L := fun i hi => by
  rw [h i (by rw [List.length_append]; omega), List.getD_eq_getElem?_getD, List.getD_eq_getElem?_getD, List.getElem?_append_left hi]
theorem CDE.right {cd : Nat → Nat × Nat × Nat} {p : Nat} {L M : List (Nat × Nat × Nat)} (h : CDE cd p (L ++ M)) : CDE cd (p + L.length) M := fun i hi => by
  have := h (L.length + i) (by rw [List.length_append]; omega)
  rw [show p + L.length + i = p + (L.length + i) by omega, this, List.getD_eq_getElem?_getD, List.getD_eq_getElem?_getD, List.getElem?_append_right (by omega), Nat.add_sub_cancel_left]
theorem CDE.tail {cd : Nat → Nat × Nat × Nat} {p : Nat} {x : Nat × Nat × Nat} {L : List (Nat × Nat × Nat)} (h : CDE cd p (x :: L)) : cd p = x ∧ CDE cd (p + 1) L := ⟨h 0 (by show 0 < _ + 1; omega), fun i hi => by
  have := h (i + 1) (by show i + 1 < _ + 1; omega)
  rw [show p + 1 + i = p + (i + 1) by omega, this]
  rfl⟩
/-- a piece of code: S grows from h + x to h + y, E's frames from q + i to q + j -/
def TT (g : GG) (x y i j : Nat) : Prop := ∀ (cd : Nat → Nat × Nat × Nat) (n nco pc nc : Nat) (r : List (Nat × Nat × Nat) × List Nat), n ≤ 512 ∧ nco ≤ 200 → g pc nc = .ok r → CDE cd pc r.1 → pc + r.1.length < n → nc + r.2.length ≤ nco → ∀ (h q : Nat) (js : List Nat) (fn : Bool), GOOD cd n nco (pc + r.1.length) (h + y) (q + j) js fn false → GOOD cd n nco pc (h + x) (q + i) js fn false
theorem TT.up {g : GG} {x y i j : Nat} (hg : TT g x y i j) (k l : Nat) : TT g (x + k) (y + k) (i + l) (j + l) := fun cd n nco pc nc r h1 h2 h3 h4 h5 h q js fn z => by
  have := hg cd n nco pc nc r h1 h2 h3 h4 h5 (h + k) (q + l) js fn (by rw [show h + k + y = h + (y + k) by omega, show q + l + j = q + (j + l) by omega]; exact z)
  rw [show h + (x + k) = h + k + x by omega, show q + (i + l) = q + l + i by omega]
  exact this
theorem TT.seq {g f : GG} {x y z i j k : Nat} (hg : TT g x y i j) (hf : TT f y z j k) : TT (gseq g f) x z i k := fun cd n nco pc nc r h1 h2 h3 h4 h5 h q js fn w => by
  unfold gseq at h2
  cases e1 : g pc nc with
  | error e => rw [e1] at h2; cases h2
  | ok s =>
    rw [e1] at h2
    simp only at h2
    cases e2 : f (pc + s.1.length) (nc + s.2.length) with
    | error e => rw [e2] at h2; cases h2
    | ok t =>
      rw [e2] at h2
      have e3 := Except.ok.inj h2
      subst e3
      simp only [List.length_append] at h4 h5 w
      refine hg cd n nco pc nc s h1 e1 h3.left (by omega) (by omega) h q js fn ?_
      refine hf cd n nco (pc + s.1.length) (nc + s.2.length) t h1 e2 h3.right (by omega) (by omega) h q js fn ?_
      rw [Nat.add_assoc]
      exact w
theorem TT.skip {x i : Nat} : TT gskip x x i i := fun cd n nco pc nc r h1 h2 h3 h4 h5 h q js fn w => by
  have e := Except.ok.inj h2
  subst e
  exact w
theorem TT.put {o a c x y i j : Nat} (ho : o ≤ 20) (ha : a < 512) (hc : c < 512)
    (hs : (o = 0 ∧ y = x + 1 ∧ i = j) ∨ (o = 1 ∧ a = 0 ∧ y = x + 1 ∧ i = j) ∨ (o = 3 ∧ x = y + 1 ∧ 1 ≤ y ∧ i = j) ∨ (o = 5 ∧ x = y ∧ j = i + 1) ∨ (9 ≤ o ∧ o ≤ 11 ∧ x = y ∧ 1 ≤ x ∧ i = j) ∨ (12 ≤ o ∧ o ≤ 19 ∧ x = y + 1 ∧ 1 ≤ y ∧ i = j)) : TT (gput o a c) x y i j := fun cd n nco pc nc r h1 h2 h3 h4 h5 h q js fn w => by
  have e := Except.ok.inj h2
  subst e
  have hcd : cd pc = (o, a, c) := h3.tail.1
  have w' : GOOD cd n nco (pc + 1) (h + y) (q + j) js fn false := w
  have h4' : pc + 1 < n := h4
  refine GOOD.intro ?_
  unfold STEP
  rw [hcd]
  simp only
  refine ⟨by omega, ho, ha, hc, fun e => ?_, fun e => ⟨by omega, ?_⟩, fun e => by omega, fun e => ⟨by omega, ?_⟩, fun e => by omega, fun e => ?_, fun e => by omega, fun e => by omega, fun e => by omega, fun e => ⟨by omega, ?_⟩, fun e => ⟨by omega, ?_⟩, fun e => by omega⟩
  · rw [show h + x + 1 = h + y by omega, show q + i = q + j by omega]; exact w'
  · rw [show h + x + 1 = h + y by omega, show q + i = q + j by omega]; exact w'
  · rw [show h + x - 1 = h + y by omega, show q + i = q + j by omega]; exact w'
  · rw [show h + x = h + y by omega, show q + i + 1 = q + j by omega]; exact w'
  · rw [show h + x = h + y by omega, show q + i = q + j by omega]; exact w'
  · rw [show h + x - 1 = h + y by omega, show q + i = q + j by omega]; exact w'
theorem TT.con {k : Nat} : TT (gcon k) 0 1 0 0 := fun cd n nco pc nc r h1 h2 h3 h4 h5 h q js fn w => by
  have e := Except.ok.inj h2
  subst e
  have hcd : cd pc = (1, nc + 1, 0) := h3.tail.1
  have w' : GOOD cd n nco (pc + 1) (h + 1) (q + 0) js fn false := w
  have h4' : pc + 1 < n := h4
  have h5' : nc + 1 ≤ nco := h5
  refine GOOD.intro ?_
  unfold STEP
  rw [hcd]
  simp only
  exact ⟨by omega, by omega, by omega, by omega, fun e => by omega, fun e => ⟨h5', w'⟩, fun e => by omega, fun e => by omega, fun e => by omega, fun e => by omega, fun e => by omega, fun e => by omega, fun e => by omega, fun e => by omega, fun e => by omega, fun e => by omega⟩
/-- the line that makes a closure, and the function's own lines -/
theorem TT.fun_ {g : GG} (hg : TT g 0 1 0 0) (cd : Nat → Nat × Nat × Nat) (n nco pc nc : Nat) (r : List (Nat × Nat × Nat) × List Nat) (h1 : n ≤ 512 ∧ nco ≤ 200) (h2 : gfn g pc nc = .ok r) (h3 : CDE cd pc r.1) (h4 : pc + r.1.length < n) (h5 : nc + r.2.length ≤ nco) (h q : Nat) (js : List Nat) (fn : Bool) (w : GOOD cd n nco (pc + r.1.length) (h + 1) q js fn false ∨ (1 ≤ q ∧ GOOD cd n nco (pc + r.1.length) (h + 1) q js fn true)) : GOOD cd n nco pc h q js fn false := by
  unfold gfn at h2
  cases e1 : g (pc + 1) nc with
  | error e => rw [e1] at h2; cases h2
  | ok s =>
    rw [e1] at h2
    have e3 := Except.ok.inj h2
    subst e3
    simp only [List.length_cons, List.length_append, List.length_nil] at h4 h5 w
    obtain ⟨hcd, h3'⟩ := h3.tail
    obtain ⟨hrt, -⟩ := h3'.right.tail
    have body : GOOD cd n nco (pc + 1) 0 0 [] true false := by
      refine hg cd n nco (pc + 1) nc s h1 e1 h3'.left (by omega) (by omega) 0 0 [] true (GOOD.intro ?_)
      unfold STEP
      rw [hrt]
      simp only
      exact ⟨by omega, by omega, by omega, by omega, fun e => by omega, fun e => by omega, fun e => by omega, fun e => by omega, fun e => ⟨trivial, trivial, by omega⟩, fun e => by omega, fun e => by omega, fun e => by omega, fun e => by omega, fun e => by omega, fun e => by omega, fun e => by omega⟩
    refine GOOD.intro ?_
    unfold STEP
    rw [hcd]
    simp only
    rw [show pc + s.1.length + 2 = pc + (s.1.length + (0 + 1) + 1) by omega]
    exact ⟨by omega, by omega, by omega, by omega, fun e => by omega, fun e => by omega, fun e => ⟨body, w⟩, fun e => by omega, fun e => by omega, fun e => by omega, fun e => by omega, fun e => by omega, fun e => by omega, fun e => by omega, fun e => by omega, fun e => by omega⟩
theorem TT.fnc {g : GG} (hg : TT g 0 1 0 0) : TT (gfn g) 0 1 0 0 := fun cd n nco pc nc r h1 h2 h3 h4 h5 h q js fn w => TT.fun_ hg cd n nco pc nc r h1 h2 h3 h4 h5 h q js fn (Or.inl w)
theorem TT.rap {g : GG} (hg : TT g 0 1 0 0) : TT (gseq (gfn g) (gput 6 0 0)) 1 1 1 0 := fun cd n nco pc nc r h1 h2 h3 h4 h5 h q js fn w => by
  unfold gseq at h2
  cases e1 : gfn g pc nc with
  | error e => rw [e1] at h2; cases h2
  | ok s =>
    rw [e1] at h2
    have e3 := Except.ok.inj h2
    subst e3
    simp only [List.length_append] at h4 h5 w
    have h4' : pc + (s.1.length + 1) < n := h4
    have h5' : nc + (s.2.length + 0) ≤ nco := h5
    have w' : GOOD cd n nco (pc + (s.1.length + 1)) (h + 1) (q + 0) js fn false := w
    obtain ⟨hcd, -⟩ := h3.right.tail
    refine TT.fun_ hg cd n nco pc nc s h1 e1 h3.left (by omega) (by omega) (h + 1) (q + 1) js fn (Or.inr ⟨by omega, GOOD.intro ?_⟩)
    unfold STEP
    rw [hcd]
    simp only
    exact ⟨by omega, by omega, by omega, by omega, fun e => by omega, fun e => by omega, fun e => by omega, fun e => by omega, fun e => by omega, fun e => by omega, fun e => ⟨trivial, by omega, by omega, w'⟩, fun e => by omega, fun e => by omega, fun e => by omega, fun e => by omega, fun e => by omega⟩
theorem TT.sel {g f : GG} (hg : TT g 0 1 0 0) (hf : TT f 0 1 0 0) : TT (gsel g f) 1 1 0 0 := fun cd n nco pc nc r h1 h2 h3 h4 h5 h q js fn w => by
  unfold gsel at h2
  cases e1 : g (pc + 1) nc with
  | error e => rw [e1] at h2; cases h2
  | ok s =>
    rw [e1] at h2
    simp only at h2
    cases e2 : f (pc + s.1.length + 2) (nc + s.2.length) with
    | error e => rw [e2] at h2; cases h2
    | ok t =>
      rw [e2] at h2
      have e3 := Except.ok.inj h2
      subst e3
      simp only [List.length_cons, List.length_append, List.length_nil] at h4 h5 w
      obtain ⟨hcd, h3'⟩ := h3.tail
      obtain ⟨hj1, h3b⟩ := h3'.right.tail
      obtain ⟨hj2, -⟩ := h3b.right.tail
      have join : ∀ p, p < n → cd p = (8, 0, 0) → GOOD cd n nco p (h + 1) (q + 0) ((pc + s.1.length + t.1.length + 3) :: js) fn false := fun p hp hc => by
        refine GOOD.intro ?_
        unfold STEP
        rw [hc]
        simp only
        exact ⟨hp, by omega, by omega, by omega, fun e => by omega, fun e => by omega, fun e => by omega, fun e => by omega, fun e => by omega, fun e => by omega, fun e => by omega, fun e => by omega, fun e => ⟨_, js, rfl, by rw [show pc + s.1.length + t.1.length + 3 = pc + (s.1.length + (t.1.length + (0 + 1) + 1) + 1) by omega]; exact w⟩, fun e => by omega, fun e => by omega, fun e => by omega⟩
      have th := hg cd n nco (pc + 1) nc s h1 e1 h3'.left (by omega) (by omega) h q ((pc + s.1.length + t.1.length + 3) :: js) fn (join (pc + 1 + s.1.length) (by omega) hj1)
      have el := hf cd n nco (pc + s.1.length + 2) (nc + s.2.length) t h1 e2 (by rw [show pc + s.1.length + 2 = pc + 1 + s.1.length + 1 by omega]; exact h3b.left) (by omega) (by omega) h q ((pc + s.1.length + t.1.length + 3) :: js) fn (join (pc + s.1.length + 2 + t.1.length) (by omega) (by rw [show pc + s.1.length + 2 + t.1.length = pc + 1 + s.1.length + 1 + t.1.length by omega]; exact hj2))
      refine GOOD.intro ?_
      unfold STEP
      rw [hcd]
      simp only
      exact ⟨by omega, by omega, by omega, by omega, fun e => by omega, fun e => by omega, fun e => by omega, fun e => by omega, fun e => by omega, fun e => by omega, fun e => by omega, fun e => ⟨by omega, th, el⟩, fun e => by omega, fun e => by omega, fun e => by omega, fun e => by omega⟩
theorem TT.down {c : Nat → GG} {l : List Nat} (hc : ∀ j ∈ l, TT (c j) 0 1 0 0) : ∀ k, k ≤ l.length → TT (gdown c l k) 1 1 0 0
  | 0, _ => TT.skip
  | k + 1, hk => ((hc _ (getD_mem (by omega))).up 1 0).seq (TT.seq (TT.put (by omega) (by omega) (by omega) (Or.inr (Or.inr (Or.inr (Or.inr (Or.inr ⟨by omega, by omega, rfl, by omega, rfl⟩)))))) (TT.down hc k (by omega)))
theorem TT.args {c : Nat → GG} {l : List Nat} (hc : ∀ j ∈ l, TT (c j) 0 1 0 0) : TT (gargs c l) 0 1 0 0 :=
  TT.seq (TT.put (by omega) (by omega) (by omega) (Or.inr (Or.inl ⟨rfl, rfl, rfl, rfl⟩))) (TT.down hc _ (Nat.le_refl _))
theorem plc_lt {K V : Nat → Int32} {kids : Nat → List Nat} {v : Int32} : ∀ {l : List Nat} {k x : Nat}, plc K V kids v l k = some x → x < k + l.length
  | [], _, _, h => by cases h
  | j :: l, k, x, h => by
    unfold plc at h
    by_cases c : V (mem0 K kids j) = v
    · rw [if_pos c] at h
      have := Option.some.inj h
      show x < k + (l.length + 1)
      omega
    · rw [if_neg c] at h
      have := plc_lt h
      show x < k + (l.length + 1)
      omega
theorem look_lt {K V : Nat → Int32} {kids : Nat → List Nat} {v : Int32} : ∀ {fs : List (List Nat)} {i : Nat} {x : Nat × Nat}, look K V kids v fs i = some x → (∀ l ∈ fs, l.length ≤ 200) → x.1 < i + fs.length ∧ x.2 < 200
  | [], _, _, h, _ => by cases h
  | l :: t, i, x, h, hl => by
    unfold look at h
    cases e : plc K V kids v l 0 with
    | some k =>
      rw [e] at h
      have h2 := Option.some.inj h
      subst h2
      have := plc_lt e
      have := hl l List.mem_cons_self
      exact ⟨by show i < i + (t.length + 1); omega, by show k < 200; omega⟩
    | none =>
      rw [e] at h
      have := look_lt h (fun y hy => hl y (List.mem_cons_of_mem _ hy))
      exact ⟨by show x.1 < i + (t.length + 1); omega, this.2⟩
theorem tt_comp {m : Nat} {K V F : Nat → Int32} {kids : Nat → List Nat} {w dp : Nat → Nat} (hT : TC m K V F kids w dp) : ∀ (d : Nat) (fs : List (List Nat)) (j : Nat), j < m → 13 ≤ d + dp j → fs.length ≤ dp j → (∀ l ∈ fs, l.length ≤ 200) → TT (comp K V kids d fs j) 0 1 0 0 := by
  intro d
  induction d with
  | zero => intro fs j hj hd; exact absurd (hT.2 j hj).2.1 (by omega)
  | succ d ih =>
    intro fs j hj hd hfs hl
    have hm := hT.1
    obtain ⟨hw1, hdp, hk⟩ := hT.2 j hj
    have er : ∀ x : Int32, TT (gerr x) 0 1 0 0 := fun x cd n nco pc nc r h1 h2 => by cases h2
    unfold comp
    rcases hk with hk | hk | ⟨hk, hd11, hch, hinc, hws, hdk⟩
    · rw [if_pos hk]; exact TT.con
    · rw [if_neg (by rw [hk]; decide), if_pos hk]
      cases e : look K V kids (V j) fs 0 with
      | none => exact er _
      | some x =>
        obtain ⟨x1, x2⟩ := look_lt e hl
        exact TT.put (by omega) (by omega) (by omega) (Or.inl ⟨rfl, rfl, rfl⟩)
    · rw [if_neg (by rw [hk]; decide), if_neg (by rw [hk]; decide)]
      cases hkids : kids j with
      | nil => exact er _
      | cons h t =>
        rw [hkids] at hinc hdk
        have kq : ∀ fs' : List (List Nat), fs'.length ≤ dp j + 1 → (∀ l ∈ fs', l.length ≤ 200) → ∀ y ∈ h :: t, TT (comp K V kids d fs' y) 0 1 0 0 := fun fs' hf hl' y hy => ih fs' y (hinc.mem hy).2 (by rw [hdk y hy]; omega) (by rw [hdk y hy]; exact hf) hl'
        simp only
        cases hfi : formIx K V h with
        | none => exact TT.seq (TT.args (fun y hy => kq fs (by omega) hl y (List.mem_cons_of_mem _ hy))) (TT.seq ((kq fs (by omega) hl h List.mem_cons_self).up 1 0) (TT.put (by omega) (by omega) (by omega) (Or.inr (Or.inr (Or.inl ⟨rfl, rfl, by omega, rfl⟩)))))
        | some i =>
          simp only
          split
          · rename_i hs
            obtain ⟨f1, f2, f3⟩ := formIx_some hfi
            obtain ⟨s11, s12, s13, s14, s3, s2⟩ := hs
            have nz : ∀ k, k < t.length → t.getD k 0 ∈ h :: t := fun k hk => List.mem_cons_of_mem _ (getD_mem hk)
            have lt : (h :: t).length = t.length + 1 := rfl
            rw [lt] at s11 s12 s13 s14 s3 s2
            have hlt : t.length ≤ 200 := by have := hinc.2.2.len; omega
            have ad : ∀ l' : List Nat, l'.length ≤ 200 → ∀ l ∈ l' :: fs, l.length ≤ 200 := fun l' h' l hy => by
              rcases List.mem_cons.mp hy with e | e
              · rw [e]; exact h'
              · exact hl l e
            have ldr : (t.drop 1).length ≤ 200 := by rw [List.length_drop]; omega
            have val : i = 14 ∨ i = 15 → ∀ fs' : List (List Nat), fs'.length ≤ dp j + 1 → (∀ l ∈ fs', l.length ≤ 200) → ∀ y ∈ t.drop 1, TT (comp K V kids d fs' ((kids y).getD 1 0)) 0 1 0 0 := fun hi fs' hf hl' y hy => by
              have hb := (s14 hi).2 y hy
              have hym : y ∈ h :: t := List.mem_cons_of_mem _ (List.mem_of_mem_drop hy)
              obtain ⟨v1, v2, v3⟩ := hT.val (hinc.mem hym).2 hb
              exact ih fs' _ v1 (by rw [v3, hdk y hym]; omega) (by rw [v3, hdk y hym]; omega) hl'
            unfold cform
            split
            · rename_i c
              exact TT.seq (kq fs (by omega) hl _ (nz 0 (by have := s2 c; omega))) (TT.put (by omega) (by omega) (by omega) (Or.inr (Or.inr (Or.inr (Or.inr (Or.inl ⟨by omega, by omega, rfl, by omega, rfl⟩))))))
            split
            · rename_i c
              have := s3 ⟨by omega, by omega⟩
              exact TT.seq (kq fs (by omega) hl _ (nz 1 (by omega))) (TT.seq ((kq fs (by omega) hl _ (nz 0 (by omega))).up 1 0) (TT.put (by omega) (by omega) (by omega) (Or.inr (Or.inr (Or.inr (Or.inr (Or.inr ⟨by omega, by omega, rfl, by omega, rfl⟩)))))))
            split
            · rename_i c1 c2 c
              have := s3 ⟨by omega, by omega⟩
              exact TT.seq (kq fs (by omega) hl _ (nz 0 (by omega))) (TT.seq ((kq fs (by omega) hl _ (nz 1 (by omega))).up 1 0) (TT.put (by omega) (by omega) (by omega) (Or.inr (Or.inr (Or.inr (Or.inr (Or.inr ⟨by omega, by omega, rfl, by omega, rfl⟩)))))))
            split
            · exact TT.con
            split
            · rename_i c
              have := s12 c
              exact TT.seq (kq fs (by omega) hl _ (nz 0 (by omega))) (TT.sel (kq fs (by omega) hl _ (nz 1 (by omega))) (kq fs (by omega) hl _ (nz 2 (by omega))))
            split
            · rename_i c
              obtain ⟨z1, z2, z3⟩ := s13 c
              have hk2 : (kids (t.getD 0 0)).length ≤ 200 := by
                have := (hT.hT (t.getD 0 0) (hinc.mem (nz 0 (by omega))).2 z2).2.len
                omega
              exact TT.fnc (kq _ (by show _ + 1 ≤ _; omega) (ad _ hk2) _ (nz 1 (by omega)))
            split
            · rename_i c
              have := (s14 (Or.inl c)).1
              exact TT.seq (TT.args (val (Or.inl c) fs (by omega) hl)) (TT.seq ((TT.fnc (kq _ (by show _ + 1 ≤ _; omega) (ad _ ldr) _ (nz 0 (by omega)))).up 1 0) (TT.put (by omega) (by omega) (by omega) (Or.inr (Or.inr (Or.inl ⟨rfl, rfl, by omega, rfl⟩)))))
            · have i15 : i = 15 := by omega
              have := (s14 (Or.inr i15)).1
              exact TT.seq (TT.put (j := 1) (by omega) (by omega) (by omega) (Or.inr (Or.inr (Or.inr (Or.inl ⟨rfl, rfl, rfl⟩))))) (TT.seq ((TT.args (val (Or.inr i15) _ (by show _ + 1 ≤ _; omega) (ad _ ldr))).up 0 1) (TT.rap (kq _ (by show _ + 1 ≤ _; omega) (ad _ ldr) _ (nz 0 (by omega)))))
          · exact er _
/-- a program's first line: S holds the list of the argument -/
theorem prog_good {m : Nat} {K V F : Nat → Int32} {kids : Nat → List Nat} {w dp : Nat → Nat} (hT : TC m K V F kids w dp) (hm : 0 < m) {r : List (Nat × Nat × Nat) × List Nat} (hr : gprog K V kids 0 0 = .ok r) (h1 : r.1.length ≤ 512) (h2 : r.2.length ≤ 200) {cd : Nat → Nat × Nat × Nat} (hc : CDE cd 0 r.1) : GOOD cd r.1.length r.2.length 0 1 0 [] false false := by
  unfold gprog gseq at hr
  cases e1 : comp K V kids 13 [] 0 0 0 with
  | error e => rw [e1] at hr; cases hr
  | ok s =>
    rw [e1] at hr
    have e3 := Except.ok.inj hr
    subst e3
    have ln : (s.1 ++ ([(3, 0, 0)] ++ [(20, 0, 0)])).length = s.1.length + 2 := List.length_append
    have ln2 : (s.2 ++ ([] ++ [])).length = s.2.length := by rw [List.length_append]; rfl
    have t := tt_comp hT 13 [] 0 hm (by omega) (Nat.zero_le _) (fun l hl => (List.not_mem_nil hl).elim) cd (s.1 ++ ([(3, 0, 0)] ++ [(20, 0, 0)])).length (s.2 ++ ([] ++ [])).length 0 0 s ⟨h1, h2⟩ e1 hc.left (by omega) (by omega) 1 0 [] false
    obtain ⟨c1, c2⟩ := hc.right.tail
    obtain ⟨c3, -⟩ := c2.tail
    refine t (GOOD.intro ?_)
    unfold STEP
    rw [c1]
    simp only
    refine ⟨by omega, by omega, by omega, by omega, fun e => by omega, fun e => by omega, fun e => by omega, fun e => ⟨by omega, GOOD.intro ?_⟩, fun e => by omega, fun e => by omega, fun e => by omega, fun e => by omega, fun e => by omega, fun e => by omega, fun e => by omega, fun e => by omega⟩
    unfold STEP
    rw [c3]
    simp only
    exact ⟨by omega, by omega, by omega, by omega, fun e => by omega, fun e => by omega, fun e => by omega, fun e => by omega, fun e => by omega, fun e => by omega, fun e => by omega, fun e => by omega, fun e => by omega, fun e => by omega, fun e => by omega, fun e => by omega⟩
