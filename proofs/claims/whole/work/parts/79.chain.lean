/-! the parts of a list, from one on: the same nodes on both sides -/
def ch (F : Nat → Int32) : Int32 → List Nat → Prop
  | x, [] => x = -1
  | x, j :: l => x = nI j ∧ ch F (F j) l
def chM (b : Nat) (N : Nat → Int32) : Int32 → List Nat → Prop
  | y, [] => y = -1
  | y, j :: l => y = nI (b + j) ∧ chM b N (N (b + j)) l
def inc (lo m : Nat) : List Nat → Prop
  | [] => True
  | j :: l => lo ≤ j ∧ j < m ∧ inc (j + 1) m l
def hdp (l : List Nat) : Int32 := match l with
  | [] => -1
  | j :: _ => nI j
def hdM (b : Nat) (l : List Nat) : Int32 := match l with
  | [] => -1
  | j :: _ => nI (b + j)
theorem ch.hd {F : Nat → Int32} {x : Int32} {l : List Nat} (h : ch F x l) : x = hdp l := by
  cases l with
  | nil => exact h
  | cons j l => exact h.1
theorem chM.hd {b : Nat} {N : Nat → Int32} {y : Int32} {l : List Nat} (h : chM b N y l) : y = hdM b l := by
  cases l with
  | nil => exact h
  | cons j l => exact h.1
theorem inc.len {m : Nat} : ∀ {l : List Nat} {lo : Nat}, inc lo m l → l.length ≤ m - lo
  | [], _, _ => Nat.zero_le _
  | j :: l, lo, h => by
    have := inc.len h.2.2
    have h1 := h.1
    have h2 := h.2.1
    show l.length + 1 ≤ m - lo
    omega
theorem inc.weak {m lo lo' : Nat} {l : List Nat} (h : inc lo m l) (hl : lo' ≤ lo) : inc lo' m l := by
  cases l with
  | nil => trivial
  | cons j l => exact ⟨Nat.le_trans hl h.1, h.2.1, h.2.2⟩
section Chain
variable {b m d q : Nat} {K V F O P S W C N Q R : Nat → Int32}
theorem chain_from (h : RX b m d q K V F O P S W C N Q R) : ∀ r p, p < m → m ≤ p + r → ∃ l, ch F (nI p) (p :: l) ∧ chM b N (nI (b + p)) (p :: l) ∧ inc p m (p :: l) := by
  obtain ⟨⟨h1, h2, h3, h4⟩, cs, ce, pa, dp, A, B, -⟩ := h
  intro r
  induction r with
  | zero => intro p hp hr; exact absurd hr (by omega)
  | succ r ih =>
    intro p hp hr
    obtain ⟨a1, -⟩ := h3 p hp
    rcases B p hp with e | ⟨p2, e1, e2, e3, -⟩
    · rcases a1 with ⟨x1, x2⟩ | ⟨p1, x1, x2, x3⟩
      · exact ⟨[], ⟨rfl, x1⟩, ⟨rfl, x2⟩, Nat.le_refl _, hp, trivial⟩
      · exact absurd (x2.symm.trans e) (nI_m1 (by omega))
    · rcases a1 with ⟨x1, x2⟩ | ⟨p1, x1, x2, x3⟩
      · exact absurd (e2.symm.trans x1) (nI_m1 (by omega))
      · have ep : p1 = p2 := (nI_eq (by omega) (by omega)).mp (x2.symm.trans e2)
        subst ep
        obtain ⟨l, g1, g2, g3⟩ := ih p1 x1 (by omega)
        exact ⟨p1 :: l, ⟨rfl, by rw [x2]; exact g1⟩, ⟨rfl, by rw [x3]; exact g2⟩, Nat.le_refl _, hp, g3.weak e3⟩
theorem chain_both (h : RX b m d q K V F O P S W C N Q R) {x y : Int32} (hp : ptr b m x y) : ∃ l, ch F x l ∧ chM b N y l ∧ inc 0 m l := by
  rcases hp with ⟨x1, x2⟩ | ⟨p, x1, x2, x3⟩
  · exact ⟨[], x1, x2, trivial⟩
  · obtain ⟨l, g1, g2, g3⟩ := chain_from h m p x1 (by omega)
    exact ⟨p :: l, by rw [x2]; exact g1, by rw [x3]; exact g2, g3.weak (by omega)⟩
end Chain
theorem q_countFrom {F : Nat → Int32} {m : Nat} {x : Int32} {l : List Nat} {post : Int32 → Prop} (hm : m ≤ 200) (h : ch F x l) (hi : inc 0 m l) (hk : post (nI l.length)) : wp_Datum_countFrom (nI m) F x post := by
  have key : ∀ (l : List Nat) (x : Int32) (k lo : Nat), ch F x l → inc lo m l → k + l.length ≤ m → post (nI (k + l.length)) → wp_Datum_countFrom_L4 (nI m) F post (l.length + 1) (nI k) x := by
    intro l
    induction l with
    | nil =>
      intro x k lo h hi hl hk
      exact ⟨fun _ => hk, fun c => absurd h c⟩
    | cons j l ih =>
      intro x k lo h hi hl hk
      obtain ⟨e, h⟩ := h
      obtain ⟨i1, i2, i3⟩ := hi
      have hl' : k + (l.length + 1) ≤ m := hl
      refine ⟨fun c => absurd (e.symm.trans c) (nI_m1 (by omega)), fun _ => ⟨fun c => absurd c (nI_ge (by omega) (by omega)), fun _ => ?_⟩⟩
      rw [e, nI_clamp (n := j) (by omega), nI_1]
      refine ⟨vp_in_nI (by omega) (by decide), ih (F j) (k + 1) _ h i3 (by omega) ?_⟩
      have e2 : k + 1 + l.length = k + (j :: l).length := by
        show _ = k + (l.length + 1)
        omega
      rw [e2]
      exact hk
  have hl := hi.len
  refine ⟨_, key l x 0 0 h hi (by omega) ?_⟩
  rw [Nat.zero_add]
  exact hk
theorem q_partBehind {F : Nat → Int32} {m s : Nat} {x : Int32} {l : List Nat} {post : Int32 → Prop} (hm : m ≤ 200) (hs : s ≤ 1000) (h : ch F x l) (hi : inc 0 m l) (hk : post (hdp (l.drop s))) : wp_Datum_partBehind F x (nI s) post := by
  have key : ∀ (l : List Nat) (x : Int32) (k lo : Nat), ch F x l → inc lo m l → k ≤ s → post (hdp (l.drop (s - k))) → wp_Datum_partBehind_L5 F post (l.length + 1) (nI s) x (nI k) := by
    intro l
    induction l with
    | nil =>
      intro x k lo h hi hl hk
      have hk : post (-1) := by simpa [hdp] using hk
      exact ⟨fun _ => by rw [show x = -1 from h]; exact hk, fun _ => ⟨fun _ => by rw [show x = -1 from h]; exact hk, fun c => absurd h c⟩⟩
    | cons j l ih =>
      intro x k lo h hi hl hk
      obtain ⟨e, h⟩ := h
      obtain ⟨i1, i2, i3⟩ := hi
      by_cases c : k = s
      · subst c
        rw [Nat.sub_self] at hk
        exact ⟨fun _ => by rw [e]; exact hk, fun c => absurd (Int32.le_refl _) c⟩
      · refine ⟨fun c => absurd c (nI_ge (by omega) (by omega)), fun _ => ⟨fun c => absurd (e.symm.trans c) (nI_m1 (by omega)), fun _ => ?_⟩⟩
        rw [e, nI_clamp (n := j) (by omega), nI_1]
        refine ⟨vp_in_nI (by omega) (by decide), ih (F j) (k + 1) _ h i3 (by omega) ?_⟩
        have e2 : s - k = (s - (k + 1)) + 1 := by omega
        rw [e2] at hk
        exact hk
  exact ⟨_, key l x 0 0 h hi (by omega) hk⟩
theorem q_mparts {b k m : Nat} {C N : Nat → Int32} {l : List Nat} {post : Int32 → Prop} (hb : b ≤ 200) (hm : m ≤ 200) (hkn : k < 400) (h : chM b N (C k) l) (hi : inc 0 m l) (hk : post (nI l.length)) : wp_Model_parts C N (nI k) post := by
  have key : ∀ (l : List Nat) (x : Int32) (k lo : Nat), chM b N x l → inc lo m l → post (nI (k + l.length)) → wp_Model_parts_L9 C N post (l.length + 1) (nI k) x := by
    intro l
    induction l with
    | nil =>
      intro x k lo h hi hk
      exact ⟨fun _ => hk, fun c => absurd (by rw [show x = -1 from h]; decide) c⟩
    | cons j l ih =>
      intro x k lo h hi hk
      obtain ⟨e, h⟩ := h
      obtain ⟨i1, i2, i3⟩ := hi
      refine ⟨fun c => ?_, fun _ => ?_⟩
      · rw [e] at c
        exact absurd (nI_pos' (n := b + j) (by omega)) (Int32.not_le.mpr c)
      rw [e, nI_clamp (n := b + j) (by omega), nI_1]
      refine ⟨vp_in_nI (by omega) (by decide), ih (N (b + j)) (k + 1) _ h i3 ?_⟩
      have e2 : k + 1 + l.length = k + (j :: l).length := by
        show _ = k + (l.length + 1)
        omega
      rw [e2]
      exact hk
  have hl := hi.len
  unfold wp_Model_parts
  rw [nI_clamp (n := k) (by omega)]
  refine ⟨vp_in_nI hkn (by decide), _, key l (C k) 0 0 h hi ?_⟩
  rw [Nat.zero_add]
  exact hk
theorem q_mpart {b k m s : Nat} {C N : Nat → Int32} {l : List Nat} {post : Int32 → Prop} (hb : b ≤ 200) (hm : m ≤ 200) (hkn : k < 400) (hs : s ≤ l.length) (h : chM b N (C k) l) (hi : inc 0 m l) (hk : post (hdM b (l.drop s))) : wp_Model_part C N (nI k) (nI s) post := by
  have key : ∀ (l : List Nat) (x : Int32) (k lo : Nat), chM b N x l → inc lo m l → k ≤ s → s ≤ k + l.length → s ≤ 1000 → post (hdM b (l.drop (s - k))) → wp_Model_part_L10 C N post (l.length + 1) (nI s) x (nI k) := by
    intro l
    induction l with
    | nil =>
      intro x k lo h hi hl hl2 hs hk
      have e : s = k := by
        have : s ≤ k + 0 := hl2
        omega
      subst e
      have hk : post (-1) := by simpa [hdM] using hk
      exact ⟨fun _ => by rw [show x = -1 from h]; exact hk, fun c => absurd (Int32.le_refl _) c⟩
    | cons j l ih =>
      intro x k lo h hi hl hl2 hs hk
      obtain ⟨e, h⟩ := h
      obtain ⟨i1, i2, i3⟩ := hi
      have hl2 : s ≤ k + (l.length + 1) := hl2
      by_cases c : k = s
      · subst c
        rw [Nat.sub_self] at hk
        exact ⟨fun _ => by rw [e]; exact hk, fun c => absurd (Int32.le_refl _) c⟩
      · refine ⟨fun c => absurd c (nI_ge (by omega) (by omega)), fun _ => ?_⟩
        rw [e, nI_clamp (n := b + j) (by omega), nI_1]
        refine ⟨vp_in_nI (by omega) (by decide), ih (N (b + j)) (k + 1) _ h i3 (by omega) (by omega) hs ?_⟩
        have e2 : s - k = (s - (k + 1)) + 1 := by omega
        rw [e2] at hk
        exact hk
  have hl := hi.len
  unfold wp_Model_part
  rw [nI_clamp (n := k) (by omega)]
  exact ⟨vp_in_nI hkn (by decide), _, key l (C k) 0 0 h hi (by omega) (by omega) (by omega) hk⟩
