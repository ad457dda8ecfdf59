/-! the parts of a list, from one on: the same nodes on both sides -/
def ch (F : Nat → Int32) : Int32 → List Nat → Prop
  | x, [] => x = -1
  | x, j :: l => x = nI j ∧ ch F (F j) l
def chM (b : Nat) (N : Nat → Int32) : Int32 → List Nat → Prop
  | y, [] => y = -1
  | y, j :: l => y = nI (b + j) ∧ chM b N (N (b + j)) l
def inc (lo m : Nat) : List Nat → Prop
  | [] => True
  | j :: l => lo ≤ j ∧ j < m ∧ inc (j + 1) m l
def hdp (l : List Nat) : Int32 := match l with
  | [] => -1
  | j :: _ => nI j
def hdM (b : Nat) (l : List Nat) : Int32 := match l with
  | [] => -1
  | j :: _ => nI (b + j)
theorem ch.hd {F : Nat → Int32} {x : Int32} {l : List Nat} (h : ch F x l) : x = hdp l := by
  cases l with
  | nil => exact h
  | cons j l => exact h.1
theorem chM.hd {b : Nat} {N : Nat → Int32} {y : Int32} {l : List Nat} (h : chM b N y l) : y = hdM b l := by
  cases l with
  | nil => exact h
  | cons j l => exact h.1
theorem inc.len {m : Nat} : ∀ {l : List Nat} {lo : Nat}, inc lo m l → l.length ≤ m - lo
  | [], _, _ => Nat.zero_le _
  | j :: l, lo, h => by
    have := inc.len h.2.2
    have h1 := h.1
    have h2 := h.2.1
    show l.length + 1 ≤ m - lo
    omega
theorem inc.weak {m lo lo' : Nat} {l : List Nat} (h : inc lo m l) (hl : lo' ≤ lo) : inc lo' m l := by
  cases l with
  | nil => trivial
  | cons j l => exact ⟨Nat.le_trans hl h.1, h.2.1, h.2.2⟩
section Chain
variable {b m d q : Nat} {K V F O P S W C N Q R : Nat → Int32}
theorem chain_from (h : RX b m d q K V F O P S W C N Q R) : ∀ r p, p < m → m ≤ p + r → ∃ l, ch F (nI p) (p :: l) ∧ chM b N (nI (b + p)) (p :: l) ∧ inc p m (p :: l) := by
  obtain ⟨⟨h1, h2, h3, h4⟩, cs, ce, pa, dp, ⟨A, B, -⟩, -⟩ := h
  intro r
  induction r with
  | zero => intro p hp hr; exact absurd hr (by omega)
  | succ r ih =>
    intro p hp hr
    obtain ⟨a1, -⟩ := h3 p hp
    rcases B p hp with e | ⟨p2, e1, e2, e3, -⟩
    · rcases a1 with ⟨x1, x2⟩ | ⟨p1, x1, x2, x3⟩
      · exact ⟨[], ⟨rfl, x1⟩, ⟨rfl, x2⟩, Nat.le_refl _, hp, trivial⟩
      · exact absurd (x2.symm.trans e) (nI_m1 (by omega))
    · rcases a1 with ⟨x1, x2⟩ | ⟨p1, x1, x2, x3⟩
      · exact absurd (e2.symm.trans x1) (nI_m1 (by omega))
      · have ep : p1 = p2 := (nI_eq (by omega) (by omega)).mp (x2.symm.trans e2)
        subst ep
        obtain ⟨l, g1, g2, g3⟩ := ih p1 x1 (by omega)
        exact ⟨p1 :: l, ⟨rfl, by rw [x2]; exact g1⟩, ⟨rfl, by rw [x3]; exact g2⟩, Nat.le_refl _, hp, g3.weak e3⟩
theorem chain_both (h : RX b m d q K V F O P S W C N Q R) {x y : Int32} (hp : ptr b m x y) : ∃ l, ch F x l ∧ chM b N y l ∧ inc 0 m l := by
  rcases hp with ⟨x1, x2⟩ | ⟨p, x1, x2, x3⟩
  · exact ⟨[], x1, x2, trivial⟩
  · obtain ⟨l, g1, g2, g3⟩ := chain_from h m p x1 (by omega)
    exact ⟨p :: l, by rw [x2]; exact g1, by rw [x3]; exact g2, g3.weak (by omega)⟩
end Chain
theorem q_countFrom {F : Nat → Int32} {m : Nat} {x : Int32} {l : List Nat} {post : Int32 → Prop} (hm : m ≤ 200) (h : ch F x l) (hi : inc 0 m l) (hk : post (nI l.length)) : wp_Datum_countFrom (nI m) F x post := by
  have key : ∀ (l : List Nat) (x : Int32) (k lo : Nat), ch F x l → inc lo m l → k + l.length ≤ m → post (nI (k + l.length)) → wp_Datum_countFrom_L4 (nI m) F post (l.length + 1) (nI k) x := by
    intro l
    induction l with
    | nil =>
      intro x k lo h hi hl hk
      exact ⟨fun _ => hk, fun c => absurd h c⟩
    | cons j l ih =>
      intro x k lo h hi hl hk
      obtain ⟨e, h⟩ := h
      obtain ⟨i1, i2, i3⟩ := hi
      have hl' : k + (l.length + 1) ≤ m := hl
      refine ⟨fun c => absurd (e.symm.trans c) (nI_m1 (by omega)), fun _ => ⟨fun c => absurd c (nI_ge (by omega) (by omega)), fun _ => ?_⟩⟩
      rw [e, nI_clamp (n := j) (by omega), nI_1]
      refine ⟨vp_in_nI (by omega) (by decide), ih (F j) (k + 1) _ h i3 (by omega) ?_⟩
      have e2 : k + 1 + l.length = k + (j :: l).length := by
        show _ = k + (l.length + 1)
        omega
      rw [e2]
      exact hk
  have hl := hi.len
  refine ⟨_, key l x 0 0 h hi (by omega) ?_⟩
  rw [Nat.zero_add]
  exact hk
theorem q_partBehind {F : Nat → Int32} {m s : Nat} {x : Int32} {l : List Nat} {post : Int32 → Prop} (hm : m ≤ 200) (hs : s ≤ 1000) (h : ch F x l) (hi : inc 0 m l) (hk : post (hdp (l.drop s))) : wp_Datum_partBehind F x (nI s) post := by
  have key : ∀ (l : List Nat) (x : Int32) (k lo : Nat), ch F x l → inc lo m l → k ≤ s → post (hdp (l.drop (s - k))) → wp_Datum_partBehind_L5 F post (l.length + 1) (nI s) x (nI k) := by
    intro l
    induction l with
    | nil =>
      intro x k lo h hi hl hk
      have hk : post (-1) := by simpa [hdp] using hk
      exact ⟨fun _ => by rw [show x = -1 from h]; exact hk, fun _ => ⟨fun _ => by rw [show x = -1 from h]; exact hk, fun c => absurd h c⟩⟩
    | cons j l ih =>
      intro x k lo h hi hl hk
      obtain ⟨e, h⟩ := h
      obtain ⟨i1, i2, i3⟩ := hi
      by_cases c : k = s
      · subst c
        rw [Nat.sub_self] at hk
        exact ⟨fun _ => by rw [e]; exact hk, fun c => absurd (Int32.le_refl _) c⟩
      · refine ⟨fun c => absurd c (nI_ge (by omega) (by omega)), fun _ => ⟨fun c => absurd (e.symm.trans c) (nI_m1 (by omega)), fun _ => ?_⟩⟩
        rw [e, nI_clamp (n := j) (by omega), nI_1]
        refine ⟨vp_in_nI (by omega) (by decide), ih (F j) (k + 1) _ h i3 (by omega) ?_⟩
        have e2 : s - k = (s - (k + 1)) + 1 := by omega
        rw [e2] at hk
        exact hk
  exact ⟨_, key l x 0 0 h hi (by omega) hk⟩
theorem q_mparts {b k m : Nat} {C N : Nat → Int32} {l : List Nat} {post : Int32 → Prop} (hb : b ≤ 200) (hm : m ≤ 200) (hkn : k < 400) (h : chM b N (C k) l) (hi : inc 0 m l) (hk : post (nI l.length)) : wp_Model_parts C N (nI k) post := by
  have key : ∀ (l : List Nat) (x : Int32) (k lo : Nat), chM b N x l → inc lo m l → post (nI (k + l.length)) → wp_Model_parts_L9 C N post (l.length + 1) (nI k) x := by
    intro l
    induction l with
    | nil =>
      intro x k lo h hi hk
      exact ⟨fun _ => hk, fun c => absurd (by rw [show x = -1 from h]; decide) c⟩
    | cons j l ih =>
      intro x k lo h hi hk
      obtain ⟨e, h⟩ := h
      obtain ⟨i1, i2, i3⟩ := hi
      refine ⟨fun c => ?_, fun _ => ?_⟩
      · rw [e] at c
        exact absurd (nI_pos' (n := b + j) (by omega)) (Int32.not_le.mpr c)
      rw [e, nI_clamp (n := b + j) (by omega), nI_1]
      refine ⟨vp_in_nI (by omega) (by decide), ih (N (b + j)) (k + 1) _ h i3 ?_⟩
      have e2 : k + 1 + l.length = k + (j :: l).length := by
        show _ = k + (l.length + 1)
        omega
      rw [e2]
      exact hk
  have hl := hi.len
  unfold wp_Model_parts
  rw [nI_clamp (n := k) (by omega)]
  refine ⟨vp_in_nI hkn (by decide), _, key l (C k) 0 0 h hi ?_⟩
  rw [Nat.zero_add]
  exact hk
theorem q_mpart {b k m s : Nat} {C N : Nat → Int32} {l : List Nat} {post : Int32 → Prop} (hb : b ≤ 200) (hm : m ≤ 200) (hkn : k < 400) (hs : s ≤ l.length) (h : chM b N (C k) l) (hi : inc 0 m l) (hk : post (hdM b (l.drop s))) : wp_Model_part C N (nI k) (nI s) post := by
  have key : ∀ (l : List Nat) (x : Int32) (k lo : Nat), chM b N x l → inc lo m l → k ≤ s → s ≤ k + l.length → s ≤ 1000 → post (hdM b (l.drop (s - k))) → wp_Model_part_L10 C N post (l.length + 1) (nI s) x (nI k) := by
    intro l
    induction l with
    | nil =>
      intro x k lo h hi hl hl2 hs hk
      have e : s = k := by
        have : s ≤ k + 0 := hl2
        omega
      subst e
      have hk : post (-1) := by simpa [hdM] using hk
      exact ⟨fun _ => by rw [show x = -1 from h]; exact hk, fun c => absurd (Int32.le_refl _) c⟩
    | cons j l ih =>
      intro x k lo h hi hl hl2 hs hk
      obtain ⟨e, h⟩ := h
      obtain ⟨i1, i2, i3⟩ := hi
      have hl2 : s ≤ k + (l.length + 1) := hl2
      by_cases c : k = s
      · subst c
        rw [Nat.sub_self] at hk
        exact ⟨fun _ => by rw [e]; exact hk, fun c => absurd (Int32.le_refl _) c⟩
      · refine ⟨fun c => absurd c (nI_ge (by omega) (by omega)), fun _ => ?_⟩
        rw [e, nI_clamp (n := b + j) (by omega), nI_1]
        refine ⟨vp_in_nI (by omega) (by decide), ih (N (b + j)) (k + 1) _ h i3 (by omega) (by omega) hs ?_⟩
        have e2 : s - k = (s - (k + 1)) + 1 := by omega
        rw [e2] at hk
        exact hk
  have hl := hi.len
  unfold wp_Model_part
  rw [nI_clamp (n := k) (by omega)]
  exact ⟨vp_in_nI hkn (by decide), _, key l (C k) 0 0 h hi (by omega) (by omega) (by omega) hk⟩
/-! names: the same letters, coded in two ways; the forms' names -/
theorem encR_inj (q : Nat) : ∀ l l' : List Nat, (∀ x ∈ l, 1 ≤ x ∧ x < q) → (∀ x ∈ l', 1 ≤ x ∧ x < q) → l.foldr (fun x a => a * q + x) 0 = l'.foldr (fun x a => a * q + x) 0 → l = l'
  | [], [], _, _, _ => rfl
  | [], y :: l', _, h', e => by
    have := h' y List.mem_cons_self
    have e2 : 0 = l'.foldr (fun x a => a * q + x) 0 * q + y := e
    omega
  | x :: l, [], h, _, e => by
    have := h x List.mem_cons_self
    have e2 : l.foldr (fun x a => a * q + x) 0 * q + x = 0 := e
    omega
  | x :: l, y :: l', h, h', e => by
    have hx := h x List.mem_cons_self
    have hy := h' y List.mem_cons_self
    have e2 : l.foldr (fun x a => a * q + x) 0 * q + x = l'.foldr (fun x a => a * q + x) 0 * q + y := e
    have m1 : (l.foldr (fun x a => a * q + x) 0 * q + x) % q = x := by rw [Nat.mul_add_mod', Nat.mod_eq_of_lt hx.2]
    have m2 : (l'.foldr (fun x a => a * q + x) 0 * q + y) % q = y := by rw [Nat.mul_add_mod', Nat.mod_eq_of_lt hy.2]
    have exy : x = y := by rw [← m1, ← m2, e2]
    subst exy
    have e3 : l.foldr (fun x a => a * q + x) 0 * q = l'.foldr (fun x a => a * q + x) 0 * q := by omega
    have e4 := Nat.eq_of_mul_eq_mul_right (by omega) e3
    rw [encR_inj q l l' (fun z hz => h z (List.mem_cons_of_mem _ hz)) (fun z hz => h' z (List.mem_cons_of_mem _ hz)) e4]
theorem enc_inj {q : Nat} (hq : 26 < q) {l l' : List Nat} (h : isNm l) (h' : isNm l') (e : enc q l = enc q l') : l = l' := by
  have r : ∀ l : List Nat, enc q l = l.reverse.foldr (fun x a => a * q + x) 0 := fun l => by
    unfold enc
    rw [List.foldr_reverse]
  rw [r, r] at e
  have g : ∀ l : List Nat, isNm l → ∀ x ∈ l.reverse, 1 ≤ x ∧ x < q := fun l h x hx => by
    have := h.2.2 x (List.mem_reverse.mp hx)
    omega
  have := encR_inj q l.reverse l'.reverse (g l h) (g l' h') e
  have := congrArg List.reverse this
  rwa [List.reverse_reverse, List.reverse_reverse] at this
theorem enc_bound {q : Nat} (hq : 26 < q) (hq2 : q ≤ 32) {l : List Nat} (h : isNm l) : enc q l < 2 ^ 30 := by
  have h1 := enc_lt (q := q) (l := l) (fun x hx => by have := h.2.2 x hx; omega)
  have h2 : q ^ l.length ≤ 32 ^ 6 := Nat.le_trans (Nat.pow_le_pow_left hq2 _) (Nat.pow_le_pow_right (by decide) h.2.1)
  have h3 : (32 : Nat) ^ 6 = 2 ^ 30 := by decide
  omega
theorem nameR_eq {v w v' w' : Int32} (h : nameR v w) (h' : nameR v' w') : v = v' ↔ w = w' := by
  obtain ⟨l, h1, h2, h3⟩ := h
  obtain ⟨l', g1, g2, g3⟩ := h'
  have b1 := enc_bound (q := 32) (by decide) (by decide) h1
  have b2 := enc_bound (q := 32) (by decide) (by decide) g1
  have b3 := enc_bound (q := 27) (by decide) (by decide) h1
  have b4 := enc_bound (q := 27) (by decide) (by decide) g1
  constructor
  · intro e
    rw [h2, g2] at e
    have e := enc_inj (by decide) h1 g1 ((nI_eq (by omega) (by omega)).mp e)
    rw [h3, g3, e]
  · intro e
    rw [h3, g3] at e
    have e := enc_inj (by decide) h1 g1 ((nI_eq (by omega) (by omega)).mp e)
    rw [h2, g2, e]
def formL : List (List Nat) := [[3, 1, 18], [3, 4, 18], [1, 20, 15, 13], [3, 15, 14, 19], [5, 17], [12, 5, 17], [1, 4, 4], [19, 21, 2], [13, 21, 12], [4, 9, 22], [18, 5, 13], [17, 21, 15, 20, 5], [9, 6], [12, 1, 13, 2, 4, 1], [12, 5, 20], [12, 5, 20, 18, 5, 3]]
def fpi : List Nat := [1, 2, 3, 11, 9, 10, 4, 5, 6, 7, 8, 0, 12, 13, 14, 15]
def formC : List Int32 := (tst 71).2
set_option maxRecDepth 100000 in
theorem form_names : ∀ i, i < 16 → formC.getD i 0 = nI (enc 32 (formL.getD i [])) ∧ formM.getD (fpi.getD i 0) 0 = nI (enc 27 (formL.getD i [])) ∧ fpi.getD i 0 < 16 ∧ (formL.getD i []).length ≤ 6 ∧ (formL.getD i []) ≠ [] ∧ ∀ x ∈ formL.getD i [], 1 ≤ x ∧ x ≤ 26 := by decide +kernel
theorem form_both {i : Nat} (h : i < 16) : nameR (formC.getD i 0) (formM.getD (fpi.getD i 0) 0) := by
  obtain ⟨h1, h2, h3, h4, h5, h6⟩ := form_names i h
  exact ⟨_, ⟨h5, h4, h6⟩, h1, h2⟩
/-! which form a list begins with -/
theorem q_formOf_hit {fn K V : Nat → Int32} {j i : Nat} {post : Int32 → Prop} (hj : j < 200) (hK : K j = 1) (hi : i < 16) (hv : fn i = V j) (hn : ∀ k, k < i → fn k ≠ V j) (hk : post (nI i)) : wp_Translator_formOf fn K V (nI j) post := by
  have ej : (nI j).toNatClampNeg = j := nI_clamp (by omega)
  have vj : vp_in (nI j) 200 := vp_in_nI hj (by decide)
  have key : ∀ r k, k + r = i → wp_Translator_formOf_L16 fn K V post (r + 1) (nI j) (nI k) := by
    intro r
    induction r with
    | zero =>
      intro k e
      have : k = i := by omega
      subst this
      refine ⟨fun c => absurd c (nI_ge (a := k) (b := 16) hi (by decide)), fun _ => ⟨vp_in_nI hi (by decide), vj, ?_⟩⟩
      rw [ej, nI_clamp (n := k) (by omega)]
      exact ⟨fun _ => hk, fun c => absurd hv c⟩
    | succ r ih =>
      intro k e
      refine ⟨fun c => absurd c (nI_ge (a := k) (b := 16) (by omega) (by decide)), fun _ => ⟨vp_in_nI (by omega) (by decide), vj, ?_⟩⟩
      rw [ej, nI_clamp (n := k) (by omega), nI_1]
      exact ⟨fun c => absurd c (hn k (by omega)), fun _ => ih (k + 1) (by omega)⟩
  unfold wp_Translator_formOf wp_Datum_kindOf
  rw [ej]
  exact ⟨vj, fun _ => ⟨_, key i 0 (by omega)⟩, fun c => absurd hK c⟩
theorem q_formOf_miss {fn K V : Nat → Int32} {j : Nat} {post : Int32 → Prop} (hj : j < 200) (hn : K j = 1 → ∀ k, k < 16 → fn k ≠ V j) (hk : post (-1)) : wp_Translator_formOf fn K V (nI j) post := by
  have ej : (nI j).toNatClampNeg = j := nI_clamp (by omega)
  have vj : vp_in (nI j) 200 := vp_in_nI hj (by decide)
  have key : K j = 1 → ∀ r k, k + r = 16 → wp_Translator_formOf_L16 fn K V post (r + 1) (nI j) (nI k) := by
    intro hK r
    induction r with
    | zero =>
      intro k e
      have : k = 16 := by omega
      subst this
      exact ⟨fun _ => hk, fun c => absurd (by decide) c⟩
    | succ r ih =>
      intro k e
      refine ⟨fun c => absurd c (nI_ge (a := k) (b := 16) (by omega) (by decide)), fun _ => ⟨vp_in_nI (by omega) (by decide), vj, ?_⟩⟩
      rw [ej, nI_clamp (n := k) (by omega), nI_1]
      exact ⟨fun c => absurd c (hn hK k (by omega)), fun _ => ih (k + 1) (by omega)⟩
  unfold wp_Translator_formOf wp_Datum_kindOf
  rw [ej]
  exact ⟨vj, fun hK => ⟨_, key hK 16 0 (by omega)⟩, fun _ => hk⟩
theorem q_form_hit {C fo S W : Nat → Int32} {k c w : Nat} {post : Int32 → Prop} (hkn : k < 400) (hc : C k = nI c) (hcn : c < 400) (hS : S c = 1) (hw : w < 16) (hv : W c = fo w) (hn : ∀ x, x < w → W c ≠ fo x) (hk : post (nI w)) : wp_Model_form C fo S W (nI k) post := by
  have ec : (nI c).toNatClampNeg = c := nI_clamp (by omega)
  have vc : vp_in (nI c) 400 := vp_in_nI hcn (by decide)
  have key : ∀ r x, x + r = w → wp_Model_form_L9 C fo S W post (r + 1) (nI c) (nI x) := by
    intro r
    induction r with
    | zero =>
      intro x e
      have : x = w := by omega
      subst this
      refine ⟨fun z => absurd z (nI_ge (a := x) (b := 16) hw (by decide)), fun _ => ⟨vc, ?_⟩⟩
      rw [ec, nI_clamp (n := x) (by omega)]
      exact ⟨fun _ => ⟨vc, vp_in_nI hw (by decide), fun _ => hk, fun z => absurd hv z⟩, fun z => absurd hS z⟩
    | succ r ih =>
      intro x e
      refine ⟨fun z => absurd z (nI_ge (a := x) (b := 16) (by omega) (by decide)), fun _ => ⟨vc, ?_⟩⟩
      unfold wp_Model_form_J42
      rw [ec, nI_clamp (n := x) (by omega), nI_1]
      exact ⟨fun _ => ⟨vc, vp_in_nI (by omega) (by decide), fun z => absurd z (hn x (by omega)), fun _ => ih (x + 1) (by omega)⟩, fun z => absurd hS z⟩
  unfold wp_Model_form
  rw [nI_clamp (n := k) (by omega), hc]
  exact ⟨vp_in_nI hkn (by decide), _, key w 0 (by omega)⟩
theorem q_form_miss {C fo S W : Nat → Int32} {k c : Nat} {post : Int32 → Prop} (hkn : k < 400) (hc : C k = nI c) (hcn : c < 400) (hn : S c = 1 → ∀ x, x < 16 → W c ≠ fo x) (hk : post (-1)) : wp_Model_form C fo S W (nI k) post := by
  have ec : (nI c).toNatClampNeg = c := nI_clamp (by omega)
  have vc : vp_in (nI c) 400 := vp_in_nI hcn (by decide)
  have key : ∀ r x, x + r = 16 → wp_Model_form_L9 C fo S W post (r + 1) (nI c) (nI x) := by
    intro r
    induction r with
    | zero =>
      intro x e
      have : x = 16 := by omega
      subst this
      exact ⟨fun _ => hk, fun z => absurd (by decide) z⟩
    | succ r ih =>
      intro x e
      refine ⟨fun z => absurd z (nI_ge (a := x) (b := 16) (by omega) (by decide)), fun _ => ⟨vc, ?_⟩⟩
      unfold wp_Model_form_J42
      rw [ec, nI_clamp (n := x) (by omega), nI_1]
      exact ⟨fun hS => ⟨vc, vp_in_nI (by omega) (by decide), fun z => absurd z (hn hS x (by omega)), fun _ => ih (x + 1) (by omega)⟩, fun _ => ih (x + 1) (by omega)⟩
  unfold wp_Model_form
  rw [nI_clamp (n := k) (by omega), hc]
  exact ⟨vp_in_nI hkn (by decide), _, key 16 0 (by omega)⟩
set_option maxRecDepth 100000 in
theorem form_dist : (∀ i, i < 16 → ∀ k, k < i → formC.getD k 0 ≠ formC.getD i 0) ∧ (∀ i, i < 16 → ∀ k, k < i → formM.getD i 0 ≠ formM.getD k 0) ∧ ∀ w, w < 16 → ∃ i, i < 16 ∧ fpi.getD i 0 = w := by
  refine ⟨by decide +kernel, by decide +kernel, fun w hw => ?_⟩
  have h : ∀ w, w < 16 → fpi.getD (fpi.idxOf w) 0 = w ∧ fpi.idxOf w < 16 := by decide +kernel
  exact ⟨_, (h w hw).2, (h w hw).1⟩
/-- the form of a list whose first part is j: the same on both sides, or none on both -/
theorem form_rel {b m j k : Nat} {K V C S W fo : Nat → Int32} (hb : b ≤ 200) (hm : m ≤ 200) (hj : j < m) (hnd : ndV b m (K j) (V j) (S (b + j)) (W (b + j)) (C (b + j))) (hkn : k < 400) (hc : C k = nI (b + j)) (hfo : ∀ w, w < 16 → fo w = formM.getD w 0) :
    (∃ i, i < 16 ∧ K j = 1 ∧ V j = formC.getD i 0 ∧ (∀ post : Int32 → Prop, post (nI i) → wp_Translator_formOf (fun x => formC.getD x 0) K V (nI j) post) ∧ (∀ post : Int32 → Prop, post (nI (fpi.getD i 0)) → wp_Model_form C fo S W (nI k) post)) ∨
    ((∀ post : Int32 → Prop, post (-1) → wp_Translator_formOf (fun x => formC.getD x 0) K V (nI j) post) ∧ (∀ post : Int32 → Prop, post (-1) → wp_Model_form C fo S W (nI k) post)) := by
  obtain ⟨d1, d2, d3⟩ := form_dist
  rcases hnd with ⟨h1, h2, -⟩ | ⟨h1, h2, hn, -⟩ | ⟨h1, h2, -⟩
  · refine Or.inr ⟨fun post hk => q_formOf_miss (by omega) (fun c => absurd (h1.symm.trans c) (by decide)) hk, fun post hk => q_form_miss hkn hc (by omega) (fun c => absurd (h2.symm.trans c) (by decide)) hk⟩
  · by_cases hx : ∃ i, i < 16 ∧ V j = formC.getD i 0
    · obtain ⟨i, hi, e⟩ := hx
      obtain ⟨-, -, f3, -⟩ := form_names i hi
      have ew : W (b + j) = formM.getD (fpi.getD i 0) 0 := (nameR_eq hn (form_both hi)).mp e
      refine Or.inl ⟨i, hi, h1, e, fun post hk => q_formOf_hit (by omega) h1 hi e.symm (fun x hx => ?_) hk, fun post hk => q_form_hit hkn hc (by omega) h2 f3 (by rw [hfo _ f3]; exact ew) (fun x hx => ?_) hk⟩
      · rw [e]
        exact d1 i hi x hx
      · rw [hfo x (by omega), ew]
        exact d2 _ f3 x hx
    · refine Or.inr ⟨fun post hk => q_formOf_miss (by omega) (fun _ x hx2 e => hx ⟨x, hx2, e.symm⟩) hk, fun post hk => q_form_miss hkn hc (by omega) (fun _ w hw e => ?_) hk⟩
      obtain ⟨i, hi, ei⟩ := d3 w hw
      rw [hfo w hw, ← ei] at e
      exact hx ⟨i, hi, (nameR_eq hn (form_both hi)).mpr e⟩
  · refine Or.inr ⟨fun post hk => q_formOf_miss (by omega) (fun c => absurd (h1.symm.trans c) (by decide)) hk, fun post hk => q_form_miss hkn hc (by omega) (fun c => absurd (h2.symm.trans c) (by decide)) hk⟩
