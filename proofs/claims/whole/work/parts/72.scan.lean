/-! runs of letters and digits: where they end, what they are worth -/
def runs (p : Int32 → Prop) (t : Nat → Int32) (n a q : Nat) : Prop := a ≤ q ∧ q ≤ n ∧ (∀ k, a ≤ k → k < q → p (t k)) ∧ (q < n → ¬ p (t q))
theorem runs.all (p : Int32 → Prop) (t : Nat → Int32) {n a : Nat} (h : a ≤ n) : ∃ q, runs p t n a q := by
  have key : ∀ r a, a + r = n → ∃ q, runs p t n a q := by
    intro r
    induction r with
    | zero => intro a e; exact ⟨a, Nat.le_refl _, by omega, fun k h1 h2 => absurd h2 (by omega), fun h2 => absurd h2 (by omega)⟩
    | succ r ih =>
      intro a e
      by_cases hp : p (t a)
      · obtain ⟨q, h1, h2, h3, h4⟩ := ih (a + 1) (by omega)
        refine ⟨q, by omega, h2, fun k k1 k2 => ?_, h4⟩
        by_cases e2 : k = a
        · rw [e2]; exact hp
        · exact h3 k (by omega) k2
      · exact ⟨a, Nat.le_refl _, by omega, fun k h1 h2 => absurd h2 (by omega), fun _ => hp⟩
  exact key (n - a) a (by omega)
def nm5 (t : Nat → Int32) (a : Nat) : Nat → Int32
  | 0 => 0
  | m + 1 => (nm5 t a m <<< ((5 : Int32) &&& 31)) + ((t (a + m) - 97) + 1)
def nm27 (t : Nat → Int32) (a : Nat) : Nat → Int32
  | 0 => 0
  | m + 1 => ((27 * nm27 t a m) + t (a + m)) - 96
def num10 (t : Nat → Int32) (a : Nat) : Nat → Int32
  | 0 => 0
  | m + 1 => (10 * num10 t a m) + (t (a + m) - 48)
theorem q_readName_L6 {oc : Int32} {O t : Nat → Int32} {K39 : Int32 → Int32 → Int32 → Int32 → (Nat → Int32) → (Nat → Int32) → (Nat → Int32) → (Nat → Int32) → Prop} {post : Int32 → Int32 → (Nat → Int32) → (Nat → Int32) → (Nat → Int32) → (Nat → Int32) → Prop} {n a q : Nat} {cnt : Int32} {F K P V : Nat → Int32} (hn : n ≤ 200) (h : runs ltr t n a q) (hk : K39 (nI a) (nm5 t a (q - a)) (nI q) cnt F K P V) :
    ∀ r m, a + m + r = q → wp_Datum_readName_L6 oc O t K39 post (r + 1) (nI n) (nI a) (nm5 t a m) (nI (a + m)) cnt F K P V := by
  obtain ⟨h1, h2, h3, h4⟩ := h
  intro r
  induction r with
  | zero =>
    intro m e
    have em : m = q - a := by omega
    have ea : a + m = q := by omega
    rw [ea, em]
    unfold wp_Datum_readName_L6
    refine ⟨fun _ => hk, fun c => ?_⟩
    have hq : q < n := by
      rcases Nat.lt_or_ge q n with g | g
      · exact g
      · exact absurd (nI_le g (by omega)) c
    rw [nI_clamp (by omega)]
    refine ⟨vp_in_nI (by omega) (by decide), q_isLetter (fun l => absurd l (h4 hq)) (fun _ => ⟨fun _ => hk, fun c2 => absurd rfl c2⟩)⟩
  | succ r ih =>
    intro m e
    unfold wp_Datum_readName_L6
    have hq : a + m < n := by omega
    refine ⟨fun c => absurd c (nI_ge hq (by omega)), fun _ => ?_⟩
    rw [nI_clamp (n := a + m) (by omega)]
    refine ⟨vp_in_nI (by omega) (by decide), q_isLetter (fun l => ⟨fun c2 => absurd c2 (by decide), fun _ => ⟨vp_in_nI (by omega) (by decide), ?_⟩⟩) (fun l => absurd (h3 (a + m) (by omega) (by omega)) l)⟩
    have := ih (m + 1) (by omega)
    rw [show a + (m + 1) = a + m + 1 by omega, ← nI_1] at this
    exact this
theorem q_readNumber_L36 {oc : Int32} {O t : Nat → Int32} {K73 : Int32 → Int32 → Int32 → Int32 → Int32 → (Nat → Int32) → (Nat → Int32) → (Nat → Int32) → (Nat → Int32) → Prop} {post : Int32 → Int32 → (Nat → Int32) → (Nat → Int32) → (Nat → Int32) → (Nat → Int32) → Prop} {n a q : Nat} {ng cnt : Int32} {F K P V : Nat → Int32} (hn : n ≤ 200) (h : runs dig t n a q) (hk : K73 ng (nI a) (num10 t a (q - a)) (nI q) cnt F K P V) :
    ∀ r m, a + m + r = q → wp_Datum_readNumber_L36 oc O t K73 post (r + 1) (nI n) ng (nI a) (num10 t a m) (nI (a + m)) cnt F K P V := by
  obtain ⟨h1, h2, h3, h4⟩ := h
  intro r
  induction r with
  | zero =>
    intro m e
    have em : m = q - a := by omega
    have ea : a + m = q := by omega
    rw [ea, em]
    unfold wp_Datum_readNumber_L36
    refine ⟨fun _ => hk, fun c => ?_⟩
    have hq : q < n := by
      rcases Nat.lt_or_ge q n with g | g
      · exact g
      · exact absurd (nI_le g (by omega)) c
    rw [nI_clamp (by omega)]
    refine ⟨vp_in_nI (by omega) (by decide), q_isDigit (fun l => absurd l (h4 hq)) (fun _ => ⟨fun _ => hk, fun c2 => absurd rfl c2⟩)⟩
  | succ r ih =>
    intro m e
    unfold wp_Datum_readNumber_L36
    have hq : a + m < n := by omega
    refine ⟨fun c => absurd c (nI_ge hq (by omega)), fun _ => ?_⟩
    rw [nI_clamp (n := a + m) (by omega)]
    refine ⟨vp_in_nI (by omega) (by decide), q_isDigit (fun l => ⟨fun c2 => absurd c2 (by decide), fun _ => ⟨vp_in_nI (by omega) (by decide), fun y ey => ?_⟩⟩) (fun l => absurd (h3 (a + m) (by omega) (by omega)) l)⟩
    have := ih (m + 1) (by omega)
    rw [show a + (m + 1) = a + m + 1 by omega, ← nI_1] at this
    rw [ey]
    exact this
theorem q_end {t : Nat → Int32} {n a q : Nat} {post : Int32 → Prop} (hn : n ≤ 200) (h : runs ltr t n a q) (hk : post (nI q)) : wp_Model_end (nI n) t (nI a) 0 post := by
  obtain ⟨h1, h2, h3, h4⟩ := h
  have key : ∀ r a, a + r = q → (∀ k, a ≤ k → k < q → ltr (t k)) → wp_Model_end_L2 (nI n) t post (r + 1) 0 (nI a) := by
    intro r
    induction r with
    | zero =>
      intro a e h3
      have ea : a = q := by omega
      subst ea
      unfold wp_Model_end_L2
      refine ⟨fun _ => hk, fun c => ?_⟩
      have hq : a < n := by
        rcases Nat.lt_or_ge a n with g | g
        · exact g
        · exact absurd (nI_le g (by omega)) c
      rw [nI_clamp (by omega)]
      exact ⟨fun _ => ⟨vp_in_nI (by omega) (by decide), q_mletter (fun l => absurd l (h4 hq)) (fun _ => ⟨fun _ => hk, fun c2 => absurd rfl c2⟩)⟩, fun c2 => absurd rfl c2⟩
    | succ r ih =>
      intro a e h3
      unfold wp_Model_end_L2
      have hq : a < n := by omega
      refine ⟨fun c => absurd c (nI_ge hq (by omega)), fun _ => ⟨fun _ => ?_, fun c2 => absurd rfl c2⟩⟩
      rw [nI_clamp (n := a) (by omega)]
      refine ⟨vp_in_nI (by omega) (by decide), q_mletter (fun l => ⟨fun c2 => absurd c2 (by decide), fun _ => ?_⟩) (fun l => absurd (h3 a (by omega) (by omega)) l)⟩
      unfold wp_Model_end_J41
      rw [nI_1]
      exact ih (a + 1) (by omega) (fun k k1 k2 => h3 k (by omega) k2)
  exact ⟨_, key (q - a) a (by omega) h3⟩
theorem q_endD {t : Nat → Int32} {n a q : Nat} {post : Int32 → Prop} (hn : n ≤ 200) (h : runs dig t n a q) (hk : post (nI q)) : wp_Model_end (nI n) t (nI a) 1 post := by
  obtain ⟨h1, h2, h3, h4⟩ := h
  have key : ∀ r a, a + r = q → (∀ k, a ≤ k → k < q → dig (t k)) → wp_Model_end_L2 (nI n) t post (r + 1) 1 (nI a) := by
    intro r
    induction r with
    | zero =>
      intro a e h3
      have ea : a = q := by omega
      subst ea
      unfold wp_Model_end_L2
      refine ⟨fun _ => hk, fun c => ?_⟩
      have hq : a < n := by
        rcases Nat.lt_or_ge a n with g | g
        · exact g
        · exact absurd (nI_le g (by omega)) c
      rw [nI_clamp (by omega)]
      exact ⟨fun c2 => absurd c2 (by decide), fun _ => ⟨vp_in_nI (by omega) (by decide), q_mdigit (fun l => absurd l (h4 hq)) (fun _ => ⟨fun _ => hk, fun c2 => absurd rfl c2⟩)⟩⟩
    | succ r ih =>
      intro a e h3
      unfold wp_Model_end_L2
      have hq : a < n := by omega
      refine ⟨fun c => absurd c (nI_ge hq (by omega)), fun _ => ⟨fun c2 => absurd c2 (by decide), fun _ => ?_⟩⟩
      rw [nI_clamp (n := a) (by omega)]
      refine ⟨vp_in_nI (by omega) (by decide), q_mdigit (fun l => ⟨fun c2 => absurd c2 (by decide), fun _ => ?_⟩) (fun l => absurd (h3 a (by omega) (by omega)) l)⟩
      unfold wp_Model_end_J41
      rw [nI_1]
      exact ih (a + 1) (by omega) (fun k k1 k2 => h3 k (by omega) k2)
  exact ⟨_, key (q - a) a (by omega) h3⟩
/-- what a run is worth, on the reference's side: a name (0) or a number (1), with its sign -/
theorem q_worth {t : Nat → Int32} {a q : Nat} {post : Int32 → Prop} (hq : q ≤ 200) (haq : a ≤ q) (hk : post (nm27 t a (q - a))) : wp_Model_worth t (nI a) (nI q) 0 0 post := by
  have key : ∀ r m, a + m + r = q → wp_Model_worth_L6 t (fun v4 v5 => ((v4 = 0 → (post v5)) ∧ (¬ v4 = 0 → (post (-v5))))) post (r + 1) (nI q) 0 0 (nm27 t a m) (nI (a + m)) := by
    intro r
    induction r with
    | zero =>
      intro m e
      have em : m = q - a := by omega
      have ea : a + m = q := by omega
      rw [ea, em]
      unfold wp_Model_worth_L6
      exact ⟨fun _ => ⟨fun _ => hk, fun c => absurd rfl c⟩, fun c => absurd (Int32.le_refl _) c⟩
    | succ r ih =>
      intro m e
      unfold wp_Model_worth_L6
      refine ⟨fun c => absurd c (nI_ge (by omega) (by omega)), fun _ => ⟨fun _ => ⟨vp_in_nI (by omega) (by decide), ?_⟩, fun c => absurd rfl c⟩⟩
      unfold wp_Model_worth_J51
      rw [nI_clamp (n := a + m) (by omega)]
      have := ih (m + 1) (by omega)
      rw [show a + (m + 1) = a + m + 1 by omega, ← nI_1] at this
      exact this
  exact ⟨_, key (q - a) 0 (by omega)⟩
def num10m (t : Nat → Int32) (a : Nat) : Nat → Int32
  | 0 => 0
  | m + 1 => ((10 * num10m t a m) + t (a + m)) - 48
theorem num10_eq (t : Nat → Int32) (a : Nat) : ∀ m, num10m t a m = num10 t a m
  | 0 => rfl
  | m + 1 => by
    show ((10 * num10m t a m) + t (a + m)) - 48 = (10 * num10 t a m) + (t (a + m) - 48)
    rw [num10_eq t a m, Int32.sub_eq_add_neg, Int32.sub_eq_add_neg, Int32.add_assoc]
theorem q_worthD {t : Nat → Int32} {a q : Nat} {sg : Int32} {post : Int32 → Prop} (hq : q ≤ 200) (haq : a ≤ q) (hk : (sg = 0 → post (num10 t a (q - a))) ∧ (¬ sg = 0 → post (-(num10 t a (q - a))))) : wp_Model_worth t (nI a) (nI q) 1 sg post := by
  have key : ∀ r m, a + m + r = q → wp_Model_worth_L6 t (fun v4 v5 => ((v4 = 0 → (post v5)) ∧ (¬ v4 = 0 → (post (-v5))))) post (r + 1) (nI q) 1 sg (num10m t a m) (nI (a + m)) := by
    intro r
    induction r with
    | zero =>
      intro m e
      have em : m = q - a := by omega
      have ea : a + m = q := by omega
      rw [ea, em]
      unfold wp_Model_worth_L6
      refine ⟨fun _ => ?_, fun c => absurd (Int32.le_refl _) c⟩
      rw [num10_eq]
      exact hk
    | succ r ih =>
      intro m e
      unfold wp_Model_worth_L6
      refine ⟨fun c => absurd c (nI_ge (by omega) (by omega)), fun _ => ⟨fun c => absurd c (by decide), fun _ => ⟨vp_in_nI (by omega) (by decide), ?_⟩⟩⟩
      unfold wp_Model_worth_J51
      rw [nI_clamp (n := a + m) (by omega)]
      have := ih (m + 1) (by omega)
      rw [show a + (m + 1) = a + m + 1 by omega, ← nI_1] at this
      exact this
  exact ⟨_, key (q - a) 0 (by omega)⟩
theorem ltr_nat {x : Int32} (h : ltr x) : ∃ k : Nat, 1 ≤ k ∧ k ≤ 26 ∧ x = nI (96 + k) := by
  obtain ⟨j, hj, e⟩ := nI_of2 (x := x) (M := 122) (n := 122) (by decide) (fun z => h.1 (Int32.lt_trans z (by decide))) (Int32.not_lt.mp h.2)
  have h2 : 97 ≤ j := by
    rcases Nat.lt_or_ge j 97 with g | g
    · exact absurd (by rw [e]; exact nI_lt g (by decide)) h.1
    · exact g
  exact ⟨j - 96, by omega, by omega, by rw [e]; congr 1; omega⟩
theorem enc_snoc (q : Nat) (l : List Nat) (x : Nat) : enc q (l ++ [x]) = enc q l * q + x := by
  unfold enc
  rw [List.foldl_append]
  rfl
theorem enc_lt {q : Nat} {l : List Nat} (h : ∀ x ∈ l, x < q) : enc q l < q ^ l.length := by
  have key : ∀ (l : List Nat), (∀ x ∈ l, x < q) → ∀ a m, a < q ^ m → l.foldl (fun a x => a * q + x) a < q ^ (m + l.length) := by
    intro l
    induction l with
    | nil => intro _ a m h; exact h
    | cons y l ih =>
      intro hl a m ha
      have hy := hl y List.mem_cons_self
      have h1 := ih (fun x hx => hl x (List.mem_cons_of_mem _ hx)) (a * q + y) (m + 1) (by
        rw [Nat.pow_succ]
        have : (a + 1) * q ≤ q ^ m * q := Nat.mul_le_mul_right q ha
        rw [Nat.add_mul] at this
        omega)
      rw [List.length_cons, show m + (l.length + 1) = m + 1 + l.length by omega]
      exact h1
  have := key l h 0 0 (by simp)
  simpa [enc] using this
/-- a run of at most six letters is one name on both sides -/
theorem nm_both {t : Nat → Int32} {a : Nat} : ∀ m, m ≤ 6 → (∀ k, a ≤ k → k < a + m → ltr (t k)) → ∃ l : List Nat, l.length = m ∧ (∀ x ∈ l, 1 ≤ x ∧ x ≤ 26) ∧ nm5 t a m = nI (enc 32 l) ∧ nm27 t a m = nI (enc 27 l) := by
  intro m
  induction m with
  | zero => intro _ _; exact ⟨[], rfl, fun x hx => (List.not_mem_nil hx).elim, rfl, rfl⟩
  | succ m ih =>
    intro hm hl
    obtain ⟨l, h1, h2, h3, h4⟩ := ih (by omega) (fun k k1 k2 => hl k k1 (by omega))
    obtain ⟨x, x1, x2, x3⟩ := ltr_nat (hl (a + m) (by omega) (by omega))
    have b5 : enc 32 l < 2 ^ 25 := by
      have := enc_lt (q := 32) (l := l) (fun y hy => by have := h2 y hy; omega)
      have h6 : (32 : Nat) ^ l.length ≤ 32 ^ 5 := Nat.pow_le_pow_right (by decide) (by omega)
      omega
    refine ⟨l ++ [x], by rw [List.length_append, h1]; rfl, fun y hy => ?_, ?_, ?_⟩
    · rcases List.mem_append.mp hy with hy | hy
      · exact h2 y hy
      · rw [List.mem_singleton.mp hy]; exact ⟨x1, x2⟩
    · show (nm5 t a m <<< ((5 : Int32) &&& 31)) + ((t (a + m) - 97) + 1) = _
      rw [h3, x3, enc_snoc, pk_shlN (n := enc 32 l) ((5 : Int32) &&& 31) 5 (by decide) (by omega), show nI (96 + x) - 97 = nI (96 + x - 97) from pk_sub (a := 96 + x) (b := 97) (by omega), nI_1, nI_add]
      congr 1
      omega
    · show ((27 * nm27 t a m) + t (a + m)) - 96 = _
      rw [h4, x3, enc_snoc, show (27 : Int32) * nI (enc 27 l) = nI (27 * enc 27 l) from pk_mul 27 _, nI_add, show nI (27 * enc 27 l + (96 + x)) - 96 = nI (27 * enc 27 l + (96 + x) - 96) from pk_sub (a := 27 * enc 27 l + (96 + x)) (b := 96) (by omega)]
      congr 1
      omega
