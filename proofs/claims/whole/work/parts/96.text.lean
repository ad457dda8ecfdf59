/-! the builder: what it holds, and that it grows at most three times -/
def capOf (g : Nat) : Nat := [16, 34, 70, 142].getD g 0
theorem capOf_le {g : Nat} (h : g ≤ 3) : 16 ≤ capOf g ∧ capOf g ≤ 142 := by
  rcases (show g = 0 ∨ g = 1 ∨ g = 2 ∨ g = 3 by omega) with rfl | rfl | rfl | rfl <;> decide
def SBX (g : Nat) (T : List Nat) (val : Nat → Int32) : Prop := g ≤ 3 ∧ T.length ≤ capOf g ∧ (∀ i, i < T.length → val i = nI (T.getD i 0)) ∧ (∀ i, fits .byte (.int (val i)) = true)
theorem byte_c {k : Nat} (h : k < 128) : (nI k).toInt8.toInt32 = nI k := by
  have : ∀ k : Fin 128, (nI k.1).toInt8.toInt32 = nI k.1 := by decide
  exact this ⟨k, h⟩
theorem byte_n {k : Nat} (h : k < 128) : vp_nar .byte (nI k) = nI k := by rw [vp_nar_byte]; exact byte_c h
theorem fits_c {k : Nat} (h : k < 128) : fits .byte (.int (nI k)) = true := by rw [← byte_c h]; exact pk_fb _
theorem fits_u {val : Nat → Int32} (h : ∀ i, fits .byte (.int (val i)) = true) {k : Nat} {x : Int32} (hx : fits .byte (.int x) = true) : ∀ i, fits .byte (.int (upd val k x i)) = true := fun i => by
  by_cases e : i = k
  · rw [e, pk_us]; exact hx
  · rw [pk_un e]; exact h i
theorem sh0 {n : Nat} (h : n < 2 ^ 31) : nI n <<< ((0 : Int32) &&& 31) = nI n := by
  rw [pk_shlN (n := n) ((0 : Int32) &&& 31) 0 (by decide) (by omega), Nat.pow_zero, Nat.mul_one]
theorem sr0 {n : Nat} (h : n < 2 ^ 31) : nI n >>> ((0 : Int32) &&& 31) = nI n := by
  rw [pk_shrN h ((0 : Int32) &&& 31) 0 (by decide), Nat.pow_zero, Nat.div_one]
theorem nI_sle {a b : Nat} (ha : a < 2 ^ 30) (hb : b < 2 ^ 30) : nI a - nI b ≤ 0 ↔ a ≤ b := by
  rw [Int32.le_iff_toInt_le, pk_sub_toInt ha hb]
  show (a : Int) - b ≤ 0 ↔ _
  omega
/-- room for need characters -/
theorem q_ensure {g need : Nat} {val : Nat → Int32} (hg : g ≤ 3) (h1 : need ≤ capOf g + 11) (h2 : need ≤ 142) (hb : ∀ i, fits .byte (.int (val i)) = true) : ∃ (g' : Nat) (val' : Nat → Int32), g ≤ g' ∧ g' ≤ 3 ∧ need ≤ capOf g' ∧ (∀ i, i < capOf g → val' i = val i) ∧ (∀ i, fits .byte (.int (val' i)) = true) ∧
    ∀ (mc ms a : Nat) (post : Nat → Nat → (Nat → Int32) → Prop), g' - g ≤ mc → 200 * (g' - g) ≤ ms → (∀ a', post a' (capOf g') val') → wp_ASB_ensure mc ms 0 a (capOf g) val (nI need) post := by
  obtain ⟨c1, c2⟩ := capOf_le hg
  by_cases hn : need ≤ capOf g
  · refine ⟨g, val, Nat.le_refl _, hg, hn, fun _ _ => rfl, hb, fun mc ms a post b1 b2 hp => ?_⟩
    unfold wp_ASB_ensure
    rw [show Int32.ofNat (capOf g) = nI (capOf g) from rfl, sr0 (by omega)]
    exact ⟨fun _ => hp a, fun z => absurd ((nI_sle (by omega) (by omega)).mpr hn) z⟩
  · have g2 : g < 3 := by
      rcases (show g = 0 ∨ g = 1 ∨ g = 2 ∨ g = 3 by omega) with rfl | rfl | rfl | rfl
      · decide
      · decide
      · decide
      · exact absurd (show need ≤ capOf 3 from h2) hn
    have cg : capOf (g + 1) = 2 * capOf g + 2 := by
      rcases (show g = 0 ∨ g = 1 ∨ g = 2 by omega) with rfl | rfl | rfl <;> rfl
    obtain ⟨d1, d2⟩ := capOf_le (g := g + 1) (by omega)
    refine ⟨g + 1, va_cpy val (fun _ => 0) 0 0 (capOf g), by omega, by omega, by omega, fun i hi => ?_, fun i => ?_, fun mc ms a post b1 b2 hp => ?_⟩
    · rw [pk_cpy_in (by omega) (by omega), Nat.zero_add, Nat.sub_zero]
    · by_cases hi : i < capOf g
      · rw [pk_cpy_in (by omega) (by omega)]; exact hb _
      · rw [pk_cpy_out (by omega)]; exact fits_c (k := 0) (by decide)
    · unfold wp_ASB_ensure wp_ASB_newCapacity wp_ArrSup_newLength wp_Arrays_copyOf
      rw [show Int32.ofNat (capOf g) = nI (capOf g) from rfl, sr0 (by omega)]
      refine ⟨fun z => absurd ((nI_sle (by omega) (by omega)).mp z) hn, fun _ x4 hx4 => ?_⟩
      rw [sh0 (by omega), pk_sub (by omega)] at hx4
      have e2 : nI (capOf g) + ((2 : Int32) <<< ((0 : Int32) &&& 31)) = nI (capOf g + 2) := by
        rw [show (2 : Int32) <<< ((0 : Int32) &&& 31) = nI 2 from by decide, nI_add]
      rw [e2, hx4, if_pos (nI_lt (by omega) (by omega)), nI_add]
      have e3 : capOf g + (capOf g + 2) = capOf (g + 1) := by omega
      rw [e3]
      refine ⟨fun z => absurd z (nI_ge (b := capOf (g + 1)) (a := 0) (by omega) (by omega)), fun _ => ⟨fun z => absurd z (nI_nlt (a := 2147483639) (by omega) (by decide)), fun _ => ⟨fun z => absurd ((nI_eq (b := 2147483647) (by omega) (by decide)).mp z) (by omega), fun _ => ?_⟩⟩⟩
      rw [sr0 (by omega)]
      dsimp only
      rw [sh0 (by omega), nI_clamp (n := capOf (g + 1)) (by omega), if_neg (nI_nlt (by omega) (by omega)), nI_clamp (n := capOf g) (by omega)]
      have z0 : ¬ (0 : Int32) < 0 := by decide
      have c0 : (0 : Int32).toNatClampNeg = 0 := by decide
      rw [c0, Nat.zero_add]
      exact ⟨by omega, by omega, fun z => absurd ((nI_eq (by omega) (by omega)).mp z) (by omega), fun _ => ⟨nI_pos (by omega), by omega, z0, z0, nI_pos (by omega), by omega, by omega, fun i _ => hb _, fun ra => hp ra⟩⟩
/-- X is put behind what the builder holds -/
def APP (W : Nat → Nat → Int32 → Nat → Nat → (Nat → Int32) → (Int32 → Nat → Nat → (Nat → Int32) → Prop) → Prop) (X : List Nat) : Prop := ∀ (g : Nat) (T : List Nat) (val : Nat → Int32), SBX g T val → T.length + X.length ≤ 142 → ∃ (g' : Nat) (val' : Nat → Int32), SBX g' (T ++ X) val' ∧ g ≤ g' ∧ ∀ (mc ms a : Nat) (post : Int32 → Nat → Nat → (Nat → Int32) → Prop), g' - g ≤ mc → 200 * (g' - g) ≤ ms → (∀ a', post (nI (T ++ X).length) a' (capOf g') val') → W mc ms (nI T.length) a (capOf g) val post
theorem getD_snoc {T : List Nat} {x i : Nat} (h : i < T.length + 1) : (T ++ [x]).getD i 0 = if i = T.length then x else T.getD i 0 := by
  by_cases e : i = T.length
  · rw [if_pos e, e, List.getD_eq_getElem?_getD, List.getElem?_append_right (Nat.le_refl _), Nat.sub_self]
    rfl
  · rw [if_neg e]
    exact getD_app (by omega)
theorem app_c {c : Nat} (hc : c < 128) : APP (fun mc ms cnt a n val post => wp_SB_append_c mc ms 0 cnt a n val (nI c) post) [c] := fun g T val h hl => by
  obtain ⟨h1, h2, h3, h4⟩ := h
  have hl2 : T.length + 1 ≤ 142 := hl
  obtain ⟨g', val', e1, e2, e3, e4, e5, e6⟩ := q_ensure (need := T.length + 1) h1 (by omega) hl2 h4
  obtain ⟨c1, c2⟩ := capOf_le e2
  refine ⟨g', upd val' T.length (nI c), ⟨e2, by rw [List.length_append]; exact e3, fun i hi => ?_, fits_u e5 (fits_c hc)⟩, e1, fun mc ms a post b1 b2 hp => ?_⟩
  · rw [List.length_append] at hi
    rw [getD_snoc hi]
    by_cases e : i = T.length
    · rw [if_pos e, e, pk_us]
    · have : i < T.length := by have : [c].length = 1 := rfl; omega
      rw [if_neg e, pk_un e, e4 i (by omega), h3 i this]
  · refine ⟨g' - g, 200 * (g' - g), by omega, by omega, g' - g, 200 * (g' - g), by omega, by omega, ?_⟩
    rw [nI_1]
    refine e6 _ _ _ _ (Nat.le_refl _) (Nat.le_refl _) (fun a' => ⟨fun z => absurd z (by decide), fun _ => ⟨fun _ => ⟨fun z => absurd z (by decide), fun _ => ?_⟩, fun z => absurd rfl z⟩⟩)
    refine ⟨fun z => absurd z (nI_nlt (a := 255) (by omega) (by decide)), fun _ => ⟨fun z => absurd z (by decide), fun _ => ⟨vp_in_nI (by omega) (by omega), ?_⟩⟩⟩
    rw [byte_c hc, byte_n hc, nI_clamp (n := T.length) (by omega)]
    have := hp a'
    rw [List.length_append] at this
    exact this
theorem getD_app2 {T X : List Nat} {i : Nat} (h : T.length ≤ i) : (T ++ X).getD i 0 = X.getD (i - T.length) 0 := by
  rw [List.getD_eq_getElem?_getD, List.getElem?_append_right h, List.getD_eq_getElem?_getD]
theorem app_s {i : Nat} {X : List Nat} (hx : lenS.getD i 0 = X.length) (hb : ∀ j, j < X.length → (bytS.getD i []).getD j 0 = nI (X.getD j 0)) (hc : ∀ j, j < X.length → X.getD j 0 < 128) (h11 : X.length ≤ 11) : APP (fun mc ms cnt a n val post => wp_SB_append_s mc ms i 0 cnt a n val post) X := fun g T val h hl => by
  obtain ⟨h1, h2, h3, h4⟩ := h
  obtain ⟨g', val', e1, e2, e3, e4, e5, e6⟩ := q_ensure (need := T.length + X.length) h1 (by omega) hl h4
  obtain ⟨c1, c2⟩ := capOf_le e2
  refine ⟨g', va_cpy (fun j => (bytS.getD i []).getD j 0) val' 0 T.length X.length, ⟨e2, by rw [List.length_append]; exact e3, fun j hj => ?_, fun j => ?_⟩, e1, fun mc ms a post b1 b2 hp => ?_⟩
  · rw [List.length_append] at hj
    by_cases e : j < T.length
    · rw [pk_cpy_out (Or.inl e), e4 j (by omega), h3 j e, getD_app e]
    · rw [pk_cpy_in (by omega) (by omega), Nat.zero_add, hb _ (by omega), getD_app2 (by omega)]
  · by_cases e : T.length ≤ j ∧ j < T.length + X.length
    · rw [pk_cpy_in e.1 e.2, Nat.zero_add, hb _ (by omega)]
      exact fits_c (hc _ (by omega))
    · rw [pk_cpy_out (by omega)]
      exact e5 j
  · have el : Int32.ofNat (lenS.getD i 0) = nI X.length := by rw [hx]; rfl
    have co : ∀ P : Int32 → Prop, P 0 → wp_String_coder i P := fun P hP => ⟨fun z => absurd z (by decide), fun _ => hP⟩
    unfold wp_SB_append_s wp_ASB_append_s wp_String_length
    refine ⟨g' - g, 200 * (g' - g), by omega, by omega, co _ ⟨g' - g, 200 * (g' - g), by omega, by omega, ?_⟩⟩
    rw [el, sr0 (by omega), nI_add]
    refine e6 _ _ _ _ (Nat.le_refl _) (Nat.le_refl _) (fun a' => ⟨fun z => absurd z (by decide), fun _ => co _ ⟨fun _ => co _ ⟨fun _ => ?_, fun z => absurd rfl z⟩, fun z => absurd rfl z⟩⟩)
    have z0 : ¬ (0 : Int32) < 0 := by decide
    have c0 : (0 : Int32).toNatClampNeg = 0 := by decide
    rw [sh0 (by omega), el, nI_clamp (n := X.length) (by omega), nI_clamp (n := T.length) (by omega), c0]
    have := hp a'
    rw [List.length_append] at this
    exact ⟨z0, nI_pos (by omega), nI_pos (by omega), by omega, by omega, fun j hj => by rw [Nat.zero_add]; show fits .byte (.int ((bytS.getD i []).getD j 0)) = true; rw [hb j hj]; exact fits_c (hc j hj), this⟩
theorem app_fn : APP (fun mc ms cnt a n val post => wp_SB_append_s mc ms 1 0 cnt a n val post) [102, 110] := app_s rfl (by decide) (by decide) (by decide)
theorem app_dot : APP (fun mc ms cnt a n val post => wp_SB_append_s mc ms 2 0 cnt a n val post) [32, 46, 32] := app_s rfl (by decide) (by decide) (by decide)
/-! digits -/
def tp (b : Nat) : Nat → Nat → List Nat
  | n, 0 => [n % b]
  | n, k + 1 => tp b (n / b) k ++ [n % b]
theorem tp_len (b : Nat) : ∀ k n, (tp b n k).length = k + 1
  | 0, _ => rfl
  | k + 1, n => by
    show (tp b (n / b) k ++ [n % b]).length = _
    rw [List.length_append, tp_len b k]
    rfl
theorem tp_lt {b : Nat} (hb : 0 < b) : ∀ k n, ∀ x ∈ tp b n k, x < b
  | 0, n, x, h => by rw [List.mem_singleton.mp h]; exact Nat.mod_lt _ hb
  | k + 1, n, x, h => by
    rcases List.mem_append.mp h with z | z
    · exact tp_lt hb k _ x z
    · rw [List.mem_singleton.mp z]; exact Nat.mod_lt _ hb
/-- the first digit first -/
theorem tp_top (b : Nat) : ∀ k n, tp b n (k + 1) = (n / b ^ (k + 1) % b) :: tp b n k
  | 0, n => by
    show [n / b % b] ++ [n % b] = (n / b ^ 1 % b) :: [n % b]
    rw [Nat.pow_one]
    rfl
  | k + 1, n => by
    show tp b (n / b) (k + 1) ++ [n % b] = (n / b ^ (k + 2) % b) :: (tp b (n / b) k ++ [n % b])
    rw [tp_top b k (n / b), Nat.div_div_eq_div_mul, show b * b ^ (k + 1) = b ^ (k + 2) by rw [Nat.pow_succ b (k + 1), Nat.mul_comm]]
    rfl
def lgd (b : Nat) : Nat → Nat → Nat
  | 0, _ => 0
  | f + 1, n => if n < b then 0 else lgd b f (n / b) + 1
theorem lgd_spec {b : Nat} (hb : 0 < b) : ∀ f n, n < b ^ (f + 1) → lgd b f n ≤ f ∧ n < b ^ (lgd b f n + 1) ∧ (lgd b f n = 0 ∨ b ^ lgd b f n ≤ n)
  | 0, n, h => ⟨Nat.le_refl _, h, Or.inl rfl⟩
  | f + 1, n, h => by
    unfold lgd
    by_cases c : n < b
    · rw [if_pos c]; exact ⟨Nat.zero_le _, by rw [Nat.zero_add, Nat.pow_one]; exact c, Or.inl rfl⟩
    · rw [if_neg c]
      obtain ⟨i1, i2, i3⟩ := lgd_spec hb f (n / b) (by rw [Nat.div_lt_iff_lt_mul hb, ← Nat.pow_succ]; exact h)
      refine ⟨by omega, ?_, Or.inr ?_⟩
      · rw [Nat.pow_succ, ← Nat.div_lt_iff_lt_mul hb]; exact i2
      · rw [Nat.pow_succ, ← Nat.le_div_iff_mul_le hb]
        rcases i3 with z | z
        · rw [z, Nat.pow_zero, Nat.le_div_iff_mul_le hb]; omega
        · exact z
/-- the decimal text of a number -/
def decT (n : Nat) : List Nat := (tp 10 n (lgd 10 9 n)).map (fun d => 48 + d)
def gcK (n_p2 : Nat) (post : Int32 → (Nat → Int32) → Prop) : Int32 → Int32 → Int32 → (Nat → Int32) → Prop := fun v0 v5 v6 f_p2 => vp_in (-v0) 100 ∧ (vp_in (v5 + (-1 : Int32)) n_p2 ∧ ((((-9 : Int32) ≤ v0 → (((v6 = 0 → (post (v5 + (-1 : Int32)) (upd f_p2 (v5 + (-1 : Int32)).toNatClampNeg (vp_nar .byte (dgO.getD (-v0).toNatClampNeg 0))))) ∧ (¬ v6 = 0 → (vp_in ((v5 + (-1 : Int32)) + (-1 : Int32)) n_p2 ∧ (post ((v5 + (-1 : Int32)) + (-1 : Int32)) (upd (upd f_p2 (v5 + (-1 : Int32)).toNatClampNeg (vp_nar .byte (dgO.getD (-v0).toNatClampNeg 0))) ((v5 + (-1 : Int32)) + (-1 : Int32)).toNatClampNeg (vp_nar .byte (45 : Int32))))))))) ∧ (¬ (-9 : Int32) ≤ v0 → (vp_in (-v0) 100 ∧ (vp_in ((v5 + (-1 : Int32)) + (-1 : Int32)) n_p2 ∧ (((v6 = 0 → (post ((v5 + (-1 : Int32)) + (-1 : Int32)) (upd (upd f_p2 (v5 + (-1 : Int32)).toNatClampNeg (vp_nar .byte (dgO.getD (-v0).toNatClampNeg 0))) ((v5 + (-1 : Int32)) + (-1 : Int32)).toNatClampNeg (vp_nar .byte (dgT.getD (-v0).toNatClampNeg 0))))) ∧ (¬ v6 = 0 → (vp_in (((v5 + (-1 : Int32)) + (-1 : Int32)) + (-1 : Int32)) n_p2 ∧ (post (((v5 + (-1 : Int32)) + (-1 : Int32)) + (-1 : Int32)) (upd (upd (upd f_p2 (v5 + (-1 : Int32)).toNatClampNeg (vp_nar .byte (dgO.getD (-v0).toNatClampNeg 0))) ((v5 + (-1 : Int32)) + (-1 : Int32)).toNatClampNeg (vp_nar .byte (dgT.getD (-v0).toNatClampNeg 0))) (((v5 + (-1 : Int32)) + (-1 : Int32)) + (-1 : Int32)).toNatClampNeg (vp_nar .byte (45 : Int32))))))))))))))
theorem pow10_le {a b : Nat} (h : a ≤ b) : 10 ^ a ≤ 10 ^ b := Nat.pow_le_pow_right (by decide) h
theorem size_loop {v0 d : Int32} {N k : Nat} {post : Int32 → Prop} (h0 : v0.toInt = -(N : Int)) (hk : k ≤ 9) (h1 : N < 10 ^ (k + 1)) (h2 : k = 0 ∨ 10 ^ k ≤ N) (hp : post (nI (k + 1) + d)) : ∀ (r j : Nat) (v2 : Int32), j + r = k + 1 → 1 ≤ j → (j ≤ 9 → v2.toInt = -((10 ^ j : Nat) : Int)) → wp_Integer_stringSize_L16 post (r + 1) v0 d v2 (nI j) := by
  intro r
  induction r with
  | zero =>
    intro j v2 e hj hv
    have ej : j = k + 1 := e
    subst ej
    refine ⟨fun z => ?_, fun z => ?_⟩
    · have : 10 ≤ k + 1 := (nI_leI (a := 10) (by decide) (by omega)).mp z
      rw [show k + 1 = 10 by omega] at hp
      exact hp
    · have hk9 : k + 1 ≤ 9 := by
        rcases Nat.lt_or_ge k 9 with y | y
        · omega
        · exact absurd (nI_le (a := 10) (by omega) (by omega)) z
      refine ⟨fun z => ?_, fun _ => hp⟩
      rw [Int32.le_iff_toInt_le, h0, hv hk9] at z
      omega
  | succ r ih =>
    intro j v2 e hj hv
    have hjk : j ≤ k := by omega
    have pj := pow10_le hjk
    have hN : 10 ^ j ≤ N := by
      rcases h2 with z | z
      · omega
      · omega
    refine ⟨fun z => ?_, fun _ => ⟨fun _ => ?_, fun z => ?_⟩⟩
    · have : 10 ≤ j := (nI_leI (a := 10) (by decide) (by omega)).mp z
      omega
    · rw [nI_1]
      refine ih (j + 1) _ (by omega) (by omega) (fun h9 => ?_)
      rw [Int32.toInt_mul, hv (by omega)]
      have p9 := pow10_le h9
      have e9 : (10 : Nat) ^ 9 = 1000000000 := by decide
      have es : 10 ^ (j + 1) = 10 ^ j * 10 := Nat.pow_succ ..
      have e10 : (10 : Int32).toInt = 10 := by decide
      rw [e10]
      rw [show (10 : Int) * -((10 ^ j : Nat) : Int) = -((10 ^ (j + 1) : Nat) : Int) by rw [es]; omega]
      exact Int.bmod_eq_of_le (by omega) (by omega)
    · exact absurd (by rw [Int32.le_iff_toInt_le, h0, hv (by omega)]; omega) z
theorem dg_tab : ∀ r, r < 100 → dgO.getD r 0 = nI (48 + r % 10) ∧ dgT.getD r 0 = nI (48 + r / 10) := by decide
theorem neg_of {v0 : Int32} {m : Nat} (h0 : v0.toInt = -(m : Int)) (hm : m < 2 ^ 31) : -v0 = nI m := by
  apply Int32.toInt_inj.mp
  rw [Int32.toInt_neg, h0, nI_toInt hm, Int.neg_neg]
  exact Int.bmod_eq_of_le (by omega) (by omega)
def GCR (f f' : Nat → Int32) (m k q sg : Nat) : Prop := (∀ i, q + k + 1 ≤ i → f' i = f i) ∧ (∀ i, i < k + 1 → f' (q + i) = nI (48 + (tp 10 m k).getD i 0)) ∧ (sg = 1 → f' (q - 1) = nI 45) ∧ (∀ i, i + sg < q → f' i = f i) ∧ ∀ i, fits .byte (.int (f' i)) = true
theorem mod_l : ∀ a : Nat, a % 10 < 10 := fun a => Nat.mod_lt _ (by decide)
theorem gc_loop {n sg : Nat} (hn : n ≤ 200) (hsg : sg ≤ 1) : ∀ (k m q : Nat) (v0 : Int32) (f : Nat → Int32), v0.toInt = -(m : Int) → m ≤ 2 ^ 31 → m < 10 ^ (k + 1) → (k = 0 ∨ 10 ^ k ≤ m) → sg ≤ q → q + k + 1 ≤ n → (∀ i, fits .byte (.int (f i)) = true) → ∃ f' : Nat → Int32, GCR f f' m k q sg ∧ ∀ post : Int32 → (Nat → Int32) → Prop, (∀ r, post r f') → ∃ fu, wp_Integer_getChars_L22 n (gcK n post) post fu v0 (nI (q + k + 1)) (nI sg) f
  | 0, m, q, v0, f, h0, hm, h1, h2, hq, hqn, hf => by
    have m10 : m < 10 := h1
    have ev := neg_of h0 (by omega)
    obtain ⟨t1, t2⟩ := dg_tab m (by omega)
    have ml := mod_l m
    have em : (tp 10 m 0).getD 0 0 = m % 10 := rfl
    have hd : 48 + m % 10 < 128 := by omega
    have lt : (-100 : Int32) < v0 := by rw [Int32.lt_iff_toInt_lt, h0]; show (-100 : Int) < _; omega
    have le : (-9 : Int32) ≤ v0 := by rw [Int32.le_iff_toInt_le, h0]; show (-9 : Int) ≤ _; omega
    rcases (show sg = 0 ∨ sg = 1 by omega) with rfl | rfl
    · refine ⟨upd f q (nI (48 + m % 10)), ⟨fun i hi => pk_un (by omega), fun i hi => ?_, fun z => absurd z (by decide), fun i hi => pk_un (by omega), fits_u hf (fits_c hd)⟩, fun post hp => ⟨1, fun _ => ?_, fun z => absurd lt z⟩⟩
      · rw [show i = 0 by omega, Nat.add_zero, pk_us, em]
      · unfold gcK
        rw [ev, pk_m1, nI_clamp (n := m) (by omega), nI_clamp (n := q) (by omega), t1, byte_n hd]
        exact ⟨vp_in_nI (by omega) (by decide), vp_in_nI (by omega) (by omega), fun _ => ⟨fun _ => hp _, fun z => absurd rfl z⟩, fun z => absurd le z⟩
    · obtain ⟨q0, rfl⟩ : ∃ q0, q = q0 + 1 := ⟨q - 1, by omega⟩
      refine ⟨upd (upd f (q0 + 1) (nI (48 + m % 10))) q0 (nI 45), ⟨fun i hi => by rw [pk_un (by omega), pk_un (by omega)], fun i hi => ?_, fun _ => pk_us, fun i hi => by rw [pk_un (by omega), pk_un (by omega)], fits_u (fits_u hf (fits_c hd)) (fits_c (by decide))⟩, fun post hp => ⟨1, fun _ => ?_, fun z => absurd lt z⟩⟩
      · rw [show i = 0 by omega, Nat.add_zero, pk_un (by omega), pk_us, em]
      · unfold gcK
        rw [ev, pk_m1, pk_m1, nI_clamp (n := m) (by omega), nI_clamp (n := q0 + 1) (by omega), nI_clamp (n := q0) (by omega), t1, byte_n hd]
        exact ⟨vp_in_nI (by omega) (by decide), vp_in_nI (by omega) (by omega), fun _ => ⟨fun z => absurd z (by decide), fun _ => ⟨vp_in_nI (by omega) (by omega), hp _⟩⟩, fun z => absurd le z⟩
  | 1, m, q, v0, f, h0, hm, h1, h2, hq, hqn, hf => by
    have m100 : m < 100 := h1
    have m10 : 10 ≤ m := by
      rcases h2 with z | z
      · exact absurd z (by decide)
      · exact z
    have ev := neg_of h0 (by omega)
    obtain ⟨t1, t2⟩ := dg_tab m (by omega)
    have ml := mod_l m
    have e0 : (tp 10 m 1).getD 0 0 = m / 10 % 10 := rfl
    have e1 : (tp 10 m 1).getD 1 0 = m % 10 := rfl
    have ed : m / 10 % 10 = m / 10 := by omega
    have hd : 48 + m % 10 < 128 := by omega
    have hd2 : 48 + m / 10 < 128 := by omega
    have lt : (-100 : Int32) < v0 := by rw [Int32.lt_iff_toInt_lt, h0]; show (-100 : Int) < _; omega
    have le : ¬ (-9 : Int32) ≤ v0 := by rw [Int32.le_iff_toInt_le, h0]; show ¬ (-9 : Int) ≤ _; omega
    rcases (show sg = 0 ∨ sg = 1 by omega) with rfl | rfl
    · refine ⟨upd (upd f (q + 1) (nI (48 + m % 10))) q (nI (48 + m / 10)), ⟨fun i hi => by rw [pk_un (by omega), pk_un (by omega)], fun i hi => ?_, fun z => absurd z (by decide), fun i hi => by rw [pk_un (by omega), pk_un (by omega)], fits_u (fits_u hf (fits_c hd)) (fits_c hd2)⟩, fun post hp => ⟨1, fun _ => ?_, fun z => absurd lt z⟩⟩
      · rcases (show i = 0 ∨ i = 1 by omega) with rfl | rfl
        · rw [show q + 0 = q from rfl, pk_us, e0, ed]
        · rw [pk_un (by omega), pk_us, e1]
      · unfold gcK
        rw [ev, pk_m1, pk_m1, nI_clamp (n := m) (by omega), nI_clamp (n := q + 1) (by omega), nI_clamp (n := q) (by omega), t1, t2, byte_n hd, byte_n hd2]
        exact ⟨vp_in_nI (by omega) (by decide), vp_in_nI (by omega) (by omega), fun z => absurd z le, fun _ => ⟨vp_in_nI (by omega) (by decide), vp_in_nI (by omega) (by omega), fun _ => hp _, fun z => absurd rfl z⟩⟩
    · obtain ⟨q0, rfl⟩ : ∃ q0, q = q0 + 1 := ⟨q - 1, by omega⟩
      refine ⟨upd (upd (upd f (q0 + 1 + 1) (nI (48 + m % 10))) (q0 + 1) (nI (48 + m / 10))) q0 (nI 45), ⟨fun i hi => by rw [pk_un (by omega), pk_un (by omega), pk_un (by omega)], fun i hi => ?_, fun _ => pk_us, fun i hi => by rw [pk_un (by omega), pk_un (by omega), pk_un (by omega)], fits_u (fits_u (fits_u hf (fits_c hd)) (fits_c hd2)) (fits_c (by decide))⟩, fun post hp => ⟨1, fun _ => ?_, fun z => absurd lt z⟩⟩
      · rcases (show i = 0 ∨ i = 1 by omega) with rfl | rfl
        · rw [show q0 + 1 + 0 = q0 + 1 from rfl, pk_un (by omega), pk_us, e0, ed]
        · rw [pk_un (by omega), pk_un (by omega), pk_us, e1]
      · unfold gcK
        rw [ev, pk_m1, pk_m1, pk_m1, nI_clamp (n := m) (by omega), nI_clamp (n := q0 + 1 + 1) (by omega), nI_clamp (n := q0 + 1) (by omega), nI_clamp (n := q0) (by omega), t1, t2, byte_n hd, byte_n hd2]
        exact ⟨vp_in_nI (by omega) (by decide), vp_in_nI (by omega) (by omega), fun z => absurd z le, fun _ => ⟨vp_in_nI (by omega) (by decide), vp_in_nI (by omega) (by omega), fun z => absurd z (by decide), fun _ => ⟨vp_in_nI (by omega) (by omega), hp _⟩⟩⟩
  | k + 2, m, q, v0, f, h0, hm, h1, h2, hq, hqn, hf => by
    have m100 : 10 ^ (k + 2) ≤ m := by
      rcases h2 with z | z
      · omega
      · exact z
    have e100 : 10 ^ (k + 2) = 10 ^ k * 100 := by rw [Nat.pow_add]
    have e1000 : 10 ^ (k + 2 + 1) = 10 ^ (k + 1) * 100 := by rw [show k + 2 + 1 = k + 1 + 2 by omega, Nat.pow_add]
    have pk1 : 1 ≤ 10 ^ k := Nat.one_le_pow _ _ (by decide)
    have hq0 : (v0 / 100).toInt = -((m / 100 : Nat) : Int) := by
      rw [Int32.toInt_div_of_ne_right _ _ (by decide), h0, show (100 : Int32).toInt = 100 from by decide, Int.neg_tdiv]
      rfl
    have hr : (v0 / 100) * 100 - v0 = nI (m % 100) := by
      apply Int32.toInt_inj.mp
      rw [Int32.toInt_sub, Int32.toInt_mul, hq0, h0, show (100 : Int32).toInt = 100 from by decide, nI_toInt (by omega)]
      rw [show (-((m / 100 : Nat) : Int) * 100).bmod (2 ^ 32) = -((m / 100 : Nat) : Int) * 100 from Int.bmod_eq_of_le (by omega) (by omega)]
      rw [show -((m / 100 : Nat) : Int) * 100 - -(m : Int) = ((m % 100 : Nat) : Int) by omega]
      exact Int.bmod_eq_of_le (by omega) (by omega)
    have r100 : m % 100 < 100 := Nat.mod_lt _ (by decide)
    obtain ⟨t1, t2⟩ := dg_tab (m % 100) r100
    have ea : m % 100 % 10 = m % 10 := by omega
    have eb : m % 100 / 10 = m / 10 % 10 := by omega
    rw [ea] at t1
    rw [eb] at t2
    have ml := mod_l m
    have ml2 := mod_l (m / 10)
    have hd : 48 + m % 10 < 128 := by omega
    have hd2 : 48 + m / 10 % 10 < 128 := by omega
    obtain ⟨f', ⟨i1, i2, i3, i4, i5⟩, i6⟩ := gc_loop hn hsg k (m / 100) q (v0 / 100) (upd (upd f (q + k + 2) (nI (48 + m % 10))) (q + k + 1) (nI (48 + m / 10 % 10))) hq0 (by omega) (by omega) (by
      rcases Nat.eq_zero_or_pos k with z | z
      · exact Or.inl z
      · exact Or.inr (by omega)) hq (by omega) (fits_u (fits_u hf (fits_c hd)) (fits_c hd2))
    refine ⟨f', ⟨fun i hi => by rw [i1 i (by omega), pk_un (by omega), pk_un (by omega)], fun i hi => ?_, i3, fun i hi => by rw [i4 i hi, pk_un (by omega), pk_un (by omega)], i5⟩, fun post hp => ?_⟩
    · have et : tp 10 m (k + 2) = (tp 10 (m / 100) k ++ [m / 10 % 10]) ++ [m % 10] := by
        show (tp 10 (m / 10 / 10) k ++ [m / 10 % 10]) ++ [m % 10] = _
        rw [Nat.div_div_eq_div_mul]
      have l1 := tp_len 10 k (m / 100)
      have l2 : (tp 10 (m / 100) k ++ [m / 10 % 10]).length = k + 2 := by rw [List.length_append, l1]; rfl
      rw [et, getD_snoc (by omega), l2]
      by_cases c1 : i = k + 2
      · rw [if_pos c1, c1, i1 _ (by omega), pk_un (by omega), show q + (k + 2) = q + k + 2 by omega, pk_us]
      · rw [if_neg c1, getD_snoc (by omega), l1]
        by_cases c2 : i = k + 1
        · rw [if_pos c2, c2, i1 _ (by omega), show q + (k + 1) = q + k + 1 by omega, pk_us]
        · rw [if_neg c2]
          exact i2 i (by omega)
    · obtain ⟨fu, hfu⟩ := i6 post hp
      refine ⟨fu + 1, fun z => ?_, fun _ => ?_⟩
      · rw [Int32.lt_iff_toInt_lt, h0] at z
        have z2 : (-100 : Int) < -(m : Int) := z
        omega
      · rw [hr, show nI (q + (k + 2) + 1) + (-1) = nI (q + k + 2) from by rw [show q + (k + 2) + 1 = (q + k + 2) + 1 by omega, pk_m1], show nI (q + k + 2) + (-1) = nI (q + k + 1) from pk_m1 _, nI_clamp (n := m % 100) (by omega), nI_clamp (n := q + k + 2) (by omega), nI_clamp (n := q + k + 1) (by omega), t1, t2, byte_n hd, byte_n hd2]
        exact ⟨by decide, vp_in_nI r100 (by decide), vp_in_nI (by omega) (by omega), vp_in_nI r100 (by decide), vp_in_nI (by omega) (by omega), hfu⟩
/-- the text of an int -/
def numT (v : Int32) : List Nat := if v < 0 then 45 :: decT v.toInt.natAbs else decT v.toInt.natAbs
theorem getD_map48 {l : List Nat} {h : Nat → Nat} {j : Nat} (hj : j < l.length) : (l.map h).getD j 0 = h (l.getD j 0) := by
  rw [List.getD_eq_getElem?_getD, List.getD_eq_getElem?_getD, List.getElem?_map, List.getElem?_eq_getElem hj]
  rfl
theorem dec_facts {N : Nat} (h : N < 10 ^ 10) : (decT N).length = lgd 10 9 N + 1 ∧ lgd 10 9 N ≤ 9 ∧ N < 10 ^ (lgd 10 9 N + 1) ∧ (lgd 10 9 N = 0 ∨ 10 ^ lgd 10 9 N ≤ N) ∧ (∀ j, j < lgd 10 9 N + 1 → (decT N).getD j 0 = 48 + (tp 10 N (lgd 10 9 N)).getD j 0) ∧ ∀ x ∈ decT N, x < 128 := by
  obtain ⟨s1, s2, s3⟩ := lgd_spec (b := 10) (by decide) 9 N h
  have l := tp_len 10 (lgd 10 9 N) N
  refine ⟨by unfold decT; rw [List.length_map, l], s1, s2, s3, fun j hj => getD_map48 (by omega), fun x hx => ?_⟩
  obtain ⟨d, d1, d2⟩ := List.mem_map.mp hx
  have := tp_lt (b := 10) (by decide) _ _ d d1
  omega
theorem app_i (v : Int32) : (numT v).length ≤ 11 ∧ 1 ≤ (numT v).length ∧ (∀ x ∈ numT v, x < 128) ∧ APP (fun mc ms cnt a n val post => wp_SB_append_i mc ms 0 cnt a n val v post) (numT v) := by
  have hv1 := Int32.toInt_lt v
  have hv2 := Int32.le_toInt v
  have e10 : (10 : Nat) ^ 10 = 10000000000 := by decide
  have hN : v.toInt.natAbs ≤ 2 ^ 31 := by omega
  obtain ⟨s1, s2, s3, s4, s5, s6⟩ := dec_facts (N := v.toInt.natAbs) (by omega)
  have lat : ∀ P : Int32 → Prop, P 1 → wp_ASB_isLatin1 0 P := fun P hP => ⟨fun z => absurd z (by decide), fun _ => ⟨fun _ => hP, fun z => absurd rfl z⟩⟩
  by_cases hv : v < 0
  · have en : numT v = 45 :: decT v.toInt.natAbs := if_pos hv
    have ln : (numT v).length = lgd 10 9 v.toInt.natAbs + 2 := by rw [en, List.length_cons, s1]
    have hneg : v.toInt < 0 := Int32.lt_iff_toInt_lt.mp hv
    have h0 : v.toInt = -(v.toInt.natAbs : Int) := by omega
    refine ⟨by omega, by omega, fun x hx => ?_, fun g T val h hl => ?_⟩
    · rw [en] at hx
      rcases List.mem_cons.mp hx with z | z
      · omega
      · exact s6 x z
    obtain ⟨h1, h2, h3, h4⟩ := h
    rw [ln] at hl
    obtain ⟨g', val', e1, e2, e3, e4, e5, e6⟩ := q_ensure (need := T.length + (lgd 10 9 v.toInt.natAbs + 2)) h1 (by omega) hl h4
    obtain ⟨c1, c2⟩ := capOf_le e2
    obtain ⟨f', ⟨r1, r2, r3, r4, r5⟩, r6⟩ := gc_loop (n := capOf g') (sg := 1) (by omega) (by omega) (lgd 10 9 v.toInt.natAbs) v.toInt.natAbs (T.length + 1) v val' h0 hN s3 s4 (by omega) (by omega) e5
    refine ⟨g', f', ⟨e2, by rw [List.length_append, ln]; exact e3, fun i hi => ?_, r5⟩, e1, fun mc ms a post b1 b2 hp => ?_⟩
    · rw [List.length_append, ln] at hi
      by_cases c : i < T.length
      · rw [r4 i (by omega), e4 i (by omega), h3 i c, getD_app c]
      · rw [getD_app2 (by omega), en]
        by_cases c2 : i = T.length
        · rw [c2, Nat.sub_self]
          exact r3 rfl
        · obtain ⟨j, rfl⟩ : ∃ j, i = T.length + 1 + j := ⟨i - (T.length + 1), by omega⟩
          rw [r2 j (by omega), show T.length + 1 + j - T.length = j + 1 by omega]
          show _ = nI ((decT v.toInt.natAbs).getD j 0)
          rw [s5 j (by omega)]
    · have fin := hp
      rw [List.length_append, ln] at fin
      refine ⟨g' - g, 200 * (g' - g), by omega, by omega, ?_⟩
      refine ⟨fun _ => ⟨_, size_loop h0 s2 s3 s4 ?_ (lgd 10 9 v.toInt.natAbs) 1 _ (by omega) (by omega) (fun _ => by decide)⟩, fun z => absurd hv z⟩
      refine ⟨g' - g, 200 * (g' - g), by omega, by omega, ?_⟩
      rw [nI_1, nI_add]
      refine e6 _ _ _ _ (Nat.le_refl _) (Nat.le_refl _) (fun a' => lat _ ⟨fun z => absurd z (by decide), fun _ => ?_⟩)
      have ez : ¬ 0 ≤ v := fun z => absurd (Int32.lt_of_le_of_lt z hv) (by decide)
      refine ⟨fun z => absurd z ez, fun _ => ⟨fun z => absurd z (by decide), fun _ => ?_⟩⟩
      rw [show T.length + (lgd 10 9 v.toInt.natAbs + 1 + 1) = T.length + 1 + lgd 10 9 v.toInt.natAbs + 1 by omega]
      refine r6 (fun _ w => post (nI (T.length + 1 + lgd 10 9 v.toInt.natAbs + 1)) a' (capOf g') w) (fun r => ?_)
      rw [show T.length + 1 + lgd 10 9 v.toInt.natAbs + 1 = T.length + (lgd 10 9 v.toInt.natAbs + 2) by omega]
      exact fin a'
  · have en : numT v = decT v.toInt.natAbs := if_neg hv
    have ln : (numT v).length = lgd 10 9 v.toInt.natAbs + 1 := by rw [en, s1]
    have hpos : 0 ≤ v.toInt := by
      rw [Int32.lt_iff_toInt_lt] at hv
      exact Int.not_lt.mp hv
    have h0 : (-v).toInt = -(v.toInt.natAbs : Int) := by
      rw [Int32.toInt_neg, Int.bmod_eq_of_le (by omega) (by omega)]
      omega
    refine ⟨by omega, by omega, fun x hx => ?_, fun g T val h hl => ?_⟩
    · rw [en] at hx
      exact s6 x hx
    obtain ⟨h1, h2, h3, h4⟩ := h
    rw [ln] at hl
    obtain ⟨g', val', e1, e2, e3, e4, e5, e6⟩ := q_ensure (need := T.length + (lgd 10 9 v.toInt.natAbs + 1)) h1 (by omega) hl h4
    obtain ⟨c1, c2⟩ := capOf_le e2
    obtain ⟨f', ⟨r1, r2, r3, r4, r5⟩, r6⟩ := gc_loop (n := capOf g') (sg := 0) (by omega) (by omega) (lgd 10 9 v.toInt.natAbs) v.toInt.natAbs T.length (-v) val' h0 hN s3 s4 (by omega) (by omega) e5
    refine ⟨g', f', ⟨e2, by rw [List.length_append, ln]; exact e3, fun i hi => ?_, r5⟩, e1, fun mc ms a post b1 b2 hp => ?_⟩
    · rw [List.length_append, ln] at hi
      by_cases c : i < T.length
      · rw [r4 i (by omega), e4 i (by omega), h3 i c, getD_app c]
      · rw [getD_app2 (by omega), en]
        obtain ⟨j, rfl⟩ : ∃ j, i = T.length + j := ⟨i - T.length, by omega⟩
        rw [r2 j (by omega), show T.length + j - T.length = j by omega, s5 j (by omega)]
    · have fin := hp
      rw [List.length_append, ln] at fin
      refine ⟨g' - g, 200 * (g' - g), by omega, by omega, ?_⟩
      refine ⟨fun z => absurd z hv, fun _ => ⟨_, size_loop h0 s2 s3 s4 ?_ (lgd 10 9 v.toInt.natAbs) 1 _ (by omega) (by omega) (fun _ => by decide)⟩⟩
      refine ⟨g' - g, 200 * (g' - g), by omega, by omega, ?_⟩
      rw [show nI (lgd 10 9 v.toInt.natAbs + 1) + 0 = nI (lgd 10 9 v.toInt.natAbs + 1) from Int32.add_zero _, nI_add]
      refine e6 _ _ _ _ (Nat.le_refl _) (Nat.le_refl _) (fun a' => lat _ ⟨fun z => absurd z (by decide), fun _ => ?_⟩)
      have ez : 0 ≤ v := Int32.not_lt.mp hv
      refine ⟨fun _ => ⟨fun _ => ?_, fun z => absurd rfl z⟩, fun z => absurd ez z⟩
      exact r6 (fun _ w => post (nI (T.length + (lgd 10 9 v.toInt.natAbs + 1))) a' (capOf g') w) (fun r => fin a')
/-! names -/
def nmD (E j : Nat) : List Nat := if E / 32 ^ j % 32 = 0 then [] else [96 + E / 32 ^ j % 32]
def nmL (E : Nat) : Nat → List Nat
  | 0 => []
  | j + 1 => nmD E j ++ nmL E j
theorem nmL_zero : ∀ j, nmL 0 j = []
  | 0 => rfl
  | j + 1 => by
    show nmD 0 j ++ nmL 0 j = []
    rw [nmL_zero j, List.append_nil]
    unfold nmD
    rw [Nat.zero_div]
    rfl
theorem nmL_snoc {E x : Nat} (h1 : 1 ≤ x) (h2 : x < 32) : ∀ j, nmL (E * 32 + x) (j + 1) = nmL E j ++ [96 + x]
  | 0 => by
    show nmD (E * 32 + x) 0 ++ [] = [] ++ [96 + x]
    unfold nmD
    rw [Nat.pow_zero, Nat.div_one, show (E * 32 + x) % 32 = x by omega, if_neg (by omega)]
    rfl
  | j + 1 => by
    show nmD (E * 32 + x) (j + 1) ++ nmL (E * 32 + x) (j + 1) = (nmD E j ++ nmL E j) ++ [96 + x]
    have e : (E * 32 + x) / 32 ^ (j + 1) = E / 32 ^ j := by
      rw [Nat.pow_succ, Nat.mul_comm (32 ^ j) 32, ← Nat.div_div_eq_div_mul, show (E * 32 + x) / 32 = E by omega]
    rw [nmL_snoc h1 h2 j, List.append_assoc]
    unfold nmD
    rw [e]
theorem nmL_fold : ∀ (l : List Nat) (a j : Nat), (∀ x ∈ l, 1 ≤ x ∧ x ≤ 26) → nmL (l.foldl (fun a x => a * 32 + x) a) (j + l.length) = nmL a j ++ l.map (fun x => 96 + x)
  | [], a, j, _ => (List.append_nil _).symm
  | x :: t, a, j, h => by
    have hx := h x List.mem_cons_self
    show nmL (t.foldl (fun a x => a * 32 + x) (a * 32 + x)) (j + (t.length + 1)) = nmL a j ++ ((96 + x) :: t.map (fun x => 96 + x))
    rw [show j + (t.length + 1) = (j + 1) + t.length by omega, nmL_fold t (a * 32 + x) (j + 1) (fun y hy => h y (List.mem_cons_of_mem _ hy)), nmL_snoc hx.1 (by omega), List.append_assoc]
    rfl
theorem nmL_name {l : List Nat} (h : isNm l) : nmL (enc 32 l) 6 = l.map (fun x => 96 + x) := by
  have := nmL_fold l 0 (6 - l.length) h.2.2
  rw [nmL_zero, show 6 - l.length + l.length = 6 by have := h.2.1; omega] at this
  exact this
theorem nmD_facts (E j : Nat) : (nmD E j).length ≤ 1 ∧ ∀ x ∈ nmD E j, x < 128 := by
  unfold nmD
  split
  · exact ⟨Nat.zero_le _, fun x hx => (List.not_mem_nil hx).elim⟩
  · exact ⟨Nat.le_refl _, fun x hx => by rw [List.mem_singleton.mp hx]; have := Nat.mod_lt (E / 32 ^ j) (show 0 < 32 by decide); omega⟩
theorem pow32 (j : Nat) : 2 ^ (5 * j) = 32 ^ j := by rw [Nat.pow_mul]
theorem shift5 {E j : Nat} (hE : E < 2 ^ 31) (hj : j ≤ 5) : (nI E >>> (((5 : Int32) * nI j) &&& 31)) &&& 31 = nI (E / 32 ^ j % 32) := by
  have hs : ∀ j : Fin 6, ((((5 : Int32) * nI j.1) &&& 31).toBitVec.smod 32).toNat = 5 * j.1 := by decide
  rw [pk_shrN hE _ (5 * j) (hs ⟨j, by omega⟩), pow32, pk_andN (Nat.lt_of_le_of_lt (Nat.div_le_self _ _) (by omega)) 5 (by decide)]
theorem char96 {d : Nat} (hd : d < 32) : (((97 : Int32) + nI d - 1).toUInt32 % 65536).toInt32 = nI (96 + d) := by
  have e : (97 : Int32) + nI d - 1 = nI (96 + d) := by
    rw [show (97 : Int32) + nI d = nI (97 + d) from nI_add 97 d, show 97 + d = (96 + d) + 1 by omega, nI_pred]
  rw [e, pk_char, pk_tn (by omega), Nat.mod_eq_of_lt (by omega)]
theorem names_loop {E : Nat} (hE : E < 2 ^ 31) : ∀ (j g : Nat) (T : List Nat) (val : Nat → Int32), j ≤ 6 → SBX g T val → T.length + (nmL E j).length ≤ 142 → ∃ (g' : Nat) (val' : Nat → Int32), SBX g' (T ++ nmL E j) val' ∧ g ≤ g' ∧ ∀ (mc ms a kc ks : Nat) (post : Int32 → Nat → Nat → (Nat → Int32) → Prop), kc + (g' - g) ≤ mc → ks + 200 * (g' - g) ≤ ms → (∀ a', post (nI (T ++ nmL E j).length) a' (capOf g') val') → wp_Names_append_L2 mc ms 0 post (j + 1) (nI E) (nI j + (-1)) (nI T.length) a (capOf g) val kc ks
  | 0, g, T, val, hj, h, hl => by
    refine ⟨g, val, by show SBX g (T ++ []) val; rw [List.append_nil]; exact h, Nat.le_refl _, fun mc ms a kc ks post b1 b2 hp => ⟨fun _ => ?_, fun z => absurd (by decide) z⟩⟩
    have := hp a
    rw [show T ++ nmL E 0 = T from List.append_nil T] at this
    exact this
  | j + 1, g, T, val, hj, h, hl => by
    have el : (nmL E (j + 1)).length = (nmD E j).length + (nmL E j).length := List.length_append
    rw [el] at hl
    have dl : E / 32 ^ j % 32 < 32 := Nat.mod_lt _ (by decide)
    by_cases c : E / 32 ^ j % 32 = 0
    · have ed : nmD E j = [] := if_pos c
      have en : nmL E (j + 1) = nmL E j := by show nmD E j ++ nmL E j = _; rw [ed]; rfl
      rw [en]
      obtain ⟨g', val', i1, i2, i3⟩ := names_loop hE j g T val (by omega) h (by omega)
      refine ⟨g', val', i1, i2, fun mc ms a kc ks post b1 b2 hp => ?_⟩
      rw [pk_m1]
      refine ⟨fun z => absurd z (nI_pos (by omega)), fun _ x3 hx3 => ?_⟩
      rw [shift5 hE (by omega), c] at hx3
      subst hx3
      exact ⟨fun _ => i3 mc ms a kc ks post b1 b2 hp, fun z => absurd rfl z⟩
    · have ed : nmD E j = [96 + E / 32 ^ j % 32] := if_neg c
      have en : T ++ nmL E (j + 1) = (T ++ [96 + E / 32 ^ j % 32]) ++ nmL E j := by
        show T ++ (nmD E j ++ nmL E j) = _
        rw [ed, List.append_assoc]
      have el1 : (nmD E j).length = 1 := by rw [ed]; rfl
      have el2 : (T ++ [96 + E / 32 ^ j % 32]).length = T.length + 1 := List.length_append
      obtain ⟨g1, val1, a1, a2, a3⟩ := app_c (c := 96 + E / 32 ^ j % 32) (by omega) g T val h (by show T.length + 1 ≤ 142; omega)
      obtain ⟨g', val', i1, i2, i3⟩ := names_loop hE j g1 _ val1 (by omega) a1 (by omega)
      refine ⟨g', val', by rw [en]; exact i1, by omega, fun mc ms a kc ks post b1 b2 hp => ?_⟩
      rw [pk_m1]
      refine ⟨fun z => absurd z (nI_pos (by omega)), fun _ x3 hx3 => ⟨fun z => ?_, fun _ => ⟨g1 - g, 200 * (g1 - g), by omega, by omega, ?_⟩⟩⟩
      · rw [hx3, shift5 hE (by omega)] at z
        exact absurd ((nI_eq (b := 0) (by omega) (by decide)).mp z) c
      · rw [hx3, shift5 hE (by omega), char96 dl]
        refine a3 _ _ _ _ (Nat.le_refl _) (Nat.le_refl _) (fun a' => ?_)
        exact i3 mc ms a' _ _ post (by omega) (by omega) (fun a2 => by rw [← en]; exact hp a2)
theorem app_n {E : Nat} (hE : E < 2 ^ 31) : APP (fun mc ms cnt a n val post => wp_Names_append mc ms 0 cnt a n val (nI E) post) (nmL E 6) := fun g T val h hl => by
  obtain ⟨g', val', i1, i2, i3⟩ := names_loop hE 6 g T val (Nat.le_refl _) h hl
  exact ⟨g', val', i1, i2, fun mc ms a post b1 b2 hp => ⟨7, i3 mc ms a 0 0 post (by omega) (by omega) hp⟩⟩
