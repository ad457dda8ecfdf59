/-! Datum.read and the reference's read, side by side -/
theorem runs.congr {p : Int32 → Prop} {t u : Nat → Int32} {n a q : Nat} (h : runs p t n a q) (e : ∀ k, k < n → t k = u k) : runs p u n a q := by
  obtain ⟨h1, h2, h3, h4⟩ := h
  exact ⟨h1, h2, fun k k1 k2 => by rw [← e k (by omega)]; exact h3 k k1 k2, fun hq => by rw [← e q hq]; exact h4 hq⟩
theorem nm5_congr {t u : Nat → Int32} {a : Nat} : ∀ m, (∀ k, a ≤ k → k < a + m → t k = u k) → nm5 t a m = nm5 u a m
  | 0, _ => rfl
  | m + 1, h => by
    show (nm5 t a m <<< ((5 : Int32) &&& 31)) + ((t (a + m) - 97) + 1) = (nm5 u a m <<< ((5 : Int32) &&& 31)) + ((u (a + m) - 97) + 1)
    rw [nm5_congr m (fun k k1 k2 => h k k1 (by omega)), h (a + m) (by omega) (by omega)]
theorem num10_congr {t u : Nat → Int32} {a : Nat} : ∀ m, (∀ k, a ≤ k → k < a + m → t k = u k) → num10 t a m = num10 u a m
  | 0, _ => rfl
  | m + 1, h => by
    show (10 * num10 t a m) + (t (a + m) - 48) = (10 * num10 u a m) + (u (a + m) - 48)
    rw [num10_congr m (fun k k1 k2 => h k k1 (by omega)), h (a + m) (by omega) (by omega)]
/-- both readers go on from p to q, with new tables; or both refuse -/
def stepOK (n b p m d : Nat) (bank : Int32) (ct mt K V F O P S W C N Q R : Nat → Int32) : Prop :=
  (∃ (q m' d' : Nat) (K' V' F' O' P' S' W' C' N' Q' R' : Nat → Int32), p < q ∧ q ≤ n ∧ m' ≤ q ∧ RX b m' d' q K' V' F' O' P' S' W' C' N' Q' R' ∧
    (∀ post : Int32 → Int32 → Int32 → (Nat → Int32) → (Nat → Int32) → (Nat → Int32) → (Nat → Int32) → (Nat → Int32) → Prop, post (nI q) (nI m') (nI d') F' K' P' O' V' → wp_Datum_readOne (nI m) (nI d) F K P O V ct (nI n) (nI p) post) ∧
    (∀ (K222 : Int32 → Int32 → (Nat → Int32) → (Nat → Int32) → (Nat → Int32) → (Nat → Int32) → (Nat → Int32) → (Nat → Int32) → Prop) (post : Int32 → Int32 → (Nat → Int32) → (Nat → Int32) → (Nat → Int32) → (Nat → Int32) → (Nat → Int32) → (Nat → Int32) → Prop) (fu : Nat), wp_Model_read_L9 (nI n) bank mt K222 post fu (nI d') (nI q) (nI m') C' R' N' Q' S' W' → wp_Model_read_L9 (nI n) bank mt K222 post (fu + 1) (nI d) (nI p) (nI m) C R N Q S W)) ∨
  (∃ (c1 c2 e1 : Int32) (K' V' F' O' P' S' W' C' N' Q' R' : Nat → Int32),
    (∀ post : Int32 → Int32 → Int32 → (Nat → Int32) → (Nat → Int32) → (Nat → Int32) → (Nat → Int32) → (Nat → Int32) → Prop, post (-1) c1 c2 F' K' P' O' V' → wp_Datum_readOne (nI m) (nI d) F K P O V ct (nI n) (nI p) post) ∧
    (∀ (K222 : Int32 → Int32 → (Nat → Int32) → (Nat → Int32) → (Nat → Int32) → (Nat → Int32) → (Nat → Int32) → (Nat → Int32) → Prop) (post : Int32 → Int32 → (Nat → Int32) → (Nat → Int32) → (Nat → Int32) → (Nat → Int32) → (Nat → Int32) → (Nat → Int32) → Prop) (fu : Nat), post 0 e1 C' R' N' Q' S' W' → wp_Model_read_L9 (nI n) bank mt K222 post (fu + 1) (nI d) (nI p) (nI m) C R N Q S W))
section Step
variable {n b p m d : Nat} {bank : Int32} {ct mt K V F O P S W C N Q R : Nat → Int32}
theorem step_blank (h : RX b m d p K V F O P S W C N Q R) (hn : n ≤ 200) (hp : p < n) (hm : m ≤ p) (hc : ct p = 32) (hc2 : mt p = 32) : stepOK n b p m d bank ct mt K V F O P S W C N Q R := by
  refine Or.inl ⟨p + 1, m, d, K, V, F, O, P, S, W, C, N, Q, R, by omega, by omega, by omega, h.blank, fun post hk => ?_, fun K222 post fu hk => ?_⟩
  · unfold wp_Datum_readOne
    rw [nI_clamp (n := p) (by omega), hc]
    refine ⟨vp_in_nI (by omega) (by decide), fun _ => ?_, fun c => absurd rfl c⟩
    rw [nI_1]
    exact hk
  · unfold wp_Model_read_L9
    rw [nI_clamp (n := p) (by omega), hc2]
    refine ⟨fun c => absurd c (nI_ge hp (by omega)), fun _ => ⟨vp_in_nI (by omega) (by decide), fun c => absurd c (by decide), fun _ => ⟨fun c => absurd c (by decide), fun _ => ⟨fun _ => ?_, fun c => absurd rfl c⟩⟩⟩⟩
    unfold wp_Model_read_J210
    rw [nI_1]
    exact ⟨fun _ => hk, fun c => absurd (nI_pos' (by have := h.1.2.1; omega)) c⟩
theorem step_close (h : RX b m d p K V F O P S W C N Q R) (hn : n ≤ 200) (hp : p < n) (hm : m ≤ p) (hc : ct p = 41) (hc2 : mt p = 41) : stepOK n b p m d bank ct mt K V F O P S W C N Q R := by
  cases d with
  | zero =>
    refine Or.inr ⟨nI m, nI 0, nI m, K, V, F, O, P, S, W, C, N, Q, R, fun post hk => ?_, fun K222 post fu hk => ?_⟩
    · unfold wp_Datum_readOne
      rw [nI_clamp (n := p) (by omega), hc]
      exact ⟨vp_in_nI (by omega) (by decide), fun c => absurd c (by decide), fun _ => ⟨fun c => absurd c (by decide), fun _ => ⟨fun _ => ⟨fun _ => ⟨fun _ => hk, fun c => absurd rfl c⟩, fun c => absurd rfl c⟩, fun c => absurd rfl c⟩⟩⟩
    · unfold wp_Model_read_L9
      rw [nI_clamp (n := p) (by omega), hc2]
      refine ⟨fun c => absurd c (nI_ge hp (by omega)), fun _ => ⟨vp_in_nI (by omega) (by decide), fun c => absurd c (by decide), fun _ => ⟨fun _ => ?_, fun c => absurd rfl c⟩⟩⟩
      unfold wp_Model_read_J210
      exact ⟨fun c => absurd c (by decide), fun _ => hk⟩
  | succ d =>
    have hd := h.1.2.1
    refine Or.inl ⟨p + 1, m, d, K, V, F, O, P, S, W, C, N, Q, R, by omega, by omega, by omega, h.close, fun post hk => ?_, fun K222 post fu hk => ?_⟩
    · unfold wp_Datum_readOne
      rw [nI_clamp (n := p) (by omega), hc]
      refine ⟨vp_in_nI (by omega) (by decide), fun c => absurd c (by decide), fun _ => ⟨fun c => absurd c (by decide), fun _ => ⟨fun _ => ⟨fun c => absurd c (nI_ne0 (by omega) (by omega)), fun _ => ⟨fun c => absurd c (by decide), fun _ => ?_⟩⟩, fun c => absurd rfl c⟩⟩⟩
      rw [nI_1, nI_pred]
      exact hk
    · unfold wp_Model_read_L9
      rw [nI_clamp (n := p) (by omega), hc2]
      refine ⟨fun c => absurd c (nI_ge hp (by omega)), fun _ => ⟨vp_in_nI (by omega) (by decide), fun c => absurd c (by decide), fun _ => ⟨fun _ => ?_, fun c => absurd rfl c⟩⟩⟩
      unfold wp_Model_read_J210
      rw [nI_1, pk_m1]
      exact ⟨fun _ => hk, fun c => absurd (nI_pos' (by omega)) c⟩
theorem step_open (h : RX b m d p K V F O P S W C N Q R) (hn : n ≤ 200) (hp : p < n) (hm : m ≤ p) (hb : b ≤ 200) (hbk : (200 : Int32) * ((1 : Int32) - bank) = nI b) (hc : ct p = 40) (hc2 : mt p = 40) : stepOK n b p m d bank ct mt K V F O P S W C N Q R := by
  have hd := h.1.2.1
  by_cases h12 : d = 12
  · subst h12
    refine Or.inr ⟨nI m, nI 12, nI m, K, V, F, O, P, S, W, C, N, Q, R, fun post hk => ?_, fun K222 post fu hk => ?_⟩
    · unfold wp_Datum_readOne
      rw [nI_clamp (n := p) (by omega), hc]
      exact ⟨vp_in_nI (by omega) (by decide), fun c => absurd c (by decide), fun _ => ⟨fun _ => ⟨fun _ => ⟨fun _ => hk, fun c => absurd rfl c⟩, fun c => absurd (by decide) c⟩, fun c => absurd rfl c⟩⟩
    · unfold wp_Model_read_L9
      rw [nI_clamp (n := p) (by omega), hc2]
      refine ⟨fun c => absurd c (nI_ge hp (by omega)), fun _ => ⟨vp_in_nI (by omega) (by decide), fun _ => ⟨fun _ => ?_, fun c => absurd rfl c⟩, fun c => absurd rfl c⟩⟩
      unfold wp_Model_read_J52
      exact ⟨fun c => absurd c (by decide), fun _ => hk⟩
  have hd2 : d < 12 := by omega
  have c12 : ¬ (12 : Int32) ≤ nI d := fun c => by
    have := (nI_leI (a := 12) (b := d) (by decide) (by omega)).mp c
    omega
  have n12 : ¬ nI d = 12 := fun c => by
    have := (nI_eq (a := d) (b := 12) (by omega) (by decide)).mp c
    omega
  have vd : vp_in (nI d) 12 := vp_in_nI hd2 (by decide)
  have ed : (nI d).toNatClampNeg = d := nI_clamp (by omega)
  rcases h.1.node (bank := bank) (k := 2) (v := -1) (w := 0) (by omega) hb hbk (Or.inr (Or.inr ⟨rfl, rfl, ptr.nil⟩)) with ⟨h0, K', V', F', P', S', W', C', N', R', h1, h2, h3, h4⟩ | ⟨-, h3, h4⟩
  · refine Or.inl ⟨p + 1, m + 1, d + 1, K', V', F', _, _, S', W', C', N', _, _, by omega, by omega, by omega, h.opn h2 (h1.opd hd2 h2.1) (by omega) hd2 h0, fun post hk => ?_, fun K222 post fu hk => ?_⟩
    · unfold wp_Datum_readOne
      rw [nI_clamp (n := p) (by omega), hc]
      refine ⟨vp_in_nI (by omega) (by decide), fun c => absurd c (by decide), fun _ => ⟨fun _ => ⟨fun c => absurd c c12, fun _ => h3 _ ⟨fun c => absurd c (by decide), fun _ => ⟨vd, vd, fun c => absurd c (by decide), fun _ => ?_⟩⟩⟩, fun c => absurd rfl c⟩⟩
      rw [nI_1, nI_1, nI_pred, ed]
      exact hk
    · unfold wp_Model_read_L9
      rw [nI_clamp (n := p) (by omega), hc2]
      refine ⟨fun c => absurd c (nI_ge hp (by omega)), fun _ => ⟨vp_in_nI (by omega) (by decide), fun _ => ⟨fun c => absurd c n12, fun _ => h4 _ ?_⟩, fun c => absurd rfl c⟩⟩
      unfold wp_Model_read_J52 wp_Model_read_J210
      rw [nI_1, nI_1, ed]
      exact ⟨fun _ => ⟨vd, vd, fun _ => hk, fun c => absurd (nI_pos' (by omega)) c⟩, fun c => absurd (nI_pos' (by omega)) c⟩
  · refine Or.inr ⟨nI m, nI d, nI m, K, V, F, O, P, S, W, C, N, Q, R, fun post hk => ?_, fun K222 post fu hk => ?_⟩
    · unfold wp_Datum_readOne
      rw [nI_clamp (n := p) (by omega), hc]
      exact ⟨vp_in_nI (by omega) (by decide), fun c => absurd c (by decide), fun _ => ⟨fun _ => ⟨fun c => absurd c c12, fun _ => h3 _ ⟨fun _ => ⟨fun _ => hk, fun c => absurd rfl c⟩, fun c => absurd rfl c⟩⟩, fun c => absurd rfl c⟩⟩
    · unfold wp_Model_read_L9
      rw [nI_clamp (n := p) (by omega), hc2]
      refine ⟨fun c => absurd c (nI_ge hp (by omega)), fun _ => ⟨vp_in_nI (by omega) (by decide), fun _ => ⟨fun c => absurd c n12, fun _ => h4 _ ?_⟩, fun c => absurd rfl c⟩⟩
      unfold wp_Model_read_J52
      exact ⟨fun c => absurd c (by decide), fun _ => hk⟩
end Step
