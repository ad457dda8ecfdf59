/-! Datum.read and the reference's read, side by side -/
theorem runs.congr {p : Int32 → Prop} {t u : Nat → Int32} {n a q : Nat} (h : runs p t n a q) (e : ∀ k, k < n → t k = u k) : runs p u n a q := by
  obtain ⟨h1, h2, h3, h4⟩ := h
  exact ⟨h1, h2, fun k k1 k2 => by rw [← e k (by omega)]; exact h3 k k1 k2, fun hq => by rw [← e q hq]; exact h4 hq⟩
theorem nm5_congr {t u : Nat → Int32} {a : Nat} : ∀ m, (∀ k, a ≤ k → k < a + m → t k = u k) → nm5 t a m = nm5 u a m
  | 0, _ => rfl
  | m + 1, h => by
    show (nm5 t a m <<< ((5 : Int32) &&& 31)) + ((t (a + m) - 97) + 1) = (nm5 u a m <<< ((5 : Int32) &&& 31)) + ((u (a + m) - 97) + 1)
    rw [nm5_congr m (fun k k1 k2 => h k k1 (by omega)), h (a + m) (by omega) (by omega)]
theorem num10_congr {t u : Nat → Int32} {a : Nat} : ∀ m, (∀ k, a ≤ k → k < a + m → t k = u k) → num10 t a m = num10 u a m
  | 0, _ => rfl
  | m + 1, h => by
    show (10 * num10 t a m) + (t (a + m) - 48) = (10 * num10 u a m) + (u (a + m) - 48)
    rw [num10_congr m (fun k k1 k2 => h k k1 (by omega)), h (a + m) (by omega) (by omega)]
/-- both readers go on from p to q, with new tables; or both refuse -/
def stepOK (n b p m d : Nat) (bank : Int32) (ct mt K V F O P S W C N Q R : Nat → Int32) : Prop :=
  (∃ (q m' d' : Nat) (K' V' F' O' P' S' W' C' N' Q' R' : Nat → Int32), p < q ∧ q ≤ n ∧ m' ≤ q ∧ RX b m' d' q K' V' F' O' P' S' W' C' N' Q' R' ∧ OUTS b S W C N S' W' C' N' ∧
    (∀ post : Int32 → Int32 → Int32 → (Nat → Int32) → (Nat → Int32) → (Nat → Int32) → (Nat → Int32) → (Nat → Int32) → Prop, post (nI q) (nI m') (nI d') F' K' P' O' V' → wp_Datum_readOne (nI m) (nI d) F K P O V ct (nI n) (nI p) post) ∧
    (∀ (K222 : Int32 → Int32 → (Nat → Int32) → (Nat → Int32) → (Nat → Int32) → (Nat → Int32) → (Nat → Int32) → (Nat → Int32) → Prop) (post : Int32 → Int32 → (Nat → Int32) → (Nat → Int32) → (Nat → Int32) → (Nat → Int32) → (Nat → Int32) → (Nat → Int32) → Prop) (fu : Nat), wp_Model_read_L9 (nI n) bank mt K222 post fu (nI d') (nI q) (nI m') C' R' N' Q' S' W' → wp_Model_read_L9 (nI n) bank mt K222 post (fu + 1) (nI d) (nI p) (nI m) C R N Q S W)) ∨
  (∃ (c1 c2 e1 : Int32) (K' V' F' O' P' S' W' C' N' Q' R' : Nat → Int32), OUTS b S W C N S' W' C' N' ∧
    (∀ post : Int32 → Int32 → Int32 → (Nat → Int32) → (Nat → Int32) → (Nat → Int32) → (Nat → Int32) → (Nat → Int32) → Prop, post (-1) c1 c2 F' K' P' O' V' → wp_Datum_readOne (nI m) (nI d) F K P O V ct (nI n) (nI p) post) ∧
    (∀ (K222 : Int32 → Int32 → (Nat → Int32) → (Nat → Int32) → (Nat → Int32) → (Nat → Int32) → (Nat → Int32) → (Nat → Int32) → Prop) (post : Int32 → Int32 → (Nat → Int32) → (Nat → Int32) → (Nat → Int32) → (Nat → Int32) → (Nat → Int32) → (Nat → Int32) → Prop) (fu : Nat), post 0 e1 C' R' N' Q' S' W' → wp_Model_read_L9 (nI n) bank mt K222 post (fu + 1) (nI d) (nI p) (nI m) C R N Q S W))
section Step
variable {n b p m d : Nat} {bank : Int32} {ct mt K V F O P S W C N Q R : Nat → Int32}
theorem step_blank (h : RX b m d p K V F O P S W C N Q R) (hn : n ≤ 200) (hp : p < n) (hm : m ≤ p) (hc : ct p = 32) (hc2 : mt p = 32) : stepOK n b p m d bank ct mt K V F O P S W C N Q R := by
  refine Or.inl ⟨p + 1, m, d, K, V, F, O, P, S, W, C, N, Q, R, by omega, by omega, by omega, h.blank, OUTS.refl, fun post hk => ?_, fun K222 post fu hk => ?_⟩
  · unfold wp_Datum_readOne
    rw [nI_clamp (n := p) (by omega), hc]
    refine ⟨vp_in_nI (by omega) (by decide), fun _ => ?_, fun c => absurd rfl c⟩
    rw [nI_1]
    exact hk
  · unfold wp_Model_read_L9
    rw [nI_clamp (n := p) (by omega), hc2]
    refine ⟨fun c => absurd c (nI_ge hp (by omega)), fun _ => ⟨vp_in_nI (by omega) (by decide), fun c => absurd c (by decide), fun _ => ⟨fun c => absurd c (by decide), fun _ => ⟨fun _ => ?_, fun c => absurd rfl c⟩⟩⟩⟩
    unfold wp_Model_read_J210
    rw [nI_1]
    exact ⟨fun _ => hk, fun c => absurd (nI_pos' (by have := h.1.2.1; omega)) c⟩
theorem step_close (h : RX b m d p K V F O P S W C N Q R) (hn : n ≤ 200) (hp : p < n) (hm : m ≤ p) (hc : ct p = 41) (hc2 : mt p = 41) : stepOK n b p m d bank ct mt K V F O P S W C N Q R := by
  cases d with
  | zero =>
    refine Or.inr ⟨nI m, nI 0, nI m, K, V, F, O, P, S, W, C, N, Q, R, OUTS.refl, fun post hk => ?_, fun K222 post fu hk => ?_⟩
    · unfold wp_Datum_readOne
      rw [nI_clamp (n := p) (by omega), hc]
      exact ⟨vp_in_nI (by omega) (by decide), fun c => absurd c (by decide), fun _ => ⟨fun c => absurd c (by decide), fun _ => ⟨fun _ => ⟨fun _ => ⟨fun _ => hk, fun c => absurd rfl c⟩, fun c => absurd rfl c⟩, fun c => absurd rfl c⟩⟩⟩
    · unfold wp_Model_read_L9
      rw [nI_clamp (n := p) (by omega), hc2]
      refine ⟨fun c => absurd c (nI_ge hp (by omega)), fun _ => ⟨vp_in_nI (by omega) (by decide), fun c => absurd c (by decide), fun _ => ⟨fun _ => ?_, fun c => absurd rfl c⟩⟩⟩
      unfold wp_Model_read_J210
      exact ⟨fun c => absurd c (by decide), fun _ => hk⟩
  | succ d =>
    have hd := h.1.2.1
    refine Or.inl ⟨p + 1, m, d, K, V, F, O, P, S, W, C, N, Q, R, by omega, by omega, by omega, h.close, OUTS.refl, fun post hk => ?_, fun K222 post fu hk => ?_⟩
    · unfold wp_Datum_readOne
      rw [nI_clamp (n := p) (by omega), hc]
      refine ⟨vp_in_nI (by omega) (by decide), fun c => absurd c (by decide), fun _ => ⟨fun c => absurd c (by decide), fun _ => ⟨fun _ => ⟨fun c => absurd c (nI_ne0 (by omega) (by omega)), fun _ => ⟨fun c => absurd c (by decide), fun _ => ?_⟩⟩, fun c => absurd rfl c⟩⟩⟩
      rw [nI_1, nI_pred]
      exact hk
    · unfold wp_Model_read_L9
      rw [nI_clamp (n := p) (by omega), hc2]
      refine ⟨fun c => absurd c (nI_ge hp (by omega)), fun _ => ⟨vp_in_nI (by omega) (by decide), fun c => absurd c (by decide), fun _ => ⟨fun _ => ?_, fun c => absurd rfl c⟩⟩⟩
      unfold wp_Model_read_J210
      rw [nI_1, pk_m1]
      exact ⟨fun _ => hk, fun c => absurd (nI_pos' (by omega)) c⟩
theorem step_open (h : RX b m d p K V F O P S W C N Q R) (hn : n ≤ 200) (hp : p < n) (hm : m ≤ p) (hb : b ≤ 200) (hbk : (200 : Int32) * ((1 : Int32) - bank) = nI b) (hc : ct p = 40) (hc2 : mt p = 40) : stepOK n b p m d bank ct mt K V F O P S W C N Q R := by
  have hd := h.1.2.1
  by_cases h12 : d = 12
  · subst h12
    refine Or.inr ⟨nI m, nI 12, nI m, K, V, F, O, P, S, W, C, N, Q, R, OUTS.refl, fun post hk => ?_, fun K222 post fu hk => ?_⟩
    · unfold wp_Datum_readOne
      rw [nI_clamp (n := p) (by omega), hc]
      exact ⟨vp_in_nI (by omega) (by decide), fun c => absurd c (by decide), fun _ => ⟨fun _ => ⟨fun _ => ⟨fun _ => hk, fun c => absurd rfl c⟩, fun c => absurd (by decide) c⟩, fun c => absurd rfl c⟩⟩
    · unfold wp_Model_read_L9
      rw [nI_clamp (n := p) (by omega), hc2]
      refine ⟨fun c => absurd c (nI_ge hp (by omega)), fun _ => ⟨vp_in_nI (by omega) (by decide), fun _ => ⟨fun _ => ?_, fun c => absurd rfl c⟩, fun c => absurd rfl c⟩⟩
      unfold wp_Model_read_J52
      exact ⟨fun c => absurd c (by decide), fun _ => hk⟩
  have hd2 : d < 12 := by omega
  have c12 : ¬ (12 : Int32) ≤ nI d := fun c => by
    have := (nI_leI (a := 12) (b := d) (by decide) (by omega)).mp c
    omega
  have n12 : ¬ nI d = 12 := fun c => by
    have := (nI_eq (a := d) (b := 12) (by omega) (by decide)).mp c
    omega
  have vd : vp_in (nI d) 12 := vp_in_nI hd2 (by decide)
  have ed : (nI d).toNatClampNeg = d := nI_clamp (by omega)
  rcases h.1.node (bank := bank) (k := 2) (v := -1) (w := 0) (by omega) hb hbk (Or.inr (Or.inr ⟨rfl, rfl, ptr.nil⟩)) with ⟨h0, K', V', F', P', S', W', C', N', R', h1, h2, ho, h3, h4⟩ | ⟨-, h3, h4⟩
  · refine Or.inl ⟨p + 1, m + 1, d + 1, K', V', F', _, _, S', W', C', N', _, _, by omega, by omega, by omega, h.opn h2 (h1.opd hd2 h2.1) (by omega) hd2 h0, ho, fun post hk => ?_, fun K222 post fu hk => ?_⟩
    · unfold wp_Datum_readOne
      rw [nI_clamp (n := p) (by omega), hc]
      refine ⟨vp_in_nI (by omega) (by decide), fun c => absurd c (by decide), fun _ => ⟨fun _ => ⟨fun c => absurd c c12, fun _ => h3 _ ⟨fun c => absurd c (by decide), fun _ => ⟨vd, vd, fun c => absurd c (by decide), fun _ => ?_⟩⟩⟩, fun c => absurd rfl c⟩⟩
      rw [nI_1, nI_1, nI_pred, ed]
      exact hk
    · unfold wp_Model_read_L9
      rw [nI_clamp (n := p) (by omega), hc2]
      refine ⟨fun c => absurd c (nI_ge hp (by omega)), fun _ => ⟨vp_in_nI (by omega) (by decide), fun _ => ⟨fun c => absurd c n12, fun _ => h4 _ ?_⟩, fun c => absurd rfl c⟩⟩
      unfold wp_Model_read_J52 wp_Model_read_J210
      rw [nI_1, nI_1, ed]
      exact ⟨fun _ => ⟨vd, vd, fun _ => hk, fun c => absurd (nI_pos' (by omega)) c⟩, fun c => absurd (nI_pos' (by omega)) c⟩
  · refine Or.inr ⟨nI m, nI d, nI m, K, V, F, O, P, S, W, C, N, Q, R, OUTS.refl, fun post hk => ?_, fun K222 post fu hk => ?_⟩
    · unfold wp_Datum_readOne
      rw [nI_clamp (n := p) (by omega), hc]
      exact ⟨vp_in_nI (by omega) (by decide), fun c => absurd c (by decide), fun _ => ⟨fun _ => ⟨fun c => absurd c c12, fun _ => h3 _ ⟨fun _ => ⟨fun _ => hk, fun c => absurd rfl c⟩, fun c => absurd rfl c⟩⟩, fun c => absurd rfl c⟩⟩
    · unfold wp_Model_read_L9
      rw [nI_clamp (n := p) (by omega), hc2]
      refine ⟨fun c => absurd c (nI_ge hp (by omega)), fun _ => ⟨vp_in_nI (by omega) (by decide), fun _ => ⟨fun c => absurd c n12, fun _ => h4 _ ?_⟩, fun c => absurd rfl c⟩⟩
      unfold wp_Model_read_J52
      exact ⟨fun c => absurd c (by decide), fun _ => hk⟩
end Step
/-! names and numbers, side by side -/
section Step2
variable {n b p m d : Nat} {bank : Int32} {ct mt K V F O P S W C N Q R : Nat → Int32}
theorem step_name (h : RX b m d p K V F O P S W C N Q R) (hn : n ≤ 200) (hp : p < n) (hm : m ≤ p) (hb : b ≤ 200) (hbk : (200 : Int32) * ((1 : Int32) - bank) = nI b) (het : ∀ k, k < n → ct k = mt k) (hl : ltr (ct p)) : stepOK n b p m d bank ct mt K V F O P S W C N Q R := by
  obtain ⟨q, hr⟩ := runs.all ltr ct (n := n) (a := p) (by omega)
  have hr2 := hr.congr het
  have hpq : p < q := by
    rcases Nat.lt_or_ge p q with g | g
    · exact g
    · have e : q = p := by have := hr.1; omega
      subst e
      exact absurd hl (hr.2.2.2 hp)
  have hqn := hr.2.1
  have hl2 : ltr (mt p) := by rw [← het p hp]; exact hl
  have x32 : ¬ ct p = 32 := fun c => hl.1 (by rw [c]; decide)
  have x40 : ¬ ct p = 40 := fun c => hl.1 (by rw [c]; decide)
  have x41 : ¬ ct p = 41 := fun c => hl.1 (by rw [c]; decide)
  have y32 : ¬ mt p = 32 := fun c => hl2.1 (by rw [c]; decide)
  have y40 : ¬ mt p = 40 := fun c => hl2.1 (by rw [c]; decide)
  have y41 : ¬ mt p = 41 := fun c => hl2.1 (by rw [c]; decide)
  have y45 : ¬ mt p = 45 := fun c => hl2.1 (by rw [c]; decide)
  have hsub : nI q - nI p = nI (q - p) := pk_sub (a := q) (b := p) (by omega)
  have cls : ∀ post : Int32 → Int32 → Int32 → (Nat → Int32) → (Nat → Int32) → (Nat → Int32) → (Nat → Int32) → (Nat → Int32) → Prop, wp_Datum_readName_J39 (nI d) O ct (fun r c F K P V => post r c (nI d) F K P O V) (nI p) (nm5 ct p (q - p)) (nI q) (nI m) F K P V → wp_Datum_readOne (nI m) (nI d) F K P O V ct (nI n) (nI p) post := fun post hk => by
    unfold wp_Datum_readOne
    rw [nI_clamp (n := p) (by omega)]
    refine ⟨vp_in_nI (by omega) (by decide), fun c => absurd c x32, fun _ => ⟨fun c => absurd c x40, fun _ => ⟨fun c => absurd c x41, fun _ => q_isLetter (fun _ => ⟨fun c => absurd c (by decide), fun _ => ?_⟩) (fun c => absurd hl c)⟩⟩⟩
    exact ⟨_, q_readName_L6 hn hr hk (q - p) 0 (by omega)⟩
  have mdl : ∀ (K222 : Int32 → Int32 → (Nat → Int32) → (Nat → Int32) → (Nat → Int32) → (Nat → Int32) → (Nat → Int32) → (Nat → Int32) → Prop) (post : Int32 → Int32 → (Nat → Int32) → (Nat → Int32) → (Nat → Int32) → (Nat → Int32) → (Nat → Int32) → (Nat → Int32) → Prop) (fu : Nat), wp_Model_read_J175 (nI n) bank mt (wp_Model_read_L9 (nI n) bank mt K222 post fu) K222 post (nI d) (nI q) 0 0 (nI p) 6 (nI q - nI p) (nI m) C R N Q S W → wp_Model_read_L9 (nI n) bank mt K222 post (fu + 1) (nI d) (nI p) (nI m) C R N Q S W := fun K222 post fu hk => by
    unfold wp_Model_read_L9
    rw [nI_clamp (n := p) (by omega)]
    refine ⟨fun c => absurd c (nI_ge hp (by omega)), fun _ => ⟨vp_in_nI (by omega) (by decide), fun c => absurd c y40, fun _ => ⟨fun c => absurd c y41, fun _ => ⟨fun c => absurd c y32, fun _ => ⟨fun c => absurd c y45, fun _ => ?_⟩⟩⟩⟩⟩
    unfold wp_Model_read_J111
    refine q_mletter (fun _ => ⟨fun c => absurd c (by decide), fun _ => ?_⟩) (fun c => absurd hl2 c)
    unfold wp_Model_read_J125
    refine ⟨fun _ => ?_, fun c => absurd rfl c⟩
    unfold wp_Model_read_J139
    exact q_end hn hr2 ⟨fun c => absurd ((nI_eq (a := q) (b := p) (by omega) (by omega)).mp c) (by omega), fun _ => ⟨fun _ => hk, fun c => absurd rfl c⟩⟩
  by_cases h6 : 6 < q - p
  · have h6' : (6 : Int32) < nI (q - p) := nI_lt (a := 6) (b := q - p) h6 (by omega)
    refine Or.inr ⟨nI m, nI d, nI m, K, V, F, O, P, S, W, C, N, Q, R, OUTS.refl, fun post hk => cls post ?_, fun K222 post fu hk => mdl K222 post fu ?_⟩
    · unfold wp_Datum_readName_J39
      rw [hsub]
      exact ⟨fun _ => hk, fun c => absurd h6' c⟩
    · unfold wp_Model_read_J175
      rw [hsub]
      exact ⟨fun _ => hk, fun c => absurd h6' c⟩
  · have h6n : ¬ (6 : Int32) < nI (q - p) := Int32.not_lt.mpr (nI_le (a := q - p) (b := 6) (by omega) (by decide))
    obtain ⟨l, l1, l2, l3, l4⟩ := nm_both (t := mt) (a := p) (q - p) (by omega) (fun k k1 k2 => hr2.2.2.1 k k1 (by omega))
    have l5 : nm5 ct p (q - p) = nI (enc 32 l) := by
      rw [nm5_congr (q - p) (fun k k1 k2 => het k (by omega))]
      exact l3
    have hl6 : isNm l := ⟨fun e => by rw [e] at l1; exact absurd l1 (by show ¬ 0 = _; omega), by omega, l2⟩
    have hnm : nameR (nm5 ct p (q - p)) (nm27 mt p (q - p)) := ⟨l, hl6, l5, l4⟩
    rcases h.1.node (bank := bank) (k := 1) (v := nm5 ct p (q - p)) (w := nm27 mt p (q - p)) (by omega) hb hbk (Or.inr (Or.inl ⟨rfl, rfl, hnm, rfl⟩)) with ⟨hx0, K', V', F', P', S', W', C', N', R', h1, h2, ho, h3, h4⟩ | ⟨-, h3, h4⟩
    · refine Or.inl ⟨q, m + 1, d, K', V', F', O, P', S', W', C', N', Q, R', hpq, hqn, by omega, h.leaf h2 h1 (by omega) hpq (by decide) (fun _ => ⟨l, hl6, l5, by omega⟩) hx0, ho, fun post hk => cls post ?_, fun K222 post fu hk => mdl K222 post fu ?_⟩
      · unfold wp_Datum_readName_J39
        rw [hsub]
        exact ⟨fun c => absurd c h6n, fun _ => h3 _ ⟨fun c => absurd c (by decide), fun _ => hk⟩⟩
      · unfold wp_Model_read_J175
        rw [hsub]
        refine ⟨fun c => absurd c h6n, fun _ => ⟨fun _ => ?_, fun c => absurd rfl c⟩⟩
        unfold wp_Model_read_J190
        refine q_worth (by omega) (by omega) (h4 _ ⟨fun _ => ?_, fun c => absurd (nI_pos' (by omega)) c⟩)
        unfold wp_Model_read_J210
        exact ⟨fun _ => hk, fun c => absurd (nI_pos' (by have := h.1.2.1; omega)) c⟩
    · refine Or.inr ⟨nI m, nI d, nI m, K, V, F, O, P, S, W, C, N, Q, R, OUTS.refl, fun post hk => cls post ?_, fun K222 post fu hk => mdl K222 post fu ?_⟩
      · unfold wp_Datum_readName_J39
        rw [hsub]
        exact ⟨fun c => absurd c h6n, fun _ => h3 _ ⟨fun _ => hk, fun c => absurd rfl c⟩⟩
      · unfold wp_Model_read_J175
        rw [hsub]
        refine ⟨fun c => absurd c h6n, fun _ => ⟨fun _ => ?_, fun c => absurd rfl c⟩⟩
        unfold wp_Model_read_J190
        exact q_worth (by omega) (by omega) (h4 _ ⟨fun c => absurd c (by decide), fun _ => hk⟩)
/-- a number: its sign, where its digits begin -/
theorem step_num {a : Nat} {sg : Int32} (h : RX b m d p K V F O P S W C N Q R) (hn : n ≤ 200) (hp : p < n) (hm : m ≤ p) (hb : b ≤ 200) (hbk : (200 : Int32) * ((1 : Int32) - bank) = nI b) (het : ∀ k, k < n → ct k = mt k) (hl : ¬ ltr (ct p)) (x32 : ¬ ct p = 32) (x40 : ¬ ct p = 40) (x41 : ¬ ct p = 41) (hs : (ct p = 45 ∧ sg = 1 ∧ a = p + 1) ∨ (¬ ct p = 45 ∧ sg = 0 ∧ a = p)) : stepOK n b p m d bank ct mt K V F O P S W C N Q R := by
  have ha : p ≤ a ∧ a ≤ n := by rcases hs with h | h <;> omega
  obtain ⟨q, hr⟩ := runs.all dig ct (n := n) (a := a) (by omega)
  have hr2 := hr.congr het
  have haq := hr.1
  have hqn := hr.2.1
  have ep := het p hp
  have hl2 : ¬ ltr (mt p) := by rw [← ep]; exact hl
  have y32 : ¬ mt p = 32 := by rw [← ep]; exact x32
  have y40 : ¬ mt p = 40 := by rw [← ep]; exact x40
  have y41 : ¬ mt p = 41 := by rw [← ep]; exact x41
  have hsub : nI q - nI a = nI (q - a) := pk_sub (a := q) (b := a) (by omega)
  have enum : num10 ct a (q - a) = num10 mt a (q - a) := num10_congr (q - a) (fun k k1 k2 => het k (by omega))
  have cls : ∀ post : Int32 → Int32 → Int32 → (Nat → Int32) → (Nat → Int32) → (Nat → Int32) → (Nat → Int32) → (Nat → Int32) → Prop, wp_Datum_readNumber_J73 (nI d) O ct (fun r c F K P V => post r c (nI d) F K P O V) sg (nI a) (num10 ct a (q - a)) (nI q) (nI m) F K P V → wp_Datum_readOne (nI m) (nI d) F K P O V ct (nI n) (nI p) post := fun post hk => by
    unfold wp_Datum_readOne
    rw [nI_clamp (n := p) (by omega)]
    refine ⟨vp_in_nI (by omega) (by decide), fun c => absurd c x32, fun _ => ⟨fun c => absurd c x40, fun _ => ⟨fun c => absurd c x41, fun _ => q_isLetter (fun c => absurd c hl) (fun _ => ⟨fun _ => ?_, fun c => absurd rfl c⟩)⟩⟩⟩
    unfold wp_Datum_readNumber
    rw [nI_clamp (n := p) (by omega)]
    refine ⟨vp_in_nI (by omega) (by decide), ?_⟩
    have key := q_readNumber_L36 (oc := nI d) (O := O) (post := fun r c F K P V => post r c (nI d) F K P O V) hn hr hk (q - a) 0 (by omega)
    rcases hs with ⟨s1, s2, s3⟩ | ⟨s1, s2, s3⟩
    · subst s2 s3
      refine ⟨fun _ => ?_, fun c => absurd s1 c⟩
      unfold wp_Datum_readNumber_J13
      refine ⟨fun c => absurd c (by decide), fun _ => ?_⟩
      unfold wp_Datum_readNumber_J27
      rw [nI_1]
      exact ⟨_, key⟩
    · subst s2 s3
      refine ⟨fun c => absurd c s1, fun _ => ?_⟩
      unfold wp_Datum_readNumber_J13
      refine ⟨fun _ => ?_, fun c => absurd rfl c⟩
      unfold wp_Datum_readNumber_J27
      exact ⟨_, key⟩
  have mdl : ∀ (K222 : Int32 → Int32 → (Nat → Int32) → (Nat → Int32) → (Nat → Int32) → (Nat → Int32) → (Nat → Int32) → (Nat → Int32) → Prop) (post : Int32 → Int32 → (Nat → Int32) → (Nat → Int32) → (Nat → Int32) → (Nat → Int32) → (Nat → Int32) → (Nat → Int32) → Prop) (fu : Nat), (nI q = nI a → post 0 (nI m) C R N Q S W) → (¬ nI q = nI a → wp_Model_read_J175 (nI n) bank mt (wp_Model_read_L9 (nI n) bank mt K222 post fu) K222 post (nI d) (nI q) sg 1 (nI a) 9 (nI q - nI a) (nI m) C R N Q S W) → wp_Model_read_L9 (nI n) bank mt K222 post (fu + 1) (nI d) (nI p) (nI m) C R N Q S W := fun K222 post fu hk0 hk => by
    unfold wp_Model_read_L9
    rw [nI_clamp (n := p) (by omega)]
    refine ⟨fun c => absurd c (nI_ge hp (by omega)), fun _ => ⟨vp_in_nI (by omega) (by decide), fun c => absurd c y40, fun _ => ⟨fun c => absurd c y41, fun _ => ⟨fun c => absurd c y32, fun _ => ?_⟩⟩⟩⟩
    have key : wp_Model_read_J139 (nI n) bank mt (wp_Model_read_L9 (nI n) bank mt K222 post fu) K222 post (nI d) sg 1 (nI a) (nI m) C R N Q S W := by
      unfold wp_Model_read_J139
      exact q_endD hn hr2 ⟨hk0, fun c => ⟨fun c2 => absurd c2 (by decide), fun _ => hk c⟩⟩
    rcases hs with ⟨s1, s2, s3⟩ | ⟨s1, s2, s3⟩
    · subst s2 s3
      refine ⟨fun _ => ?_, fun c => absurd (ep.symm.trans s1) c⟩
      unfold wp_Model_read_J111
      refine q_mletter (fun c => absurd c hl2) (fun _ => ⟨fun _ => ?_, fun c => absurd rfl c⟩)
      unfold wp_Model_read_J125
      refine ⟨fun c => absurd c (by decide), fun _ => ?_⟩
      rw [nI_1]
      exact key
    · subst s2 s3
      refine ⟨fun c => absurd (ep.trans c) s1, fun _ => ?_⟩
      unfold wp_Model_read_J111
      refine q_mletter (fun c => absurd c hl2) (fun _ => ⟨fun _ => ?_, fun c => absurd rfl c⟩)
      unfold wp_Model_read_J125
      exact ⟨fun _ => key, fun c => absurd rfl c⟩
  by_cases h0 : q = a
  · refine Or.inr ⟨nI m, nI d, nI m, K, V, F, O, P, S, W, C, N, Q, R, OUTS.refl, fun post hk => cls post ?_, fun K222 post fu hk => mdl K222 post fu (fun _ => hk) (fun c => absurd (by rw [h0]) c)⟩
    unfold wp_Datum_readNumber_J73
    refine ⟨fun _ => ?_, fun c => absurd (by rw [h0]; exact Int32.le_refl _) c⟩
    unfold wp_Datum_readNumber_J94 wp_Datum_readNumber_J95
    exact ⟨fun _ => hk, fun c => absurd rfl c⟩
  have hne : ¬ nI q = nI a := fun c => h0 ((nI_eq (a := q) (b := a) (by omega) (by omega)).mp c)
  have hle : ¬ nI q ≤ nI a := nI_ge (by omega) (by omega)
  by_cases h9 : 9 < q - a
  · have h9' : (9 : Int32) < nI (q - a) := nI_lt (a := 9) (b := q - a) h9 (by omega)
    refine Or.inr ⟨nI m, nI d, nI m, K, V, F, O, P, S, W, C, N, Q, R, OUTS.refl, fun post hk => cls post ?_, fun K222 post fu hk => mdl K222 post fu (fun c => absurd c hne) (fun _ => ?_)⟩
    · unfold wp_Datum_readNumber_J73
      rw [hsub]
      refine ⟨fun c => absurd c hle, fun _ => ⟨fun _ => ?_, fun c => absurd h9' c⟩⟩
      unfold wp_Datum_readNumber_J94 wp_Datum_readNumber_J95
      exact ⟨fun _ => hk, fun c => absurd rfl c⟩
    · unfold wp_Model_read_J175
      rw [hsub]
      exact ⟨fun _ => hk, fun c => absurd h9' c⟩
  have h9n : ¬ (9 : Int32) < nI (q - a) := Int32.not_lt.mpr (nI_le (a := q - a) (b := 9) (by omega) (by decide))
  have hv : ∃ v : Int32, (sg = 0 → v = num10 mt a (q - a)) ∧ (¬ sg = 0 → v = -(num10 mt a (q - a))) := by
    by_cases e : sg = 0
    · exact ⟨_, fun _ => rfl, fun c => absurd e c⟩
    · exact ⟨_, fun c => absurd c e, fun _ => rfl⟩
  obtain ⟨v, v0, v1⟩ := hv
  rcases h.1.node (bank := bank) (k := 0) (v := v) (w := v) (by omega) hb hbk (Or.inl ⟨rfl, rfl, rfl, rfl⟩) with ⟨hx0, K', V', F', P', S', W', C', N', R', h1, h2, ho, h3, h4⟩ | ⟨-, h3, h4⟩
  · refine Or.inl ⟨q, m + 1, d, K', V', F', O, P', S', W', C', N', Q, R', by omega, hqn, by omega, h.leaf h2 h1 (by omega) (by omega) (by decide) (fun c => absurd c (by decide)) hx0, ho, fun post hk => cls post ?_, fun K222 post fu hk => mdl K222 post fu (fun c => absurd c hne) (fun _ => ?_)⟩
    · unfold wp_Datum_readNumber_J73
      rw [hsub]
      refine ⟨fun c => absurd c hle, fun _ => ⟨fun c => absurd c h9n, fun _ => ?_⟩⟩
      unfold wp_Datum_readNumber_J95
      rw [enum]
      refine ⟨fun c => absurd c (by decide), fun _ => ⟨fun c => ?_, fun c => ?_⟩⟩
      · rw [← v0 c]
        exact h3 _ ⟨fun c => absurd c (by decide), fun _ => hk⟩
      · rw [← v1 c]
        exact h3 _ ⟨fun c => absurd c (by decide), fun _ => hk⟩
    · unfold wp_Model_read_J175
      rw [hsub]
      refine ⟨fun c => absurd c h9n, fun _ => ⟨fun c => absurd c (by decide), fun _ => ?_⟩⟩
      unfold wp_Model_read_J190
      have fin : wp_Model_node bank (nI m) C R N Q S W (nI d) 0 v (fun r_3 i_nodes_4 f_child_5 f_latest_6 f_next_7 f_sort_8 f_val_9 => ((0 ≤ r_3 → (wp_Model_read_J210 (nI n) bank mt (wp_Model_read_L9 (nI n) bank mt K222 post fu) K222 post (nI d) (nI q) i_nodes_4 f_child_5 f_latest_6 f_next_7 Q f_sort_8 f_val_9)) ∧ (¬ 0 ≤ r_3 → (post (0 : Int32) i_nodes_4 f_child_5 f_latest_6 f_next_7 Q f_sort_8 f_val_9)))) := by
        refine h4 _ ⟨fun _ => ?_, fun c => absurd (nI_pos' (by omega)) c⟩
        unfold wp_Model_read_J210
        exact ⟨fun _ => hk, fun c => absurd (nI_pos' (by have := h.1.2.1; omega)) c⟩
      exact q_worthD (by omega) (by omega) ⟨fun c => by rw [← v0 c]; exact fin, fun c => by rw [← v1 c]; exact fin⟩
  · refine Or.inr ⟨nI m, nI d, nI m, K, V, F, O, P, S, W, C, N, Q, R, OUTS.refl, fun post hk => cls post ?_, fun K222 post fu hk => mdl K222 post fu (fun c => absurd c hne) (fun _ => ?_)⟩
    · unfold wp_Datum_readNumber_J73
      rw [hsub]
      refine ⟨fun c => absurd c hle, fun _ => ⟨fun c => absurd c h9n, fun _ => ?_⟩⟩
      unfold wp_Datum_readNumber_J95
      rw [enum]
      refine ⟨fun c => absurd c (by decide), fun _ => ⟨fun c => ?_, fun c => ?_⟩⟩
      · rw [← v0 c]
        exact h3 _ ⟨fun _ => hk, fun c => absurd rfl c⟩
      · rw [← v1 c]
        exact h3 _ ⟨fun _ => hk, fun c => absurd rfl c⟩
    · unfold wp_Model_read_J175
      rw [hsub]
      refine ⟨fun c => absurd c h9n, fun _ => ⟨fun c => absurd c (by decide), fun _ => ?_⟩⟩
      unfold wp_Model_read_J190
      exact q_worthD (by omega) (by omega) ⟨fun c => by rw [← v0 c]; exact h4 _ ⟨fun c => absurd c (by decide), fun _ => hk⟩, fun c => by rw [← v1 c]; exact h4 _ ⟨fun c => absurd c (by decide), fun _ => hk⟩⟩
/-- one character's step, whatever it is -/
theorem step_any (h : RX b m d p K V F O P S W C N Q R) (hn : n ≤ 200) (hp : p < n) (hm : m ≤ p) (hb : b ≤ 200) (hbk : (200 : Int32) * ((1 : Int32) - bank) = nI b) (het : ∀ k, k < n → ct k = mt k) : stepOK n b p m d bank ct mt K V F O P S W C N Q R := by
  have ep := het p hp
  by_cases x32 : ct p = 32
  · exact step_blank h hn hp hm x32 (ep.symm.trans x32)
  by_cases x40 : ct p = 40
  · exact step_open h hn hp hm hb hbk x40 (ep.symm.trans x40)
  by_cases x41 : ct p = 41
  · exact step_close h hn hp hm x41 (ep.symm.trans x41)
  by_cases hl : ltr (ct p)
  · exact step_name h hn hp hm hb hbk het hl
  by_cases x45 : ct p = 45
  · exact step_num h hn hp hm hb hbk het hl x32 x40 x41 (Or.inl ⟨x45, rfl, rfl⟩)
  · exact step_num h hn hp hm hb hbk het hl x32 x40 x41 (Or.inr ⟨x45, rfl, rfl⟩)
end Step2
/-! the whole text is read, or refused, on both sides -/
section Loop
variable {n b : Nat} {bank : Int32} {ct mt : Nat → Int32}
theorem read_loop (hn : n ≤ 200) (hb : b ≤ 200) (hbk : (200 : Int32) * ((1 : Int32) - bank) = nI b) (het : ∀ k, k < n → ct k = mt k) : ∀ (r p m d : Nat) (K V F O P S W C N Q R : Nat → Int32), n ≤ p + r → p ≤ n → m ≤ p → RX b m d p K V F O P S W C N Q R →
    (∃ (m' d' : Nat) (K' V' F' O' P' S' W' C' N' Q' R' : Nat → Int32), RX b m' d' n K' V' F' O' P' S' W' C' N' Q' R' ∧ OUTS b S W C N S' W' C' N' ∧
      (∀ (K40 : Int32 → Int32 → (Nat → Int32) → (Nat → Int32) → (Nat → Int32) → (Nat → Int32) → (Nat → Int32) → Prop) (post : Int32 → Int32 → Int32 → (Nat → Int32) → (Nat → Int32) → (Nat → Int32) → (Nat → Int32) → (Nat → Int32) → Prop), K40 (nI m') (nI d') F' K' P' O' V' → ∃ fu, wp_Datum_read_L12 ct K40 post fu (nI n) (nI p) (nI m) (nI d) F K P O V) ∧
      (∀ (K222 : Int32 → Int32 → (Nat → Int32) → (Nat → Int32) → (Nat → Int32) → (Nat → Int32) → (Nat → Int32) → (Nat → Int32) → Prop) (post : Int32 → Int32 → (Nat → Int32) → (Nat → Int32) → (Nat → Int32) → (Nat → Int32) → (Nat → Int32) → (Nat → Int32) → Prop), K222 (nI d') (nI m') C' R' N' Q' S' W' → ∃ fu, wp_Model_read_L9 (nI n) bank mt K222 post fu (nI d) (nI p) (nI m) C R N Q S W)) ∨
    (∃ (c1 c2 e1 : Int32) (K' V' F' O' P' S' W' C' N' Q' R' : Nat → Int32), OUTS b S W C N S' W' C' N' ∧
      (∀ (K40 : Int32 → Int32 → (Nat → Int32) → (Nat → Int32) → (Nat → Int32) → (Nat → Int32) → (Nat → Int32) → Prop) (post : Int32 → Int32 → Int32 → (Nat → Int32) → (Nat → Int32) → (Nat → Int32) → (Nat → Int32) → (Nat → Int32) → Prop), post 0 c1 c2 F' K' P' O' V' → ∃ fu, wp_Datum_read_L12 ct K40 post fu (nI n) (nI p) (nI m) (nI d) F K P O V) ∧
      (∀ (K222 : Int32 → Int32 → (Nat → Int32) → (Nat → Int32) → (Nat → Int32) → (Nat → Int32) → (Nat → Int32) → (Nat → Int32) → Prop) (post : Int32 → Int32 → (Nat → Int32) → (Nat → Int32) → (Nat → Int32) → (Nat → Int32) → (Nat → Int32) → (Nat → Int32) → Prop), post 0 e1 C' R' N' Q' S' W' → ∃ fu, wp_Model_read_L9 (nI n) bank mt K222 post fu (nI d) (nI p) (nI m) C R N Q S W)) := by
  intro r
  induction r with
  | zero =>
    intro p m d K V F O P S W C N Q R h1 h2 hm h
    have e : p = n := by omega
    subst e
    refine Or.inl ⟨m, d, K, V, F, O, P, S, W, C, N, Q, R, h, OUTS.refl, fun K40 post hk => ⟨1, ?_⟩, fun K222 post hk => ⟨1, ?_⟩⟩
    · exact ⟨fun _ => hk, fun c => absurd (Int32.le_refl _) c⟩
    · exact ⟨fun _ => hk, fun c => absurd (Int32.le_refl _) c⟩
  | succ r ih =>
    intro p m d K V F O P S W C N Q R h1 h2 hm h
    by_cases hp : p < n
    · have nle : ¬ nI n ≤ nI p := nI_ge hp (by omega)
      rcases step_any h hn hp hm hb hbk het with ⟨q, m1, d1, K1, V1, F1, O1, P1, S1, W1, C1, N1, Q1, R1, q1, q2, q3, g, go, gc, gm⟩ | ⟨c1, c2, e1, K1, V1, F1, O1, P1, S1, W1, C1, N1, Q1, R1, go, gc, gm⟩
      · have lt : nI p < nI q := nI_lt q1 (by omega)
        rcases ih q m1 d1 K1 V1 F1 O1 P1 S1 W1 C1 N1 Q1 R1 (by omega) q2 q3 g with ⟨m', d', K', V', F', O', P', S', W', C', N', Q', R', g1, g0, g2, g3⟩ | ⟨c1, c2, e1, K', V', F', O', P', S', W', C', N', Q', R', g0, g2, g3⟩
        · refine Or.inl ⟨m', d', K', V', F', O', P', S', W', C', N', Q', R', g1, go.trans g0, fun K40 post hk => ?_, fun K222 post hk => ?_⟩
          · obtain ⟨fu, hf⟩ := g2 K40 post hk
            exact ⟨fu + 1, fun c => absurd c nle, fun _ => gc _ ⟨fun _ => hf, fun c => absurd lt c⟩⟩
          · obtain ⟨fu, hf⟩ := g3 K222 post hk
            exact ⟨fu + 1, gm K222 post fu hf⟩
        · refine Or.inr ⟨c1, c2, e1, K', V', F', O', P', S', W', C', N', Q', R', go.trans g0, fun K40 post hk => ?_, fun K222 post hk => ?_⟩
          · obtain ⟨fu, hf⟩ := g2 K40 post hk
            exact ⟨fu + 1, fun c => absurd c nle, fun _ => gc _ ⟨fun _ => hf, fun c => absurd lt c⟩⟩
          · obtain ⟨fu, hf⟩ := g3 K222 post hk
            exact ⟨fu + 1, gm K222 post fu hf⟩
      · have nlt : ¬ nI p < -1 := fun c => absurd (Int32.lt_trans c (by decide : (-1 : Int32) < 0)) (Int32.not_lt.mpr (nI_pos' (by omega)))
        refine Or.inr ⟨c1, c2, e1, K1, V1, F1, O1, P1, S1, W1, C1, N1, Q1, R1, go, fun K40 post hk => ⟨1, fun c => absurd c nle, fun _ => gc _ ⟨fun c => absurd c nlt, fun _ => hk⟩⟩, fun K222 post hk => ⟨1, gm K222 post 0 hk⟩⟩
    · have e : p = n := by omega
      subst e
      refine Or.inl ⟨m, d, K, V, F, O, P, S, W, C, N, Q, R, h, OUTS.refl, fun K40 post hk => ⟨1, ?_⟩, fun K222 post hk => ⟨1, ?_⟩⟩
      · exact ⟨fun _ => hk, fun c => absurd (Int32.le_refl _) c⟩
      · exact ⟨fun _ => hk, fun c => absurd (Int32.le_refl _) c⟩
/-- both read one expression, into tables that tell the same; or both refuse -/
theorem read_both (hn : n ≤ 200) (hb : b ≤ 200) (hbk : (200 : Int32) * ((1 : Int32) - bank) = nI b) (het : ∀ k, k < n → ct k = mt k) (cc co nd : Int32) (K V F O P S W C N Q R : Nat → Int32) :
    (∃ (m : Nat) (K' V' F' O' P' S' W' C' N' Q' R' : Nat → Int32), 0 < m ∧ RX b m 0 n K' V' F' O' P' S' W' C' N' Q' R' ∧ OUTS b S W C N S' W' C' N' ∧
      (∀ post : Int32 → Int32 → Int32 → (Nat → Int32) → (Nat → Int32) → (Nat → Int32) → (Nat → Int32) → (Nat → Int32) → Prop, post 1 (nI m) 0 F' K' P' O' V' → wp_Datum_read cc co F K P O V ct (nI n) post) ∧
      (∀ post : Int32 → Int32 → (Nat → Int32) → (Nat → Int32) → (Nat → Int32) → (Nat → Int32) → (Nat → Int32) → (Nat → Int32) → Prop, post 1 (nI m) C' R' N' Q' S' W' → wp_Model_read (nI n) bank nd C R N Q S mt W post)) ∨
    (∃ (c1 c2 e1 : Int32) (K' V' F' O' P' S' W' C' N' Q' R' : Nat → Int32), OUTS b S W C N S' W' C' N' ∧
      (∀ post : Int32 → Int32 → Int32 → (Nat → Int32) → (Nat → Int32) → (Nat → Int32) → (Nat → Int32) → (Nat → Int32) → Prop, post 0 c1 c2 F' K' P' O' V' → wp_Datum_read cc co F K P O V ct (nI n) post) ∧
      (∀ post : Int32 → Int32 → (Nat → Int32) → (Nat → Int32) → (Nat → Int32) → (Nat → Int32) → (Nat → Int32) → (Nat → Int32) → Prop, post 0 e1 C' R' N' Q' S' W' → wp_Model_read (nI n) bank nd C R N Q S mt W post)) := by
  rcases read_loop hn hb hbk het n 0 0 0 K V F O P S W C N Q R (by omega) (by omega) (by omega) RX.nil with ⟨m', d', K', V', F', O', P', S', W', C', N', Q', R', g1, g0, g2, g3⟩ | ⟨c1, c2, e1, K', V', F', O', P', S', W', C', N', Q', R', g0, g2, g3⟩
  · have bm := g1.1.1
    have bd := g1.1.2.1
    by_cases hm : 0 < m'
    · have nle : ¬ nI m' ≤ 0 := nI_nle hm (by omega)
      by_cases hd : d' = 0
      · subst hd
        refine Or.inl ⟨m', K', V', F', O', P', S', W', C', N', Q', R', hm, g1, g0, fun post hk => ?_, fun post hk => ?_⟩
        · exact g2 _ post ⟨fun c => absurd c nle, fun _ => ⟨fun _ => hk, fun c => absurd rfl c⟩⟩
        · exact g3 _ post ⟨fun _ => ⟨fun c => absurd c nle, fun _ => hk⟩, fun c => absurd rfl c⟩
      · have ne : ¬ nI d' = 0 := nI_ne0 (by omega) (by omega)
        refine Or.inr ⟨nI m', nI d', nI m', K', V', F', O', P', S', W', C', N', Q', R', g0, fun post hk => ?_, fun post hk => ?_⟩
        · exact g2 _ post ⟨fun c => absurd c nle, fun _ => ⟨fun c => absurd c ne, fun _ => hk⟩⟩
        · exact g3 _ post ⟨fun c => absurd c ne, fun _ => hk⟩
    · have e : m' = 0 := by omega
      subst e
      refine Or.inr ⟨nI 0, nI d', nI 0, K', V', F', O', P', S', W', C', N', Q', R', g0, fun post hk => ?_, fun post hk => ?_⟩
      · exact g2 _ post ⟨fun _ => hk, fun c => absurd (by decide) c⟩
      · exact g3 _ post ⟨fun _ => ⟨fun _ => hk, fun c => absurd (by decide) c⟩, fun _ => hk⟩
  · exact Or.inr ⟨c1, c2, e1, K', V', F', O', P', S', W', C', N', Q', R', g0, fun post hk => g2 _ post hk, fun post hk => g3 _ post hk⟩
end Loop
