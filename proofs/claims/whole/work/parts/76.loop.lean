/-! the whole text is read, or refused, on both sides -/
section Loop
variable {n b : Nat} {bank : Int32} {ct mt : Nat → Int32}
theorem read_loop (hn : n ≤ 200) (hb : b ≤ 200) (hbk : (200 : Int32) * ((1 : Int32) - bank) = nI b) (het : ∀ k, k < n → ct k = mt k) : ∀ (r p m d : Nat) (K V F O P S W C N Q R : Nat → Int32), n ≤ p + r → p ≤ n → m ≤ p → RX b m d p K V F O P S W C N Q R →
    (∃ (m' d' : Nat) (K' V' F' O' P' S' W' C' N' Q' R' : Nat → Int32), RX b m' d' n K' V' F' O' P' S' W' C' N' Q' R' ∧
      (∀ (K40 : Int32 → Int32 → (Nat → Int32) → (Nat → Int32) → (Nat → Int32) → (Nat → Int32) → (Nat → Int32) → Prop) (post : Int32 → Int32 → Int32 → (Nat → Int32) → (Nat → Int32) → (Nat → Int32) → (Nat → Int32) → (Nat → Int32) → Prop), K40 (nI m') (nI d') F' K' P' O' V' → ∃ fu, wp_Datum_read_L12 ct K40 post fu (nI n) (nI p) (nI m) (nI d) F K P O V) ∧
      (∀ (K222 : Int32 → Int32 → (Nat → Int32) → (Nat → Int32) → (Nat → Int32) → (Nat → Int32) → (Nat → Int32) → (Nat → Int32) → Prop) (post : Int32 → Int32 → (Nat → Int32) → (Nat → Int32) → (Nat → Int32) → (Nat → Int32) → (Nat → Int32) → (Nat → Int32) → Prop), K222 (nI d') (nI m') C' R' N' Q' S' W' → ∃ fu, wp_Model_read_L9 (nI n) bank mt K222 post fu (nI d) (nI p) (nI m) C R N Q S W)) ∨
    (∃ (c1 c2 e1 : Int32) (K' V' F' O' P' S' W' C' N' Q' R' : Nat → Int32),
      (∀ (K40 : Int32 → Int32 → (Nat → Int32) → (Nat → Int32) → (Nat → Int32) → (Nat → Int32) → (Nat → Int32) → Prop) (post : Int32 → Int32 → Int32 → (Nat → Int32) → (Nat → Int32) → (Nat → Int32) → (Nat → Int32) → (Nat → Int32) → Prop), post 0 c1 c2 F' K' P' O' V' → ∃ fu, wp_Datum_read_L12 ct K40 post fu (nI n) (nI p) (nI m) (nI d) F K P O V) ∧
      (∀ (K222 : Int32 → Int32 → (Nat → Int32) → (Nat → Int32) → (Nat → Int32) → (Nat → Int32) → (Nat → Int32) → (Nat → Int32) → Prop) (post : Int32 → Int32 → (Nat → Int32) → (Nat → Int32) → (Nat → Int32) → (Nat → Int32) → (Nat → Int32) → (Nat → Int32) → Prop), post 0 e1 C' R' N' Q' S' W' → ∃ fu, wp_Model_read_L9 (nI n) bank mt K222 post fu (nI d) (nI p) (nI m) C R N Q S W)) := by
  intro r
  induction r with
  | zero =>
    intro p m d K V F O P S W C N Q R h1 h2 hm h
    have e : p = n := by omega
    subst e
    refine Or.inl ⟨m, d, K, V, F, O, P, S, W, C, N, Q, R, h, fun K40 post hk => ⟨1, ?_⟩, fun K222 post hk => ⟨1, ?_⟩⟩
    · exact ⟨fun _ => hk, fun c => absurd (Int32.le_refl _) c⟩
    · exact ⟨fun _ => hk, fun c => absurd (Int32.le_refl _) c⟩
  | succ r ih =>
    intro p m d K V F O P S W C N Q R h1 h2 hm h
    by_cases hp : p < n
    · have nle : ¬ nI n ≤ nI p := nI_ge hp (by omega)
      rcases step_any h hn hp hm hb hbk het with ⟨q, m1, d1, K1, V1, F1, O1, P1, S1, W1, C1, N1, Q1, R1, q1, q2, q3, g, gc, gm⟩ | ⟨c1, c2, e1, K1, V1, F1, O1, P1, S1, W1, C1, N1, Q1, R1, gc, gm⟩
      · have lt : nI p < nI q := nI_lt q1 (by omega)
        rcases ih q m1 d1 K1 V1 F1 O1 P1 S1 W1 C1 N1 Q1 R1 (by omega) q2 q3 g with ⟨m', d', K', V', F', O', P', S', W', C', N', Q', R', g1, g2, g3⟩ | ⟨c1, c2, e1, K', V', F', O', P', S', W', C', N', Q', R', g2, g3⟩
        · refine Or.inl ⟨m', d', K', V', F', O', P', S', W', C', N', Q', R', g1, fun K40 post hk => ?_, fun K222 post hk => ?_⟩
          · obtain ⟨fu, hf⟩ := g2 K40 post hk
            exact ⟨fu + 1, fun c => absurd c nle, fun _ => gc _ ⟨fun _ => hf, fun c => absurd lt c⟩⟩
          · obtain ⟨fu, hf⟩ := g3 K222 post hk
            exact ⟨fu + 1, gm K222 post fu hf⟩
        · refine Or.inr ⟨c1, c2, e1, K', V', F', O', P', S', W', C', N', Q', R', fun K40 post hk => ?_, fun K222 post hk => ?_⟩
          · obtain ⟨fu, hf⟩ := g2 K40 post hk
            exact ⟨fu + 1, fun c => absurd c nle, fun _ => gc _ ⟨fun _ => hf, fun c => absurd lt c⟩⟩
          · obtain ⟨fu, hf⟩ := g3 K222 post hk
            exact ⟨fu + 1, gm K222 post fu hf⟩
      · have nlt : ¬ nI p < -1 := fun c => absurd (Int32.lt_trans c (by decide : (-1 : Int32) < 0)) (Int32.not_lt.mpr (nI_pos' (by omega)))
        refine Or.inr ⟨c1, c2, e1, K1, V1, F1, O1, P1, S1, W1, C1, N1, Q1, R1, fun K40 post hk => ⟨1, fun c => absurd c nle, fun _ => gc _ ⟨fun c => absurd c nlt, fun _ => hk⟩⟩, fun K222 post hk => ⟨1, gm K222 post 0 hk⟩⟩
    · have e : p = n := by omega
      subst e
      refine Or.inl ⟨m, d, K, V, F, O, P, S, W, C, N, Q, R, h, fun K40 post hk => ⟨1, ?_⟩, fun K222 post hk => ⟨1, ?_⟩⟩
      · exact ⟨fun _ => hk, fun c => absurd (Int32.le_refl _) c⟩
      · exact ⟨fun _ => hk, fun c => absurd (Int32.le_refl _) c⟩
/-- both read one expression, into tables that tell the same; or both refuse -/
theorem read_both (hn : n ≤ 200) (hb : b ≤ 200) (hbk : (200 : Int32) * ((1 : Int32) - bank) = nI b) (het : ∀ k, k < n → ct k = mt k) (cc co nd : Int32) (K V F O P S W C N Q R : Nat → Int32) :
    (∃ (m : Nat) (K' V' F' O' P' S' W' C' N' Q' R' : Nat → Int32), 0 < m ∧ RX b m 0 n K' V' F' O' P' S' W' C' N' Q' R' ∧
      (∀ post : Int32 → Int32 → Int32 → (Nat → Int32) → (Nat → Int32) → (Nat → Int32) → (Nat → Int32) → (Nat → Int32) → Prop, post 1 (nI m) 0 F' K' P' O' V' → wp_Datum_read cc co F K P O V ct (nI n) post) ∧
      (∀ post : Int32 → Int32 → (Nat → Int32) → (Nat → Int32) → (Nat → Int32) → (Nat → Int32) → (Nat → Int32) → (Nat → Int32) → Prop, post 1 (nI m) C' R' N' Q' S' W' → wp_Model_read (nI n) bank nd C R N Q S mt W post)) ∨
    (∃ (c1 c2 e1 : Int32) (K' V' F' O' P' S' W' C' N' Q' R' : Nat → Int32),
      (∀ post : Int32 → Int32 → Int32 → (Nat → Int32) → (Nat → Int32) → (Nat → Int32) → (Nat → Int32) → (Nat → Int32) → Prop, post 0 c1 c2 F' K' P' O' V' → wp_Datum_read cc co F K P O V ct (nI n) post) ∧
      (∀ post : Int32 → Int32 → (Nat → Int32) → (Nat → Int32) → (Nat → Int32) → (Nat → Int32) → (Nat → Int32) → (Nat → Int32) → Prop, post 0 e1 C' R' N' Q' S' W' → wp_Model_read (nI n) bank nd C R N Q S mt W post)) := by
  rcases read_loop hn hb hbk het n 0 0 0 K V F O P S W C N Q R (by omega) (by omega) (by omega) RX.nil with ⟨m', d', K', V', F', O', P', S', W', C', N', Q', R', g1, g2, g3⟩ | ⟨c1, c2, e1, K', V', F', O', P', S', W', C', N', Q', R', g2, g3⟩
  · have bm := g1.1.1
    have bd := g1.1.2.1
    by_cases hm : 0 < m'
    · have nle : ¬ nI m' ≤ 0 := nI_nle hm (by omega)
      by_cases hd : d' = 0
      · subst hd
        refine Or.inl ⟨m', K', V', F', O', P', S', W', C', N', Q', R', hm, g1, fun post hk => ?_, fun post hk => ?_⟩
        · exact g2 _ post ⟨fun c => absurd c nle, fun _ => ⟨fun _ => hk, fun c => absurd rfl c⟩⟩
        · exact g3 _ post ⟨fun _ => ⟨fun c => absurd c nle, fun _ => hk⟩, fun c => absurd rfl c⟩
      · have ne : ¬ nI d' = 0 := nI_ne0 (by omega) (by omega)
        refine Or.inr ⟨nI m', nI d', nI m', K', V', F', O', P', S', W', C', N', Q', R', fun post hk => ?_, fun post hk => ?_⟩
        · exact g2 _ post ⟨fun c => absurd c nle, fun _ => ⟨fun c => absurd c ne, fun _ => hk⟩⟩
        · exact g3 _ post ⟨fun c => absurd c ne, fun _ => hk⟩
    · have e : m' = 0 := by omega
      subst e
      refine Or.inr ⟨nI 0, nI d', nI 0, K', V', F', O', P', S', W', C', N', Q', R', fun post hk => ?_, fun post hk => ?_⟩
      · exact g2 _ post ⟨fun _ => hk, fun c => absurd (by decide) c⟩
      · exact g3 _ post ⟨fun _ => ⟨fun _ => hk, fun c => absurd (by decide) c⟩, fun _ => hk⟩
  · exact Or.inr ⟨c1, c2, e1, K', V', F', O', P', S', W', C', N', Q', R', fun post hk => g2 _ post hk, fun post hk => g3 _ post hk⟩
end Loop
