/-! which form a list begins with -/
theorem q_formOf_hit {fn K V : Nat → Int32} {j i : Nat} {post : Int32 → Prop} (hj : j < 200) (hK : K j = 1) (hi : i < 16) (hv : fn i = V j) (hn : ∀ k, k < i → fn k ≠ V j) (hk : post (nI i)) : wp_Translator_formOf fn K V (nI j) post := by
  have ej : (nI j).toNatClampNeg = j := nI_clamp (by omega)
  have vj : vp_in (nI j) 200 := vp_in_nI hj (by decide)
  have key : ∀ r k, k + r = i → wp_Translator_formOf_L16 fn K V post (r + 1) (nI j) (nI k) := by
    intro r
    induction r with
    | zero =>
      intro k e
      have : k = i := by omega
      subst this
      refine ⟨fun c => absurd c (nI_ge (a := k) (b := 16) hi (by decide)), fun _ => ⟨vp_in_nI hi (by decide), vj, ?_⟩⟩
      rw [ej, nI_clamp (n := k) (by omega)]
      exact ⟨fun _ => hk, fun c => absurd hv c⟩
    | succ r ih =>
      intro k e
      refine ⟨fun c => absurd c (nI_ge (a := k) (b := 16) (by omega) (by decide)), fun _ => ⟨vp_in_nI (by omega) (by decide), vj, ?_⟩⟩
      rw [ej, nI_clamp (n := k) (by omega), nI_1]
      exact ⟨fun c => absurd c (hn k (by omega)), fun _ => ih (k + 1) (by omega)⟩
  unfold wp_Translator_formOf wp_Datum_kindOf
  rw [ej]
  exact ⟨vj, fun _ => ⟨_, key i 0 (by omega)⟩, fun c => absurd hK c⟩
theorem q_formOf_miss {fn K V : Nat → Int32} {j : Nat} {post : Int32 → Prop} (hj : j < 200) (hn : K j = 1 → ∀ k, k < 16 → fn k ≠ V j) (hk : post (-1)) : wp_Translator_formOf fn K V (nI j) post := by
  have ej : (nI j).toNatClampNeg = j := nI_clamp (by omega)
  have vj : vp_in (nI j) 200 := vp_in_nI hj (by decide)
  have key : K j = 1 → ∀ r k, k + r = 16 → wp_Translator_formOf_L16 fn K V post (r + 1) (nI j) (nI k) := by
    intro hK r
    induction r with
    | zero =>
      intro k e
      have : k = 16 := by omega
      subst this
      exact ⟨fun _ => hk, fun c => absurd (by decide) c⟩
    | succ r ih =>
      intro k e
      refine ⟨fun c => absurd c (nI_ge (a := k) (b := 16) (by omega) (by decide)), fun _ => ⟨vp_in_nI (by omega) (by decide), vj, ?_⟩⟩
      rw [ej, nI_clamp (n := k) (by omega), nI_1]
      exact ⟨fun c => absurd c (hn hK k (by omega)), fun _ => ih (k + 1) (by omega)⟩
  unfold wp_Translator_formOf wp_Datum_kindOf
  rw [ej]
  exact ⟨vj, fun hK => ⟨_, key hK 16 0 (by omega)⟩, fun _ => hk⟩
theorem q_form_hit {C fo S W : Nat → Int32} {k c w : Nat} {post : Int32 → Prop} (hkn : k < 400) (hc : C k = nI c) (hcn : c < 400) (hS : S c = 1) (hw : w < 16) (hv : W c = fo w) (hn : ∀ x, x < w → W c ≠ fo x) (hk : post (nI w)) : wp_Model_form C fo S W (nI k) post := by
  have ec : (nI c).toNatClampNeg = c := nI_clamp (by omega)
  have vc : vp_in (nI c) 400 := vp_in_nI hcn (by decide)
  have key : ∀ r x, x + r = w → wp_Model_form_L9 C fo S W post (r + 1) (nI c) (nI x) := by
    intro r
    induction r with
    | zero =>
      intro x e
      have : x = w := by omega
      subst this
      refine ⟨fun z => absurd z (nI_ge (a := x) (b := 16) hw (by decide)), fun _ => ⟨vc, ?_⟩⟩
      rw [ec, nI_clamp (n := x) (by omega)]
      exact ⟨fun _ => ⟨vc, vp_in_nI hw (by decide), fun _ => hk, fun z => absurd hv z⟩, fun z => absurd hS z⟩
    | succ r ih =>
      intro x e
      refine ⟨fun z => absurd z (nI_ge (a := x) (b := 16) (by omega) (by decide)), fun _ => ⟨vc, ?_⟩⟩
      unfold wp_Model_form_J42
      rw [ec, nI_clamp (n := x) (by omega), nI_1]
      exact ⟨fun _ => ⟨vc, vp_in_nI (by omega) (by decide), fun z => absurd z (hn x (by omega)), fun _ => ih (x + 1) (by omega)⟩, fun z => absurd hS z⟩
  unfold wp_Model_form
  rw [nI_clamp (n := k) (by omega), hc]
  exact ⟨vp_in_nI hkn (by decide), _, key w 0 (by omega)⟩
theorem q_form_miss {C fo S W : Nat → Int32} {k c : Nat} {post : Int32 → Prop} (hkn : k < 400) (hc : C k = nI c) (hcn : c < 400) (hn : S c = 1 → ∀ x, x < 16 → W c ≠ fo x) (hk : post (-1)) : wp_Model_form C fo S W (nI k) post := by
  have ec : (nI c).toNatClampNeg = c := nI_clamp (by omega)
  have vc : vp_in (nI c) 400 := vp_in_nI hcn (by decide)
  have key : ∀ r x, x + r = 16 → wp_Model_form_L9 C fo S W post (r + 1) (nI c) (nI x) := by
    intro r
    induction r with
    | zero =>
      intro x e
      have : x = 16 := by omega
      subst this
      exact ⟨fun _ => hk, fun z => absurd (by decide) z⟩
    | succ r ih =>
      intro x e
      refine ⟨fun z => absurd z (nI_ge (a := x) (b := 16) (by omega) (by decide)), fun _ => ⟨vc, ?_⟩⟩
      unfold wp_Model_form_J42
      rw [ec, nI_clamp (n := x) (by omega), nI_1]
      exact ⟨fun hS => ⟨vc, vp_in_nI (by omega) (by decide), fun z => absurd z (hn hS x (by omega)), fun _ => ih (x + 1) (by omega)⟩, fun _ => ih (x + 1) (by omega)⟩
  unfold wp_Model_form
  rw [nI_clamp (n := k) (by omega), hc]
  exact ⟨vp_in_nI hkn (by decide), _, key 16 0 (by omega)⟩
set_option maxRecDepth 100000 in
theorem form_dist : (∀ i, i < 16 → ∀ k, k < i → formC.getD k 0 ≠ formC.getD i 0) ∧ (∀ i, i < 16 → ∀ k, k < i → formM.getD i 0 ≠ formM.getD k 0) ∧ ∀ w, w < 16 → ∃ i, i < 16 ∧ fpi.getD i 0 = w := by
  refine ⟨by decide +kernel, by decide +kernel, fun w hw => ?_⟩
  have h : ∀ w, w < 16 → fpi.getD (fpi.idxOf w) 0 = w ∧ fpi.idxOf w < 16 := by decide +kernel
  exact ⟨_, (h w hw).2, (h w hw).1⟩
/-- the form of a list whose first part is j: the same on both sides, or none on both -/
theorem form_rel {b m j k : Nat} {K V C S W fo : Nat → Int32} (hb : b ≤ 200) (hm : m ≤ 200) (hj : j < m) (hnd : ndV b m (K j) (V j) (S (b + j)) (W (b + j)) (C (b + j))) (hkn : k < 400) (hc : C k = nI (b + j)) (hfo : ∀ w, w < 16 → fo w = formM.getD w 0) :
    (∃ i, i < 16 ∧ K j = 1 ∧ V j = formC.getD i 0 ∧ (∀ post : Int32 → Prop, post (nI i) → wp_Translator_formOf (fun x => formC.getD x 0) K V (nI j) post) ∧ (∀ post : Int32 → Prop, post (nI (fpi.getD i 0)) → wp_Model_form C fo S W (nI k) post)) ∨
    ((∀ post : Int32 → Prop, post (-1) → wp_Translator_formOf (fun x => formC.getD x 0) K V (nI j) post) ∧ (∀ post : Int32 → Prop, post (-1) → wp_Model_form C fo S W (nI k) post)) := by
  obtain ⟨d1, d2, d3⟩ := form_dist
  rcases hnd with ⟨h1, h2, -⟩ | ⟨h1, h2, hn, -⟩ | ⟨h1, h2, -⟩
  · refine Or.inr ⟨fun post hk => q_formOf_miss (by omega) (fun c => absurd (h1.symm.trans c) (by decide)) hk, fun post hk => q_form_miss hkn hc (by omega) (fun c => absurd (h2.symm.trans c) (by decide)) hk⟩
  · by_cases hx : ∃ i, i < 16 ∧ V j = formC.getD i 0
    · obtain ⟨i, hi, e⟩ := hx
      obtain ⟨-, -, f3, -⟩ := form_names i hi
      have ew : W (b + j) = formM.getD (fpi.getD i 0) 0 := (nameR_eq hn (form_both hi)).mp e
      refine Or.inl ⟨i, hi, h1, e, fun post hk => q_formOf_hit (by omega) h1 hi e.symm (fun x hx => ?_) hk, fun post hk => q_form_hit hkn hc (by omega) h2 f3 (by rw [hfo _ f3]; exact ew) (fun x hx => ?_) hk⟩
      · rw [e]
        exact d1 i hi x hx
      · rw [hfo x (by omega), ew]
        exact d2 _ f3 x hx
    · refine Or.inr ⟨fun post hk => q_formOf_miss (by omega) (fun _ x hx2 e => hx ⟨x, hx2, e.symm⟩) hk, fun post hk => q_form_miss hkn hc (by omega) (fun _ w hw e => ?_) hk⟩
      obtain ⟨i, hi, ei⟩ := d3 w hw
      rw [hfo w hw, ← ei] at e
      exact hx ⟨i, hi, (nameR_eq hn (form_both hi)).mpr e⟩
  · refine Or.inr ⟨fun post hk => q_formOf_miss (by omega) (fun c => absurd (h1.symm.trans c) (by decide)) hk, fun post hk => q_form_miss hkn hc (by omega) (fun c => absurd (h2.symm.trans c) (by decide)) hk⟩
