/-! characters, and the text: put and erase of both -/
def dig (x : Int32) : Prop := ¬ x < 48 ∧ ¬ 57 < x
def ltr (x : Int32) : Prop := ¬ x < 97 ∧ ¬ 122 < x
def txc (x : Int32) : Prop := x = 32 ∨ x = 40 ∨ x = 41 ∨ x = 45 ∨ dig x ∨ ltr x
theorem q_isDigit {x : Int32} {post : Int32 → Prop} (h1 : dig x → post 1) (h0 : ¬ dig x → post 0) : wp_Secd_isDigit x post :=
  ⟨fun c => h0 (fun d => d.1 c), fun c => ⟨fun c2 => h0 (fun d => d.2 c2), fun c2 => h1 ⟨c, c2⟩⟩⟩
theorem q_isLetter {x : Int32} {post : Int32 → Prop} (h1 : ltr x → post 1) (h0 : ¬ ltr x → post 0) : wp_Secd_isLetter x post :=
  ⟨fun c => h0 (fun d => d.1 c), fun c => ⟨fun c2 => h0 (fun d => d.2 c2), fun c2 => h1 ⟨c, c2⟩⟩⟩
theorem q_mdigit {x : Int32} {post : Int32 → Prop} (h1 : dig x → post 1) (h0 : ¬ dig x → post 0) : wp_Model_digit x post :=
  ⟨fun c => h0 (fun d => d.1 c), fun c => ⟨fun c2 => h0 (fun d => d.2 c2), fun c2 => h1 ⟨c, c2⟩⟩⟩
theorem q_mletter {x : Int32} {post : Int32 → Prop} (h1 : ltr x → post 1) (h0 : ¬ ltr x → post 0) : wp_Model_letter x post :=
  ⟨fun c => h0 (fun d => d.1 c), fun c => ⟨fun c2 => h0 (fun d => d.2 c2), fun c2 => h1 ⟨c, c2⟩⟩⟩
theorem q_isText {x : Int32} {post : Int32 → Prop} (h1 : txc x → post 1) (h0 : ¬ txc x → post 0) : wp_Secd_isTextCharacter x post := by
  refine ⟨fun c => h1 (Or.inl c), fun c1 => ⟨fun c => h1 (Or.inr (Or.inl c)), fun c2 => ⟨fun c => h1 (Or.inr (Or.inr (Or.inl c))), fun c3 => ⟨fun c => h1 (Or.inr (Or.inr (Or.inr (Or.inl c)))), fun c4 => ?_⟩⟩⟩⟩
  refine q_isDigit (fun d => ⟨fun z => absurd z (by decide), fun _ => h1 (Or.inr (Or.inr (Or.inr (Or.inr (Or.inl d)))))⟩) (fun d => ⟨fun _ => ?_, fun z => absurd rfl z⟩)
  refine q_isLetter (fun t => ⟨fun z => absurd z (by decide), fun _ => h1 (Or.inr (Or.inr (Or.inr (Or.inr (Or.inr t)))))⟩) (fun t => ⟨fun _ => h0 ?_, fun z => absurd rfl z⟩)
  rintro (h | h | h | h | h | h)
  · exact c1 h
  · exact c2 h
  · exact c3 h
  · exact c4 h
  · exact d h
  · exact t h
theorem txc_nat {x : Int32} (h : txc x) : ∃ k : Nat, k < 128 ∧ x = nI k := by
  rcases h with h | h | h | h | h | h
  · exact ⟨32, by decide, h⟩
  · exact ⟨40, by decide, h⟩
  · exact ⟨41, by decide, h⟩
  · exact ⟨45, by decide, h⟩
  · obtain ⟨j, hj, e⟩ := nI_of2 (x := x) (M := 57) (n := 57) (by decide) (fun z => h.1 (Int32.lt_trans z (by decide))) (Int32.not_lt.mp h.2)
    exact ⟨j, by omega, e⟩
  · obtain ⟨j, hj, e⟩ := nI_of2 (x := x) (M := 122) (n := 122) (by decide) (fun z => h.1 (Int32.lt_trans z (by decide))) (Int32.not_lt.mp h.2)
    exact ⟨j, by omega, e⟩
theorem txc_char {x : Int32} (h : txc x) : vp_nar .char ((x.toUInt32 % 65536).toInt32) = x := by
  obtain ⟨k, hk, rfl⟩ := txc_nat h
  rw [pk_vc, pk_char, pk_tn (by omega), Nat.mod_eq_of_lt (by omega)]
theorem q_put {n : Nat} {len : Int32} {ct : Nat → Int32} {x : Int32} {post : Int32 → Int32 → (Nat → Int32) → Prop} (hn : n ≤ 200) (hl : len = nI n) (h1 : txc x → n < 200 → post 1 (nI (n + 1)) (upd ct n x)) (h0 : ¬ (txc x ∧ n < 200) → post 0 len ct) : wp_Secd_put len ct x post := by
  subst hl
  refine q_isText (fun t => ⟨fun z => absurd z (by decide), fun _ => ?_⟩) (fun t => ⟨fun _ => h0 (fun q => t q.1), fun z => absurd rfl z⟩)
  refine ⟨fun c => ?_, fun c => h0 (fun q => c (show nI n < nI 200 from nI_lt q.2 (by decide)))⟩
  have hn2 : n < 200 := (nI_ltI (by omega) (by decide)).mp (show nI n < nI 200 from c)
  refine ⟨vp_in_nI hn2 (by decide), ?_⟩
  rw [nI_clamp (by omega), txc_char t, nI_1]
  exact h1 t hn2
theorem q_mput {n : Nat} {sz : Int32} {mt : Nat → Int32} {x : Int32} {post : Int32 → Int32 → (Nat → Int32) → Prop} (hn : n ≤ 200) (hl : sz = nI n) (h1 : txc x → n < 200 → post 1 (nI (n + 1)) (upd mt n x)) (h0 : ¬ (txc x ∧ n < 200) → post 0 sz mt) : wp_Model_put sz mt x post := by
  subst hl
  refine ⟨fun c => h0 (fun q => ?_), fun c => ?_⟩
  · have := (nI_eq (by omega) (by decide)).mp (show nI n = nI 200 from c)
    omega
  have hn2 : n < 200 := by
    rcases Nat.lt_or_ge n 200 with h | h
    · exact h
    · exact absurd (show nI n = nI 200 from congrArg nI (by omega)) c
  have ok : txc x → vp_in (nI n) 200 ∧ post 1 (nI n + 1) (upd mt (nI n).toNatClampNeg x) := by
    intro t
    refine ⟨vp_in_nI hn2 (by decide), ?_⟩
    rw [nI_clamp (by omega), nI_1]
    exact h1 t hn2
  refine ⟨fun c => ok (Or.inl c), fun c1 => ⟨fun c => ok (Or.inr (Or.inl c)), fun c2 => ⟨fun c => ok (Or.inr (Or.inr (Or.inl c))), fun c3 => ⟨fun c => ok (Or.inr (Or.inr (Or.inr (Or.inl c)))), fun c4 => ?_⟩⟩⟩⟩
  refine q_mdigit (fun d => ⟨fun z => absurd z (by decide), fun _ => ok (Or.inr (Or.inr (Or.inr (Or.inr (Or.inl d)))))⟩) (fun d => ⟨fun _ => ?_, fun z => absurd rfl z⟩)
  refine q_mletter (fun t => ⟨fun z => absurd z (by decide), fun _ => ok (Or.inr (Or.inr (Or.inr (Or.inr (Or.inr t)))))⟩) (fun t => ⟨fun _ => h0 ?_, fun z => absurd rfl z⟩)
  rintro ⟨h | h | h | h | h | h, -⟩
  · exact c1 h
  · exact c2 h
  · exact c3 h
  · exact c4 h
  · exact d h
  · exact t h
/-- the two texts: as long as each other, the same characters, all of them allowed -/
def RT (n : Nat) (len : Int32) (ct : Nat → Int32) (sz : Int32) (mt : Nat → Int32) : Prop := n ≤ 200 ∧ len = nI n ∧ sz = nI n ∧ ∀ k, k < n → ct k = mt k ∧ txc (mt k)
theorem RT.nil {ct mt : Nat → Int32} : RT 0 0 ct 0 mt := ⟨by omega, rfl, rfl, fun k h => absurd h (by omega)⟩
theorem RT.put {n : Nat} {len sz : Int32} {ct mt : Nat → Int32} {x : Int32} {K : Int32 → Int32 → (Nat → Int32) → Int32 → Int32 → (Nat → Int32) → Prop} (h : RT n len ct sz mt) (hK : ∀ r n' len' ct' sz' mt', RT n' len' ct' sz' mt' → K r len' ct' r sz' mt') : wp_Secd_put len ct x (fun r len' ct' => wp_Model_put sz mt x (fun r2 sz' mt' => K r len' ct' r2 sz' mt')) := by
  obtain ⟨hn, hl, hs, hk⟩ := h
  refine q_put hn hl (fun t h2 => q_mput hn hs (fun _ _ => hK _ (n + 1) _ _ _ _ ⟨by omega, rfl, rfl, fun k hk2 => ?_⟩) (fun q => absurd ⟨t, h2⟩ q)) (fun q => q_mput hn hs (fun t h2 => absurd ⟨t, h2⟩ q) (fun _ => hK _ n _ _ _ _ ⟨hn, hl, hs, hk⟩))
  by_cases e : k = n
  · subst e
    rw [pk_us, pk_us]
    exact ⟨rfl, t⟩
  · rw [pk_un e, pk_un e]
    exact hk k (by omega)
