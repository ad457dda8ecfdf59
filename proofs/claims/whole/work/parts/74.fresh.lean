/-! both made anew: the forms' names, the costs, how many cells -/
def formM : List Int32 := [9459320, 2232, 2313, 34681, 841, 14420, 10056, 3181, 13270, 152, 8900, 70381, 249, 172975771, 8903, 175251009]
def costM : List Int32 := [3, 2, 3, 6, 4, 2, 7, 3, 2, 2, 2, 2, 3, 3, 4, 4, 4, 6, 8, 8, 1]
def takeM : List Int32 := [1, 1, 2, 4, 1, 1, 3, 1, 0, 1, 1, 1, 2, 1, 1, 2, 2, 2, 2, 2, 0]
def clampN (x : Int32) : Int32 := if (24 : Int32) < (if x < (200 : Int32) then x else (200 : Int32)) then (if x < (200 : Int32) then x else (200 : Int32)) else (24 : Int32)
theorem clampN_cases (x : Int32) : ((24 : Int32) ≤ x ∧ x ≤ 200 ∧ clampN x = x) ∨ (¬ (24 : Int32) ≤ x ∧ clampN x = 24) ∨ ((24 : Int32) ≤ x ∧ ¬ x ≤ 200 ∧ clampN x = 200) := by
  unfold clampN
  by_cases h : x < 200
  · rw [if_pos h]
    by_cases h2 : (24 : Int32) < x
    · rw [if_pos h2]
      exact Or.inl ⟨Int32.le_of_lt h2, Int32.le_of_lt h, rfl⟩
    · rw [if_neg h2]
      by_cases h3 : (24 : Int32) ≤ x
      · have e : x = 24 := Int32.le_antisymm (Int32.not_lt.mp h2) h3
        exact Or.inl ⟨h3, Int32.le_of_lt h, e.symm⟩
      · exact Or.inr (Or.inl ⟨h3, rfl⟩)
  · rw [if_neg h, if_pos (by decide)]
    have h3 : (200 : Int32) ≤ x := Int32.not_lt.mp h
    have h4 : (24 : Int32) ≤ x := Int32.le_trans (by decide) h3
    by_cases h2 : x ≤ 200
    · exact Or.inl ⟨h4, h2, Int32.le_antisymm h3 h2⟩
    · exact Or.inr (Or.inr ⟨h4, h2, rfl⟩)
theorem clampN_nat (x : Int32) : ∃ c : Nat, 24 ≤ c ∧ c ≤ 200 ∧ clampN x = nI c := by
  rcases clampN_cases x with ⟨h1, h2, h3⟩ | ⟨h1, h2⟩ | ⟨h1, h2, h3⟩
  · obtain ⟨j, hj, e⟩ := nI_of2 (x := x) (M := 200) (n := 200) (by decide) (fun z => absurd (Int32.lt_of_lt_of_le z (Int32.le_trans (by decide) h1)) Int32.lt_irrefl) h2
    refine ⟨j, ?_, by omega, by rw [h3, e]⟩
    rcases Nat.lt_or_ge j 24 with g | g
    · rw [e] at h1
      exact absurd (nI_lt g (by decide)) (Int32.not_lt.mpr h1)
    · exact g
  · exact ⟨24, by omega, by omega, h2⟩
  · exact ⟨200, by omega, by omega, h3⟩
theorem q_Model_new {x1 : Int32} {post : Int32 → (Nat → Int32) → (Nat → Int32) → (Nat → Int32) → Prop} (h : ∀ f g k : Nat → Int32, (∀ j, j < 16 → f j = formM.getD j 0) → (∀ j, j < 21 → g j = costM.getD j 0) → (∀ j, j < 21 → k j = takeM.getD j 0) → post (clampN x1) f g k) : wp_Model_new x1 post := by
  unfold wp_Model_new
  refine ⟨(vp_in_nI (by decide) (by decide) : vp_in (nI 0) 16), (vp_in_nI (by decide) (by decide) : vp_in (nI 1) 16), (vp_in_nI (by decide) (by decide) : vp_in (nI 2) 16), (vp_in_nI (by decide) (by decide) : vp_in (nI 3) 16), (vp_in_nI (by decide) (by decide) : vp_in (nI 4) 16), (vp_in_nI (by decide) (by decide) : vp_in (nI 5) 16), (vp_in_nI (by decide) (by decide) : vp_in (nI 6) 16), (vp_in_nI (by decide) (by decide) : vp_in (nI 7) 16), (vp_in_nI (by decide) (by decide) : vp_in (nI 8) 16), (vp_in_nI (by decide) (by decide) : vp_in (nI 9) 16), (vp_in_nI (by decide) (by decide) : vp_in (nI 10) 16), (vp_in_nI (by decide) (by decide) : vp_in (nI 11) 16), (vp_in_nI (by decide) (by decide) : vp_in (nI 12) 16), (vp_in_nI (by decide) (by decide) : vp_in (nI 13) 16), (vp_in_nI (by decide) (by decide) : vp_in (nI 14) 16), (vp_in_nI (by decide) (by decide) : vp_in (nI 15) 16), fun f hf => ⟨(vp_in_nI (by decide) (by decide) : vp_in (nI 0) 21), (vp_in_nI (by decide) (by decide) : vp_in (nI 1) 21), (vp_in_nI (by decide) (by decide) : vp_in (nI 2) 21), (vp_in_nI (by decide) (by decide) : vp_in (nI 3) 21), (vp_in_nI (by decide) (by decide) : vp_in (nI 4) 21), (vp_in_nI (by decide) (by decide) : vp_in (nI 5) 21), (vp_in_nI (by decide) (by decide) : vp_in (nI 6) 21), (vp_in_nI (by decide) (by decide) : vp_in (nI 7) 21), (vp_in_nI (by decide) (by decide) : vp_in (nI 8) 21), (vp_in_nI (by decide) (by decide) : vp_in (nI 9) 21), (vp_in_nI (by decide) (by decide) : vp_in (nI 10) 21), (vp_in_nI (by decide) (by decide) : vp_in (nI 11) 21), (vp_in_nI (by decide) (by decide) : vp_in (nI 12) 21), (vp_in_nI (by decide) (by decide) : vp_in (nI 13) 21), (vp_in_nI (by decide) (by decide) : vp_in (nI 14) 21), (vp_in_nI (by decide) (by decide) : vp_in (nI 15) 21), (vp_in_nI (by decide) (by decide) : vp_in (nI 16) 21), (vp_in_nI (by decide) (by decide) : vp_in (nI 17) 21), (vp_in_nI (by decide) (by decide) : vp_in (nI 18) 21), (vp_in_nI (by decide) (by decide) : vp_in (nI 19) 21), (vp_in_nI (by decide) (by decide) : vp_in (nI 20) 21), fun g hg => ⟨(vp_in_nI (by decide) (by decide) : vp_in (nI 0) 21), (vp_in_nI (by decide) (by decide) : vp_in (nI 1) 21), (vp_in_nI (by decide) (by decide) : vp_in (nI 2) 21), (vp_in_nI (by decide) (by decide) : vp_in (nI 3) 21), (vp_in_nI (by decide) (by decide) : vp_in (nI 4) 21), (vp_in_nI (by decide) (by decide) : vp_in (nI 5) 21), (vp_in_nI (by decide) (by decide) : vp_in (nI 6) 21), (vp_in_nI (by decide) (by decide) : vp_in (nI 7) 21), (vp_in_nI (by decide) (by decide) : vp_in (nI 8) 21), (vp_in_nI (by decide) (by decide) : vp_in (nI 9) 21), (vp_in_nI (by decide) (by decide) : vp_in (nI 10) 21), (vp_in_nI (by decide) (by decide) : vp_in (nI 11) 21), (vp_in_nI (by decide) (by decide) : vp_in (nI 12) 21), (vp_in_nI (by decide) (by decide) : vp_in (nI 13) 21), (vp_in_nI (by decide) (by decide) : vp_in (nI 14) 21), (vp_in_nI (by decide) (by decide) : vp_in (nI 15) 21), (vp_in_nI (by decide) (by decide) : vp_in (nI 16) 21), (vp_in_nI (by decide) (by decide) : vp_in (nI 17) 21), (vp_in_nI (by decide) (by decide) : vp_in (nI 18) 21), (vp_in_nI (by decide) (by decide) : vp_in (nI 19) 21), (vp_in_nI (by decide) (by decide) : vp_in (nI 20) 21), fun k hk => ?_⟩⟩⟩
  have h := h f g k (by rw [hf]; decide +kernel) (by rw [hg]; decide +kernel) (by rw [hk]; decide +kernel)
  rcases clampN_cases x1 with ⟨h1, h2, h3⟩ | ⟨h1, h2⟩ | ⟨h1, h2, h3⟩
  · rw [h3] at h
    exact ⟨fun _ => ⟨fun _ => h, fun c => absurd h2 c⟩, fun c => absurd h1 c⟩
  · rw [h2] at h
    exact ⟨fun c => absurd c h1, fun _ => h⟩
  · rw [h3] at h
    exact ⟨fun _ => ⟨fun c => absurd c h2, fun _ => h⟩, fun c => absurd h1 c⟩
def tnc (k : Nat) : Int32 := ((((bytS.getD 0 []).getD k 0) &&& (255 : Int32)).toUInt32 % 65536).toInt32
def tst : Nat → Nat × List Int32
  | 0 => (0, List.replicate 16 0)
  | k + 1 => if tnc k = 32 then ((tst k).1 + 1, (tst k).2) else ((tst k).1, (tst k).2.set (tst k).1 (((tst k).2.getD (tst k).1 0 <<< ((5 : Int32) &&& 31)) + ((tnc k - 97) + 1)))
set_option maxRecDepth 100000 in
theorem tst_ok : ∀ k, k < 71 → (tst k).1 < 16 ∧ (tst k).2.length = 16 := by decide +kernel
set_option maxRecDepth 100000 in
theorem tnc_ok : ∀ k, k < 71 → narrow .char (.int (tnc k)) = .int (tnc k) := by decide +kernel
theorem upd_list {l : List Int32} {v : Nat} {x : Int32} (h : v < l.length) : upd (fun j => l.getD j 0) v x = fun j => (l.set v x).getD j 0 := by
  funext j
  unfold upd
  by_cases e : j = v
  · subst e
    rw [if_pos rfl]
    simp [List.getD, h]
  · rw [if_neg e]
    simp [List.getD, List.getElem?_set, Ne.symm e]
theorem q_tnew {post : (Nat → Int32) → Prop} (h : post (fun j => (tst 71).2.getD j 0)) : ∀ r k, k + r = 71 → wp_Translator_new_L47 post (r + 1) (nI (tst k).1) (nI k) (fun j => (tst k).2.getD j 0) := by
  intro r
  induction r with
  | zero =>
    intro k e
    have : k = 71 := by omega
    subst this
    exact ⟨fun c => absurd c (by decide), fun _ => ⟨fun _ => h, fun c => absurd (by decide) c⟩⟩
  | succ r ih =>
    intro k e
    have hk : k < 71 := by omega
    obtain ⟨t1, t2⟩ := tst_ok k hk
    have hn := tnc_ok k hk
    have ihk := ih (k + 1) (by omega)
    have ev : (nI (tst k).1).toNatClampNeg = (tst k).1 := nI_clamp (by omega)
    have ek : (nI k).toNatClampNeg = k := nI_clamp (by omega)
    have c16 : ¬ (16 : Int32) ≤ nI (tst k).1 := nI_ge (a := (tst k).1) (b := 16) t1 (by decide)
    have c71 : ¬ (Int32.ofNat (lenS.getD 0 0) >>> ((0 : Int32) &&& 31)) ≤ nI k := by
      have e1 : Int32.ofNat (lenS.getD 0 0) >>> ((0 : Int32) &&& 31) = nI 71 := by decide
      rw [e1]
      exact nI_ge hk (by decide)
    have lt : nI k < Int32.ofNat (lenS.getD 0 0) := nI_lt (a := k) (b := 71) hk (by decide)
    have nn : ¬ nI k < 0 := fun c => absurd (nI_pos' (n := k) (by omega)) (Int32.not_le.mpr c)
    refine ⟨fun c => absurd c (by decide), fun _ => ⟨fun c => absurd c c71, fun _ => ⟨fun c => absurd c c16, fun _ => ?_⟩⟩⟩
    have key : ∀ pr : Int32 → Prop, pr (tnc k) → wp_String_charAt 0 (nI k) pr := fun pr hp => by
      refine ⟨fun c => absurd c (by decide), fun _ => ⟨fun _ => ⟨fun c => absurd c (by decide), fun _ => ?_⟩, fun c => absurd rfl c⟩⟩
      unfold wp_Latin1_charAt
      rw [ek]
      have fin : vp_in (nI k) (lenS.getD 0 0) ∧ (narrow .char (.int (tnc k)) = .int (tnc k) ∧ (narrow .char (.int (tnc k)) = .int (tnc k) ∧ pr (tnc k))) := ⟨vp_in_nI hk (by decide), hn, hn, hp⟩
      exact ⟨⟨fun c => absurd c nn, fun _ => ⟨fun _ => fin, fun c => absurd lt c⟩⟩, ⟨fun c => absurd c nn, fun _ => ⟨fun _ => fin, fun c => absurd lt c⟩⟩⟩
    refine key _ ⟨fun c => ?_, fun c => ⟨vp_in_nI t1 (by decide), ?_⟩⟩
    · have e1 : tst (k + 1) = ((tst k).1 + 1, (tst k).2) := if_pos c
      rw [e1] at ihk
      unfold wp_Translator_new_J100
      rw [nI_1, nI_1]
      exact ihk
    · have e1 : tst (k + 1) = ((tst k).1, (tst k).2.set (tst k).1 (((tst k).2.getD (tst k).1 0 <<< ((5 : Int32) &&& 31)) + ((tnc k - 97) + 1))) := if_neg c
      rw [e1] at ihk
      rw [ev]
      refine ⟨vp_in_nI t1 (by decide), ?_⟩
      unfold wp_Translator_new_J100
      rw [upd_list (by omega), nI_1]
      exact ihk
theorem q_Secd_new {x1 : Int32} {post : (Nat → Int32) → Prop} (h : post (fun j => (tst 71).2.getD j 0)) : wp_Secd_new x1 post := by
  obtain ⟨c, c1, c2, c3⟩ := clampN_nat x1
  have e0 : (fun j => (tst 0).2.getD j 0) = fun _ => (0 : Int32) := by
    funext j
    show (List.replicate 16 (0 : Int32)).getD j 0 = 0
    rcases Nat.lt_or_ge j 16 with g | g
    · exact (by decide : ∀ j, j < 16 → (List.replicate 16 (0 : Int32)).getD j 0 = 0) j g
    · rw [List.getD, List.getElem?_eq_none (by simpa using g)]; rfl
  suffices hm : wp_Machine_new (clampN x1) (post (fun j => (tst 71).2.getD j 0)) by
    have t := q_tnew (post := fun f => wp_Machine_new (clampN x1) (post f)) hm 71 0 (by omega)
    rw [e0] at t
    exact ⟨72, t⟩
  rw [c3]
  have nn : ¬ nI c < 0 := fun z => absurd (nI_pos' (n := c) (by omega)) (Int32.not_le.mpr z)
  have nc : (nI c).toNatClampNeg ≤ 200 := by rw [nI_clamp (by omega)]; exact c2
  exact ⟨nn, nc, nn, nc, nn, nc, nn, nc, nn, nc, nn, nc, ⟨fun z => absurd z (by decide), fun _ => ⟨by decide, by decide, h⟩⟩⟩
