/-! the reference: forms -/
section
variable {b m q : Nat} {K V F S W C N : Nat → Int32} {kids : Nat → List Nat} {w dp : Nat → Nat} {bank : Int32} {to : Nat} {fo : Nat → Int32} {KK PP : KT} {ab wh wi : Nat → Int32} {tc : Nat}
theorem plain_nums : ∀ i, i < 11 → (1 ≤ fpi.getD i 0 ∧ fpi.getD i 0 ≤ 11) ∧ (fpi.getD i 0 < 4 → 9 + i = 8 + fpi.getD i 0 ∧ i ≤ 2) ∧ (4 ≤ fpi.getD i 0 ∧ fpi.getD i 0 < 9 → 9 + i = 11 + fpi.getD i 0) ∧ (fpi.getD i 0 = 9 → 9 + i = 13) ∧ (fpi.getD i 0 = 10 → 9 + i = 14) ∧ (fpi.getD i 0 = 11 → i = 3) ∧ (4 ≤ fpi.getD i 0 → 3 ≤ i) ∧ (i = 3 → fpi.getD i 0 = 11) := by decide
theorem q_plain {i k : Nat} {f : Int32} {t : List Nat} {post : Int32 → (Nat → Int32) → (Nat → Int32) → (Nat → Int32) → Prop} (hb : b ≤ 200) (hm : m ≤ 200) (hk : k < 400) (hi : i < 11) (hch : chM b N (C k) t) (hinc : inc 0 m t) (h1 : i ≤ 2 → 2 ≤ t.length) (h2 : 3 ≤ i → 3 ≤ t.length) (htc : tc + 3 ≤ 600)
    (p1 : i ≤ 2 → ∀ ab' wh' wi', SS ab wh wi tc [(0, nI (b + t.getD 1 0), f), (1, nI (9 + i), 0)] ab' wh' wi' → post (nI (tc + 2)) ab' wh' wi')
    (p2 : 3 < i → ∀ ab' wh' wi', SS ab wh wi tc [(0, nI (b + t.getD 1 0), f), (0, nI (b + t.getD 2 0), f), (1, nI (9 + i), 0)] ab' wh' wi' → post (nI (tc + 3)) ab' wh' wi')
    (p3 : i = 3 → ∀ ab' wh' wi', SS ab wh wi tc [(0, nI (b + t.getD 2 0), f), (0, nI (b + t.getD 1 0), f), (1, nI (9 + i), 0)] ab' wh' wi' → post (nI (tc + 3)) ab' wh' wi') :
    wp_Model_plain (nI tc) ab C N wh wi (nI k) (nI (fpi.getD i 0)) f post := by
  obtain ⟨⟨n1, n2⟩, n3, n4, n5, n6, n7, n8, n9⟩ := plain_nums i hi
  generalize fpi.getD i 0 = v at n1 n2 n3 n4 n5 n6 n7 n8 n9
  have key : wp_Model_plain_J53 C N post (nI k) (nI v) f (nI (9 + i)) (nI tc) ab wh wi := by
    unfold wp_Model_plain_J53
    refine q_later (l := []) SS.nil rfl (by omega) (fun ab1 wh1 wi1 s1 => ⟨fun c => ?_, fun c => ⟨fun c2 => ?_, fun c2 => ?_⟩⟩)
    · have hv : v < 4 := (nI_ltI (b := 4) (by omega) (by decide)).mp c
      have hi2 := (n3 hv).2
      have := h1 hi2
      refine ⟨fun z => absurd ((nI_eq (b := 11) (by omega) (by decide)).mp z) (by omega), fun _ => q_mpart (s := 1) hb hm hk (by omega) hch hinc ?_⟩
      rw [drop_hdM (by omega)]
      exact q_later s1 rfl (by omega) (fun ab2 wh2 wi2 s2 => p1 hi2 ab2 wh2 wi2 s2)
    · have hv : v = 11 := (nI_eq (b := 11) (by omega) (by decide)).mp c2
      have hi3 := n7 hv
      have := h2 (by omega)
      unfold wp_Model_plain_J83
      refine q_mpart (s := 1) hb hm hk (by omega) hch hinc ?_
      rw [drop_hdM (by omega)]
      refine q_later s1 rfl (by omega) (fun ab2 wh2 wi2 s2 => ⟨fun _ => q_mpart (s := 2) hb hm hk (by omega) hch hinc ?_, fun z => absurd c2 z⟩)
      rw [drop_hdM (by omega)]
      exact q_later s2 rfl (by omega) (fun ab3 wh3 wi3 s3 => p3 hi3 ab3 wh3 wi3 s3)
    · have hv : ¬ v = 11 := fun z => c2 (by rw [z]; rfl)
      have hv4 : 4 ≤ v := by
        rcases Nat.lt_or_ge v 4 with z | z
        · exact absurd (nI_lt (b := 4) z (by decide)) c
        · exact z
      have hi3 : 3 < i := by
        have := n8 hv4
        have : i ≠ 3 := fun z => hv (n9 z)
        omega
      have := h2 (by omega)
      unfold wp_Model_plain_J83
      refine q_mpart (s := 2) hb hm hk (by omega) hch hinc ?_
      rw [drop_hdM (by omega)]
      refine q_later s1 rfl (by omega) (fun ab2 wh2 wi2 s2 => ⟨fun z => absurd z c2, fun _ => q_mpart (s := 1) hb hm hk (by omega) hch hinc ?_⟩)
      rw [drop_hdM (by omega)]
      exact q_later s2 rfl (by omega) (fun ab3 wh3 wi3 s3 => p2 hi3 ab3 wh3 wi3 s3)
  refine ⟨fun c => ?_, fun c => ?_⟩
  · have h4 : 4 ≤ v := (nI_leI (a := 4) (by decide) (by omega)).mp c
    refine ⟨fun c9 => ?_, fun c9 => ?_⟩
    · have h9 : 9 ≤ v := (nI_leI (a := 9) (by decide) (by omega)).mp c9
      refine ⟨fun e => ?_, fun e => ⟨fun e2 => ?_, fun e2 => ?_⟩⟩
      · rw [n5 ((nI_eq (b := 9) (by omega) (by decide)).mp e)] at key
        exact key
      · rw [n6 ((nI_eq (b := 10) (by omega) (by decide)).mp e2)] at key
        exact key
      · have e3 : v ≠ 9 := fun z => e (by rw [z]; rfl)
        have e4 : v ≠ 10 := fun z => e2 (by rw [z]; rfl)
        rw [n7 (by omega)] at key
        exact key
    · have h9 : v < 9 := by
        rcases Nat.lt_or_ge v 9 with z | z
        · exact z
        · exact absurd (nI_le (a := 9) z (by omega)) c9
      rw [show (15 : Int32) + nI v - 4 = nI (9 + i) from by
        rw [show (15 : Int32) + nI v = nI (15 + v) from nI_add 15 v, show nI (15 + v) - (4 : Int32) = nI (15 + v - 4) from pk_sub (b := 4) (by omega)]
        exact congrArg nI (by have := n4 ⟨h4, h9⟩; omega)]
      exact key
  · have h4 : v < 4 := by
      rcases Nat.lt_or_ge v 4 with z | z
      · exact z
      · exact absurd (nI_le (a := 4) z (by omega)) c
    rw [show (9 : Int32) + nI v - 1 = nI (9 + i) from by
      rw [show (9 : Int32) + nI v = nI (9 + v) from nI_add 9 v, show nI (9 + v) - (1 : Int32) = nI (9 + v - 1) from pk_sub (b := 1) (by omega)]
      exact congrArg nI (by have := (n3 h4).1; omega)]
    exact key
end
