/-! what can be reached: the reference's side -/
section
variable {sz f : Nat} {fre kc lc rc tk km lm rm cons cn fx : Nat → Int32} {π : Nat → Nat} {G : Nat → Prop} {s e d nco bk : Nat} {X : Nat → Prop}
/-- the reference's row holds only what the class reaches -/
def MI (sz : Nat) (π : Nat → Nat) (X : Nat → Prop) (w : Nat → Int32) : Prop := ∀ x, x < sz → w x ≠ 0 → ∃ c, X c ∧ π c = x
theorem MI.set {w : Nat → Int32} (h : MI sz π X w) {c : Nat} (hc : X c) : MI sz π X (upd w (π c) 1) := fun x hx hw => by
  by_cases e : x = π c
  · exact ⟨c, hc, e.symm⟩
  · rw [pk_un e] at hw
    exact h x hx hw
def UPW (w w' : Nat → Int32) : Prop := ∀ x, w x ≠ 0 → w' x ≠ 0
theorem UPW.set {w : Nat → Int32} {c : Nat} : UPW w (upd w c 1) := fun x hx => by
  by_cases e : x = c
  · rw [e, pk_us]; decide
  · rw [pk_un e]; exact hx
theorem cnt_up {w : Nat → Int32} {c : Nat} (hc : c < sz) : cnt w sz ≤ cnt (upd w c 1) sz ∧ (w c = 0 → cnt w sz < cnt (upd w c 1) sz) := by
  refine ⟨cnt_mono sz (fun x _ hx => UPW.set x hx), fun z => ?_⟩
  rw [cnt_upd (by decide) z sz hc]
  omega
/-- one pass over the cells -/
theorem q_pass (H : HP sz f fre kc lc rc tk km lm rm π G) (hU : ∀ c, X c → US sz f fre c) (hX : ∀ c a, X c → EDG kc lc rc c a → X a) {bank si ei di : Int32} : ∀ (r x : Nat) (more : Int32) (w : Nat → Int32), x + r = sz → MI sz π X w →
    ∃ (more' : Int32) (w' : Nat → Int32), MI sz π X w' ∧ UPW w w' ∧ (more' = 0 → more = 0 ∧ (∀ y, w' y ≠ 0 → w y ≠ 0) ∧ ∀ c, X c → x ≤ π c → w' (π c) ≠ 0 → ∀ a, EDG kc lc rc c a → w' (π a) ≠ 0) ∧ (¬ more' = 0 → ¬ more = 0 ∨ cnt w sz < cnt w' sz) ∧ cnt w sz ≤ cnt w' sz ∧
      ∀ (K236 : Int32 → Int32 → (Nat → Int32) → Prop) (post : Int32 → (Nat → Int32) → Prop) (v2 : Int32), K236 more' v2 w' → wp_Model_reach_L109 bank (nI sz) si ei di cn fx km lm rm K236 post (r + 1) more v2 (nI x) w := by
  have hs := H.2.1
  intro r
  induction r with
  | zero =>
    intro x more w ex hM
    have : x = sz := ex
    subst this
    refine ⟨more, w, hM, fun _ h => h, fun z => ⟨z, fun _ h => h, fun c hc hx => ?_⟩, fun z => Or.inl z, Nat.le_refl _, fun K236 post v2 hp => ⟨fun _ => hp, fun z => absurd (Int32.le_refl _) z⟩⟩
    have := H.lt (hU c hc)
    omega
  | succ r ih =>
    intro x more w ex hM
    have vx : vp_in (nI x) 200 := vp_in_nI (by omega) (by decide)
    have exx : (nI x).toNatClampNeg = x := nI_clamp (by omega)
    -- nothing is done at x
    have skip : (w x = 0 ∨ ∃ c, X c ∧ π c = x ∧ ¬ kc c = 2 ∧ ¬ (kc c = 3 ∨ kc c = 4)) → ∃ (more' : Int32) (w' : Nat → Int32), MI sz π X w' ∧ UPW w w' ∧ (more' = 0 → more = 0 ∧ (∀ y, w' y ≠ 0 → w y ≠ 0) ∧ ∀ c, X c → x ≤ π c → w' (π c) ≠ 0 → ∀ a, EDG kc lc rc c a → w' (π a) ≠ 0) ∧ (¬ more' = 0 → ¬ more = 0 ∨ cnt w sz < cnt w' sz) ∧ cnt w sz ≤ cnt w' sz ∧
      ∀ (K236 : Int32 → Int32 → (Nat → Int32) → Prop) (post : Int32 → (Nat → Int32) → Prop) (v2 : Int32), K236 more' v2 w' → wp_Model_reach_L109 bank (nI sz) si ei di cn fx km lm rm K236 post (r + 1) more v2 (nI (x + 1)) w := fun hsk => by
      obtain ⟨more', w', q1, q2, q3, q4, q5, q6⟩ := ih (x + 1) more w (by omega) hM
      refine ⟨more', w', q1, q2, fun z => ⟨(q3 z).1, (q3 z).2.1, fun c hc hx hw a ha => ?_⟩, q4, q5, q6⟩
      by_cases ec : π c = x
      · rcases hsk with z0 | ⟨c', k1, k2, k3, k4⟩
        · exact absurd z0 (by rw [← ec]; exact (q3 z).2.1 _ hw)
        · have : c = c' := H.inj (hU c hc) (hU c' k1) (ec.trans k2.symm)
          subst this
          rcases ha.2 with ⟨y, _⟩ | ⟨y, _⟩
          · exact absurd y k3
          · exact absurd y k4
      · exact (q3 z).2.2 c hc (by omega) hw a ha
    by_cases hw : w x = 0
    · obtain ⟨more', w', q1, q2, q3, q4, q5, q6⟩ := skip (Or.inl hw)
      refine ⟨more', w', q1, q2, q3, q4, q5, fun K236 post v2 hp => ⟨fun z => absurd z (nI_ge (by omega) (by omega)), fun _ => ?_⟩⟩
      unfold wp_Model_reach_J230
      rw [exx, nI_1]
      exact ⟨vx, fun _ => q6 K236 post v2 hp, fun z => absurd hw z⟩
    · obtain ⟨c, c1, c2⟩ := hM x (by omega) hw
      have Uc := hU c c1
      obtain ⟨k, k1, k2, k3⟩ := H.kind Uc
      rw [c2] at k3
      by_cases kk : k ≤ 1
      · obtain ⟨more', w', q1, q2, q3, q4, q5, q6⟩ := skip (Or.inr ⟨c, c1, c2, fun z => absurd ((nI_eq (b := 2) (by omega) (by decide)).mp (k2.symm.trans z)) (by omega), fun z => by
          rcases z with z | z
          · exact absurd ((nI_eq (b := 3) (by omega) (by decide)).mp (k2.symm.trans z)) (by omega)
          · exact absurd ((nI_eq (b := 4) (by omega) (by decide)).mp (k2.symm.trans z)) (by omega)⟩)
        refine ⟨more', w', q1, q2, q3, q4, q5, fun K236 post v2 hp => ⟨fun z => absurd z (nI_ge (by omega) (by omega)), fun _ => ?_⟩⟩
        unfold wp_Model_reach_J230
        rw [exx, nI_1, k3]
        exact ⟨vx, fun z => absurd z hw, fun _ => ⟨vx, fun _ => q6 K236 post v2 hp, fun z => absurd (nI_lt (b := 3) (by omega) (by decide)) z⟩⟩
      · have nk3 : ¬ nI (k + 1) < 3 := nI_nlt (b := 3) (by omega) (by omega)
        -- the cell behind
        have hb : ∃ b, rc c = nI b ∧ rm x = nI (π b) ∧ US sz f fre b ∧ EDG kc lc rc c b := by
          rcases (show k = 2 ∨ k = 3 ∨ k = 4 by omega) with rfl | rfl | rfl
          · obtain ⟨-, a, b, p1, p2, p3, p4, p5, p6⟩ := H.pr Uc k2
            exact ⟨b, p2, by rw [← c2]; exact p4, p6, by have := H.lt p6; omega, Or.inl ⟨k2, Or.inr p2⟩⟩
          · obtain ⟨-, a, b, p0, p1, p2, p3, p4, p5, p6⟩ := H.cl Uc k2
            exact ⟨b, p3, by rw [← c2]; exact p4, p5, by have := H.lt p5; omega, Or.inr ⟨Or.inl k2, p3⟩⟩
          · obtain ⟨-, a, b, p0, p1, p2, p3, p4, p5⟩ := H.mk Uc k2
            exact ⟨b, p3, by rw [← c2]; exact p4, p5, by have := H.lt p5; omega, Or.inr ⟨Or.inr k2, p3⟩⟩
        obtain ⟨b, b1, b2, b3, b4⟩ := hb
        have lb := H.lt b3
        have vb : vp_in (nI (π b)) 200 := vp_in_nI (by omega) (by decide)
        have eb : (nI (π b)).toNatClampNeg = π b := nI_clamp (by omega)
        have Xb := hX c b c1 b4
        have M1 := hM.set Xb
        by_cases hk2 : k = 2
        · subst hk2
          obtain ⟨-, a, b', p1, p2, p3, p4, p5, p6⟩ := H.pr Uc k2
          rw [c2] at p3
          have la := H.lt p5
          have va : vp_in (nI (π a)) 200 := vp_in_nI (by omega) (by decide)
          have ea : (nI (π a)).toNatClampNeg = π a := nI_clamp (by omega)
          have Ea : EDG kc lc rc c a := ⟨by omega, Or.inl ⟨k2, Or.inl p1⟩⟩
          have Xa := hX c a c1 Ea
          have M2 := M1.set Xa
          have kids : ∀ a', EDG kc lc rc c a' → π a' = π a ∨ π a' = π b := fun a' ha => by
            obtain ⟨h1, h2⟩ := ha
            rcases h2 with ⟨_, y | y⟩ | ⟨y, _⟩
            · left; rw [(nI_eq (by omega) (by omega)).mp (y.symm.trans p1)]
            · right; rw [(nI_eq (by omega) (by omega)).mp (y.symm.trans b1)]
            · rcases y with y | y
              · exact absurd (k2.symm.trans y) (by decide)
              · exact absurd (k2.symm.trans y) (by decide)
          -- from the new row on
          have go : ∀ m2 : Int32, ∃ (more' : Int32) (w' : Nat → Int32), MI sz π X w' ∧ UPW (upd (upd w (π b) 1) (π a) 1) w' ∧ (more' = 0 → m2 = 0 ∧ (∀ y, w' y ≠ 0 → upd (upd w (π b) 1) (π a) 1 y ≠ 0) ∧ ∀ c, X c → x + 1 ≤ π c → w' (π c) ≠ 0 → ∀ a, EDG kc lc rc c a → w' (π a) ≠ 0) ∧ (¬ more' = 0 → ¬ m2 = 0 ∨ cnt (upd (upd w (π b) 1) (π a) 1) sz < cnt w' sz) ∧ cnt (upd (upd w (π b) 1) (π a) 1) sz ≤ cnt w' sz ∧ ∀ (K236 : Int32 → Int32 → (Nat → Int32) → Prop) (post : Int32 → (Nat → Int32) → Prop) (v2 : Int32), K236 more' v2 w' → wp_Model_reach_L109 bank (nI sz) si ei di cn fx km lm rm K236 post (r + 1) m2 v2 (nI (x + 1)) (upd (upd w (π b) 1) (π a) 1) := fun m2 => ih (x + 1) m2 _ (by omega) M2
          have up2 : UPW w (upd (upd w (π b) 1) (π a) 1) := fun y hy => UPW.set y (UPW.set y hy)
          have cu1 := cnt_up (w := w) (sz := sz) (c := π b) (by omega)
          have cu2 := cnt_up (w := upd w (π b) 1) (sz := sz) (c := π a) (by omega)
          by_cases fresh : w (π b) = 0 ∨ w (π a) = 0
          · obtain ⟨more', w', q1, q2, q3, q4, q5, q6⟩ := go 1
            have n0 : ¬ more' = 0 := fun z => absurd (q3 z).1 (by decide)
            have clt : cnt w sz < cnt w' sz := by
              rcases fresh with z | z
              · have := cu1.2 z; omega
              · by_cases eab : π a = π b
                · rw [eab] at z; have := cu1.2 z; omega
                · have := cu2.2 (by rw [pk_un eab]; exact z); omega
            refine ⟨more', w', q1, fun y hy => q2 y (up2 y hy), fun z => absurd z n0, fun _ => Or.inr clt, by omega, fun K236 post v2 hp => ⟨fun z => absurd z (nI_ge (by omega) (by omega)), fun _ => ?_⟩⟩
            have j174 : wp_Model_reach_J174 bank (nI sz) si ei di cn fx km lm rm (wp_Model_reach_L109 bank (nI sz) si ei di cn fx km lm rm K236 post (r + 1)) K236 post more v2 (nI x) w := by
              unfold wp_Model_reach_J174 wp_Model_reach_J179 wp_Model_reach_J215 wp_Model_reach_J224 wp_Model_reach_J229 wp_Model_reach_J230
              rw [exx, b2, eb, p3, ea, nI_1]
              refine ⟨vx, vb, vx, fun _ => ⟨vx, va, fun _ => ⟨fun z => absurd z (by decide), fun _ => q6 K236 post v2 hp⟩, fun _ => q6 K236 post v2 hp⟩, fun z => absurd (by rw [k3]; rfl) z⟩
            rw [exx, k3, b2, eb, p3, ea]
            refine ⟨vx, fun z => absurd z hw, fun _ => ⟨vx, fun z => absurd z nk3, fun _ => ⟨vx, vb, fun _ => j174, fun z0 => ⟨vx, fun _ => ⟨vx, va, fun _ => j174, fun z1 => ?_⟩, fun z => absurd rfl z⟩⟩⟩⟩
            rcases fresh with z | z
            · exact absurd z z0
            · exact absurd z z1
          · have wb : ¬ w (π b) = 0 := fun z => fresh (Or.inl z)
            have wa : ¬ w (π a) = 0 := fun z => fresh (Or.inr z)
            have same : ∀ y, upd (upd w (π b) 1) (π a) 1 y ≠ 0 → w y ≠ 0 := fun y hy => by
              by_cases e1 : y = π a
              · rw [e1]; exact wa
              · rw [pk_un e1] at hy
                by_cases e2 : y = π b
                · rw [e2]; exact wb
                · rw [pk_un e2] at hy; exact hy
            obtain ⟨more', w', q1, q2, q3, q4, q5, q6⟩ := go (if more = 0 then 0 else 1)
            refine ⟨more', w', q1, fun y hy => q2 y (up2 y hy), fun z => ⟨?_, fun y hy => same y ((q3 z).2.1 y hy), fun c' hc' hx hw' a' ha => ?_⟩, fun z => ?_, by omega, fun K236 post v2 hp => ⟨fun z => absurd z (nI_ge (by omega) (by omega)), fun _ => ?_⟩⟩
            · have := (q3 z).1
              by_cases em : more = 0
              · exact em
              · rw [if_neg em] at this; exact absurd this (by decide)
            · by_cases ec : π c' = x
              · have : c' = c := H.inj (hU c' hc') Uc (ec.trans c2.symm)
                subst this
                rcases kids a' ha with y | y
                · rw [y]; exact q2 _ (up2 _ wa)
                · rw [y]; exact q2 _ (up2 _ wb)
              · exact (q3 z).2.2 c' hc' (by omega) hw' a' ha
            · rcases q4 z with y | y
              · left; exact fun em => y (by rw [if_pos em])
              · right; omega
            · have j178 : wp_Model_reach_J178 bank (nI sz) si ei di cn fx km lm rm (wp_Model_reach_L109 bank (nI sz) si ei di cn fx km lm rm K236 post (r + 1)) K236 post more v2 (nI x) w := by
                unfold wp_Model_reach_J178 wp_Model_reach_J179 wp_Model_reach_J215 wp_Model_reach_J224 wp_Model_reach_J229 wp_Model_reach_J230
                rw [exx, b2, eb, p3, ea, nI_1]
                have q7 := q6 K236 post v2 hp
                refine ⟨vx, vb, vx, fun _ => ⟨vx, va, fun em => ⟨fun _ => ?_, fun z => absurd rfl z⟩, fun em => ?_⟩, fun z => absurd (by rw [k3]; rfl) z⟩
                · rw [if_pos em] at q7; exact q7
                · rw [if_neg em] at q7; exact q7
              rw [exx, k3, b2, eb, p3, ea]
              exact ⟨vx, fun z => absurd z hw, fun _ => ⟨vx, fun z => absurd z nk3, fun _ => ⟨vx, vb, fun z => absurd z wb, fun _ => ⟨vx, fun _ => ⟨vx, va, fun z => absurd z wa, fun _ => j178⟩, fun z => absurd rfl z⟩⟩⟩⟩
        · have nk : ¬ nI (k + 1) = 3 := fun z => hk2 (by have := (nI_eq (b := 3) (by omega) (by decide)).mp z; omega)
          have nkc : ¬ kc c = 2 := fun z => hk2 ((nI_eq (b := 2) (by omega) (by decide)).mp (k2.symm.trans z))
          have kids : ∀ a', EDG kc lc rc c a' → π a' = π b := fun a' ha => by
            obtain ⟨h1, h2⟩ := ha
            rcases h2 with ⟨y, _⟩ | ⟨_, y⟩
            · exact absurd y nkc
            · rw [(nI_eq (by omega) (by omega)).mp (y.symm.trans b1)]
          have cu1 := cnt_up (w := w) (sz := sz) (c := π b) (by omega)
          by_cases wb : w (π b) = 0
          · obtain ⟨more', w', q1, q2, q3, q4, q5, q6⟩ := ih (x + 1) 1 _ (by omega) M1
            have n0 : ¬ more' = 0 := fun z => absurd (q3 z).1 (by decide)
            have clt : cnt w sz < cnt w' sz := by have := cu1.2 wb; omega
            refine ⟨more', w', q1, fun y hy => q2 y (UPW.set y hy), fun z => absurd z n0, fun _ => Or.inr clt, by omega, fun K236 post v2 hp => ⟨fun z => absurd z (nI_ge (by omega) (by omega)), fun _ => ?_⟩⟩
            have j174 : wp_Model_reach_J174 bank (nI sz) si ei di cn fx km lm rm (wp_Model_reach_L109 bank (nI sz) si ei di cn fx km lm rm K236 post (r + 1)) K236 post more v2 (nI x) w := by
              unfold wp_Model_reach_J174 wp_Model_reach_J179 wp_Model_reach_J215 wp_Model_reach_J224 wp_Model_reach_J229 wp_Model_reach_J230
              rw [exx, b2, eb, k3, nI_1]
              exact ⟨vx, vb, vx, fun z => absurd z nk, fun _ => ⟨fun _ => ⟨fun z => absurd z (by decide), fun _ => q6 K236 post v2 hp⟩, fun _ => q6 K236 post v2 hp⟩⟩
            rw [exx, k3, b2, eb]
            exact ⟨vx, fun z => absurd z hw, fun _ => ⟨vx, fun z => absurd z nk3, fun _ => ⟨vx, vb, fun _ => j174, fun z0 => absurd wb z0⟩⟩⟩
          · have same : ∀ y, upd w (π b) 1 y ≠ 0 → w y ≠ 0 := fun y hy => by
              by_cases e2 : y = π b
              · rw [e2]; exact wb
              · rw [pk_un e2] at hy; exact hy
            obtain ⟨more', w', q1, q2, q3, q4, q5, q6⟩ := ih (x + 1) (if more = 0 then 0 else 1) _ (by omega) M1
            refine ⟨more', w', q1, fun y hy => q2 y (UPW.set y hy), fun z => ⟨?_, fun y hy => same y ((q3 z).2.1 y hy), fun c' hc' hx hw' a' ha => ?_⟩, fun z => ?_, by omega, fun K236 post v2 hp => ⟨fun z => absurd z (nI_ge (by omega) (by omega)), fun _ => ?_⟩⟩
            · have := (q3 z).1
              by_cases em : more = 0
              · exact em
              · rw [if_neg em] at this; exact absurd this (by decide)
            · by_cases ec : π c' = x
              · have : c' = c := H.inj (hU c' hc') Uc (ec.trans c2.symm)
                subst this
                rw [kids a' ha]; exact q2 _ (UPW.set _ wb)
              · exact (q3 z).2.2 c' hc' (by omega) hw' a' ha
            · rcases q4 z with y | y
              · left; exact fun em => y (by rw [if_pos em])
              · right; omega
            · have j178 : wp_Model_reach_J178 bank (nI sz) si ei di cn fx km lm rm (wp_Model_reach_L109 bank (nI sz) si ei di cn fx km lm rm K236 post (r + 1)) K236 post more v2 (nI x) w := by
                unfold wp_Model_reach_J178 wp_Model_reach_J179 wp_Model_reach_J215 wp_Model_reach_J224 wp_Model_reach_J229 wp_Model_reach_J230
                rw [exx, b2, eb, k3, nI_1]
                have q7 := q6 K236 post v2 hp
                refine ⟨vx, vb, vx, fun z => absurd z nk, fun _ => ⟨fun em => ⟨fun _ => ?_, fun z => absurd rfl z⟩, fun em => ?_⟩⟩
                · rw [if_pos em] at q7; exact q7
                · rw [if_neg em] at q7; exact q7
              rw [exx, k3, b2, eb]
              exact ⟨vx, fun z => absurd z hw, fun _ => ⟨vx, fun z => absurd z nk3, fun _ => ⟨vx, vb, fun z => absurd z wb, fun _ => ⟨vx, fun z => absurd z nk, fun _ => j178⟩⟩⟩⟩
end
