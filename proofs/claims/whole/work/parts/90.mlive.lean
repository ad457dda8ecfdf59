/-! what can be reached: the reference's side -/
section
variable {sz f : Nat} {fre kc lc rc tk km lm rm cons cn fx : Nat → Int32} {π : Nat → Nat} {G : Nat → Prop} {s e d nco bk : Nat} {X : Nat → Prop}
/-- the reference's row holds only what the class reaches -/
def MI (sz : Nat) (π : Nat → Nat) (X : Nat → Prop) (w : Nat → Int32) : Prop := ∀ x, x < sz → w x ≠ 0 → w x = 1 ∧ ∃ c, X c ∧ π c = x
theorem MI.set {w : Nat → Int32} (h : MI sz π X w) {c : Nat} (hc : X c) : MI sz π X (upd w (π c) 1) := fun x hx hw => by
  by_cases e : x = π c
  · exact ⟨by rw [e, pk_us], c, hc, e.symm⟩
  · rw [pk_un e] at hw ⊢
    exact h x hx hw
def UPW (w w' : Nat → Int32) : Prop := ∀ x, w x ≠ 0 → w' x ≠ 0
theorem UPW.set {w : Nat → Int32} {c : Nat} : UPW w (upd w c 1) := fun x hx => by
  by_cases e : x = c
  · rw [e, pk_us]; decide
  · rw [pk_un e]; exact hx
theorem cnt_up {w : Nat → Int32} {c : Nat} (hc : c < sz) : cnt w sz ≤ cnt (upd w c 1) sz ∧ (w c = 0 → cnt w sz < cnt (upd w c 1) sz) := by
  refine ⟨cnt_mono sz (fun x _ hx => UPW.set x hx), fun z => ?_⟩
  rw [cnt_upd (by decide) z sz hc]
  omega
/-- one pass over the cells -/
theorem q_pass (H : HP sz f fre kc lc rc tk km lm rm π G) (hU : ∀ c, X c → US sz f fre c) (hX : ∀ c a, X c → EDG kc lc rc c a → X a) {bank si ei di : Int32} : ∀ (r x : Nat) (more : Int32) (w : Nat → Int32), x + r = sz → MI sz π X w →
    ∃ (more' : Int32) (w' : Nat → Int32), MI sz π X w' ∧ UPW w w' ∧ (more' = 0 → more = 0 ∧ (∀ y, w' y ≠ 0 → w y ≠ 0) ∧ ∀ c, X c → x ≤ π c → w' (π c) ≠ 0 → ∀ a, EDG kc lc rc c a → w' (π a) ≠ 0) ∧ (¬ more' = 0 → ¬ more = 0 ∨ cnt w sz < cnt w' sz) ∧ cnt w sz ≤ cnt w' sz ∧
      ∀ (K236 : Int32 → Int32 → (Nat → Int32) → Prop) (post : Int32 → (Nat → Int32) → Prop) (v2 : Int32), K236 more' v2 w' → wp_Model_reach_L109 bank (nI sz) si ei di cn fx km lm rm K236 post (r + 1) more v2 (nI x) w := by
  have hs := H.2.1
  intro r
  induction r with
  | zero =>
    intro x more w ex hM
    have : x = sz := ex
    subst this
    refine ⟨more, w, hM, fun _ h => h, fun z => ⟨z, fun _ h => h, fun c hc hx => ?_⟩, fun z => Or.inl z, Nat.le_refl _, fun K236 post v2 hp => ⟨fun _ => hp, fun z => absurd (Int32.le_refl _) z⟩⟩
    have := H.lt (hU c hc)
    omega
  | succ r ih =>
    intro x more w ex hM
    have vx : vp_in (nI x) 200 := vp_in_nI (by omega) (by decide)
    have exx : (nI x).toNatClampNeg = x := nI_clamp (by omega)
    -- nothing is done at x
    have skip : (w x = 0 ∨ ∃ c, X c ∧ π c = x ∧ ¬ kc c = 2 ∧ ¬ (kc c = 3 ∨ kc c = 4)) → ∃ (more' : Int32) (w' : Nat → Int32), MI sz π X w' ∧ UPW w w' ∧ (more' = 0 → more = 0 ∧ (∀ y, w' y ≠ 0 → w y ≠ 0) ∧ ∀ c, X c → x ≤ π c → w' (π c) ≠ 0 → ∀ a, EDG kc lc rc c a → w' (π a) ≠ 0) ∧ (¬ more' = 0 → ¬ more = 0 ∨ cnt w sz < cnt w' sz) ∧ cnt w sz ≤ cnt w' sz ∧
      ∀ (K236 : Int32 → Int32 → (Nat → Int32) → Prop) (post : Int32 → (Nat → Int32) → Prop) (v2 : Int32), K236 more' v2 w' → wp_Model_reach_L109 bank (nI sz) si ei di cn fx km lm rm K236 post (r + 1) more v2 (nI (x + 1)) w := fun hsk => by
      obtain ⟨more', w', q1, q2, q3, q4, q5, q6⟩ := ih (x + 1) more w (by omega) hM
      refine ⟨more', w', q1, q2, fun z => ⟨(q3 z).1, (q3 z).2.1, fun c hc hx hw a ha => ?_⟩, q4, q5, q6⟩
      by_cases ec : π c = x
      · rcases hsk with z0 | ⟨c', k1, k2, k3, k4⟩
        · exact absurd z0 (by rw [← ec]; exact (q3 z).2.1 _ hw)
        · have : c = c' := H.inj (hU c hc) (hU c' k1) (ec.trans k2.symm)
          subst this
          rcases ha.2 with ⟨y, _⟩ | ⟨y, _⟩
          · exact absurd y k3
          · exact absurd y k4
      · exact (q3 z).2.2 c hc (by omega) hw a ha
    by_cases hw : w x = 0
    · obtain ⟨more', w', q1, q2, q3, q4, q5, q6⟩ := skip (Or.inl hw)
      refine ⟨more', w', q1, q2, q3, q4, q5, fun K236 post v2 hp => ⟨fun z => absurd z (nI_ge (by omega) (by omega)), fun _ => ?_⟩⟩
      unfold wp_Model_reach_J230
      rw [exx, nI_1]
      exact ⟨vx, fun _ => q6 K236 post v2 hp, fun z => absurd hw z⟩
    · obtain ⟨-, c, c1, c2⟩ := hM x (by omega) hw
      have Uc := hU c c1
      obtain ⟨k, k1, k2, k3⟩ := H.kind Uc
      rw [c2] at k3
      by_cases kk : k ≤ 1
      · obtain ⟨more', w', q1, q2, q3, q4, q5, q6⟩ := skip (Or.inr ⟨c, c1, c2, fun z => absurd ((nI_eq (b := 2) (by omega) (by decide)).mp (k2.symm.trans z)) (by omega), fun z => by
          rcases z with z | z
          · exact absurd ((nI_eq (b := 3) (by omega) (by decide)).mp (k2.symm.trans z)) (by omega)
          · exact absurd ((nI_eq (b := 4) (by omega) (by decide)).mp (k2.symm.trans z)) (by omega)⟩)
        refine ⟨more', w', q1, q2, q3, q4, q5, fun K236 post v2 hp => ⟨fun z => absurd z (nI_ge (by omega) (by omega)), fun _ => ?_⟩⟩
        unfold wp_Model_reach_J230
        rw [exx, nI_1, k3]
        exact ⟨vx, fun z => absurd z hw, fun _ => ⟨vx, fun _ => q6 K236 post v2 hp, fun z => absurd (nI_lt (b := 3) (by omega) (by decide)) z⟩⟩
      · have nk3 : ¬ nI (k + 1) < 3 := nI_nlt (b := 3) (by omega) (by omega)
        -- the cell behind
        have hb : ∃ b, rc c = nI b ∧ rm x = nI (π b) ∧ US sz f fre b ∧ EDG kc lc rc c b := by
          rcases (show k = 2 ∨ k = 3 ∨ k = 4 by omega) with rfl | rfl | rfl
          · obtain ⟨-, a, b, p1, p2, p3, p4, p5, p6⟩ := H.pr Uc k2
            exact ⟨b, p2, by rw [← c2]; exact p4, p6, by have := H.lt p6; omega, Or.inl ⟨k2, Or.inr p2⟩⟩
          · obtain ⟨-, a, b, p0, p1, p2, p3, p4, p5, p6⟩ := H.cl Uc k2
            exact ⟨b, p3, by rw [← c2]; exact p4, p5, by have := H.lt p5; omega, Or.inr ⟨Or.inl k2, p3⟩⟩
          · obtain ⟨-, a, b, p0, p1, p2, p3, p4, p5⟩ := H.mk Uc k2
            exact ⟨b, p3, by rw [← c2]; exact p4, p5, by have := H.lt p5; omega, Or.inr ⟨Or.inr k2, p3⟩⟩
        obtain ⟨b, b1, b2, b3, b4⟩ := hb
        have lb := H.lt b3
        have vb : vp_in (nI (π b)) 200 := vp_in_nI (by omega) (by decide)
        have eb : (nI (π b)).toNatClampNeg = π b := nI_clamp (by omega)
        have Xb := hX c b c1 b4
        have M1 := hM.set Xb
        by_cases hk2 : k = 2
        · subst hk2
          obtain ⟨-, a, b', p1, p2, p3, p4, p5, p6⟩ := H.pr Uc k2
          rw [c2] at p3
          have la := H.lt p5
          have va : vp_in (nI (π a)) 200 := vp_in_nI (by omega) (by decide)
          have ea : (nI (π a)).toNatClampNeg = π a := nI_clamp (by omega)
          have Ea : EDG kc lc rc c a := ⟨by omega, Or.inl ⟨k2, Or.inl p1⟩⟩
          have Xa := hX c a c1 Ea
          have M2 := M1.set Xa
          have kids : ∀ a', EDG kc lc rc c a' → π a' = π a ∨ π a' = π b := fun a' ha => by
            obtain ⟨h1, h2⟩ := ha
            rcases h2 with ⟨_, y | y⟩ | ⟨y, _⟩
            · left; rw [(nI_eq (by omega) (by omega)).mp (y.symm.trans p1)]
            · right; rw [(nI_eq (by omega) (by omega)).mp (y.symm.trans b1)]
            · rcases y with y | y
              · exact absurd (k2.symm.trans y) (by decide)
              · exact absurd (k2.symm.trans y) (by decide)
          -- from the new row on
          have go : ∀ m2 : Int32, ∃ (more' : Int32) (w' : Nat → Int32), MI sz π X w' ∧ UPW (upd (upd w (π b) 1) (π a) 1) w' ∧ (more' = 0 → m2 = 0 ∧ (∀ y, w' y ≠ 0 → upd (upd w (π b) 1) (π a) 1 y ≠ 0) ∧ ∀ c, X c → x + 1 ≤ π c → w' (π c) ≠ 0 → ∀ a, EDG kc lc rc c a → w' (π a) ≠ 0) ∧ (¬ more' = 0 → ¬ m2 = 0 ∨ cnt (upd (upd w (π b) 1) (π a) 1) sz < cnt w' sz) ∧ cnt (upd (upd w (π b) 1) (π a) 1) sz ≤ cnt w' sz ∧ ∀ (K236 : Int32 → Int32 → (Nat → Int32) → Prop) (post : Int32 → (Nat → Int32) → Prop) (v2 : Int32), K236 more' v2 w' → wp_Model_reach_L109 bank (nI sz) si ei di cn fx km lm rm K236 post (r + 1) m2 v2 (nI (x + 1)) (upd (upd w (π b) 1) (π a) 1) := fun m2 => ih (x + 1) m2 _ (by omega) M2
          have up2 : UPW w (upd (upd w (π b) 1) (π a) 1) := fun y hy => UPW.set y (UPW.set y hy)
          have cu1 := cnt_up (w := w) (sz := sz) (c := π b) (by omega)
          have cu2 := cnt_up (w := upd w (π b) 1) (sz := sz) (c := π a) (by omega)
          by_cases fresh : w (π b) = 0 ∨ w (π a) = 0
          · obtain ⟨more', w', q1, q2, q3, q4, q5, q6⟩ := go 1
            have n0 : ¬ more' = 0 := fun z => absurd (q3 z).1 (by decide)
            have clt : cnt w sz < cnt w' sz := by
              rcases fresh with z | z
              · have := cu1.2 z; omega
              · by_cases eab : π a = π b
                · rw [eab] at z; have := cu1.2 z; omega
                · have := cu2.2 (by rw [pk_un eab]; exact z); omega
            refine ⟨more', w', q1, fun y hy => q2 y (up2 y hy), fun z => absurd z n0, fun _ => Or.inr clt, by omega, fun K236 post v2 hp => ⟨fun z => absurd z (nI_ge (by omega) (by omega)), fun _ => ?_⟩⟩
            have j174 : wp_Model_reach_J174 bank (nI sz) si ei di cn fx km lm rm (wp_Model_reach_L109 bank (nI sz) si ei di cn fx km lm rm K236 post (r + 1)) K236 post more v2 (nI x) w := by
              unfold wp_Model_reach_J174 wp_Model_reach_J179 wp_Model_reach_J215 wp_Model_reach_J224 wp_Model_reach_J229 wp_Model_reach_J230
              rw [exx, b2, eb, p3, ea, nI_1]
              refine ⟨vx, vb, vx, fun _ => ⟨vx, va, fun _ => ⟨fun z => absurd z (by decide), fun _ => q6 K236 post v2 hp⟩, fun _ => q6 K236 post v2 hp⟩, fun z => absurd (by rw [k3]; rfl) z⟩
            rw [exx, k3, b2, eb, p3, ea]
            refine ⟨vx, fun z => absurd z hw, fun _ => ⟨vx, fun z => absurd z nk3, fun _ => ⟨vx, vb, fun _ => j174, fun z0 => ⟨vx, fun _ => ⟨vx, va, fun _ => j174, fun z1 => ?_⟩, fun z => absurd rfl z⟩⟩⟩⟩
            rcases fresh with z | z
            · exact absurd z z0
            · exact absurd z z1
          · have wb : ¬ w (π b) = 0 := fun z => fresh (Or.inl z)
            have wa : ¬ w (π a) = 0 := fun z => fresh (Or.inr z)
            have same : ∀ y, upd (upd w (π b) 1) (π a) 1 y ≠ 0 → w y ≠ 0 := fun y hy => by
              by_cases e1 : y = π a
              · rw [e1]; exact wa
              · rw [pk_un e1] at hy
                by_cases e2 : y = π b
                · rw [e2]; exact wb
                · rw [pk_un e2] at hy; exact hy
            obtain ⟨more', w', q1, q2, q3, q4, q5, q6⟩ := go (if more = 0 then 0 else 1)
            refine ⟨more', w', q1, fun y hy => q2 y (up2 y hy), fun z => ⟨?_, fun y hy => same y ((q3 z).2.1 y hy), fun c' hc' hx hw' a' ha => ?_⟩, fun z => ?_, by omega, fun K236 post v2 hp => ⟨fun z => absurd z (nI_ge (by omega) (by omega)), fun _ => ?_⟩⟩
            · have := (q3 z).1
              by_cases em : more = 0
              · exact em
              · rw [if_neg em] at this; exact absurd this (by decide)
            · by_cases ec : π c' = x
              · have : c' = c := H.inj (hU c' hc') Uc (ec.trans c2.symm)
                subst this
                rcases kids a' ha with y | y
                · rw [y]; exact q2 _ (up2 _ wa)
                · rw [y]; exact q2 _ (up2 _ wb)
              · exact (q3 z).2.2 c' hc' (by omega) hw' a' ha
            · rcases q4 z with y | y
              · left; exact fun em => y (by rw [if_pos em])
              · right; omega
            · have j178 : wp_Model_reach_J178 bank (nI sz) si ei di cn fx km lm rm (wp_Model_reach_L109 bank (nI sz) si ei di cn fx km lm rm K236 post (r + 1)) K236 post more v2 (nI x) w := by
                unfold wp_Model_reach_J178 wp_Model_reach_J179 wp_Model_reach_J215 wp_Model_reach_J224 wp_Model_reach_J229 wp_Model_reach_J230
                rw [exx, b2, eb, p3, ea, nI_1]
                have q7 := q6 K236 post v2 hp
                refine ⟨vx, vb, vx, fun _ => ⟨vx, va, fun em => ⟨fun _ => ?_, fun z => absurd rfl z⟩, fun em => ?_⟩, fun z => absurd (by rw [k3]; rfl) z⟩
                · rw [if_pos em] at q7; exact q7
                · rw [if_neg em] at q7; exact q7
              rw [exx, k3, b2, eb, p3, ea]
              exact ⟨vx, fun z => absurd z hw, fun _ => ⟨vx, fun z => absurd z nk3, fun _ => ⟨vx, vb, fun z => absurd z wb, fun _ => ⟨vx, fun _ => ⟨vx, va, fun z => absurd z wa, fun _ => j178⟩, fun z => absurd rfl z⟩⟩⟩⟩
        · have nk : ¬ nI (k + 1) = 3 := fun z => hk2 (by have := (nI_eq (b := 3) (by omega) (by decide)).mp z; omega)
          have nkc : ¬ kc c = 2 := fun z => hk2 ((nI_eq (b := 2) (by omega) (by decide)).mp (k2.symm.trans z))
          have kids : ∀ a', EDG kc lc rc c a' → π a' = π b := fun a' ha => by
            obtain ⟨h1, h2⟩ := ha
            rcases h2 with ⟨y, _⟩ | ⟨_, y⟩
            · exact absurd y nkc
            · rw [(nI_eq (by omega) (by omega)).mp (y.symm.trans b1)]
          have cu1 := cnt_up (w := w) (sz := sz) (c := π b) (by omega)
          by_cases wb : w (π b) = 0
          · obtain ⟨more', w', q1, q2, q3, q4, q5, q6⟩ := ih (x + 1) 1 _ (by omega) M1
            have n0 : ¬ more' = 0 := fun z => absurd (q3 z).1 (by decide)
            have clt : cnt w sz < cnt w' sz := by have := cu1.2 wb; omega
            refine ⟨more', w', q1, fun y hy => q2 y (UPW.set y hy), fun z => absurd z n0, fun _ => Or.inr clt, by omega, fun K236 post v2 hp => ⟨fun z => absurd z (nI_ge (by omega) (by omega)), fun _ => ?_⟩⟩
            have j174 : wp_Model_reach_J174 bank (nI sz) si ei di cn fx km lm rm (wp_Model_reach_L109 bank (nI sz) si ei di cn fx km lm rm K236 post (r + 1)) K236 post more v2 (nI x) w := by
              unfold wp_Model_reach_J174 wp_Model_reach_J179 wp_Model_reach_J215 wp_Model_reach_J224 wp_Model_reach_J229 wp_Model_reach_J230
              rw [exx, b2, eb, k3, nI_1]
              exact ⟨vx, vb, vx, fun z => absurd z nk, fun _ => ⟨fun _ => ⟨fun z => absurd z (by decide), fun _ => q6 K236 post v2 hp⟩, fun _ => q6 K236 post v2 hp⟩⟩
            rw [exx, k3, b2, eb]
            exact ⟨vx, fun z => absurd z hw, fun _ => ⟨vx, fun z => absurd z nk3, fun _ => ⟨vx, vb, fun _ => j174, fun z0 => absurd wb z0⟩⟩⟩
          · have same : ∀ y, upd w (π b) 1 y ≠ 0 → w y ≠ 0 := fun y hy => by
              by_cases e2 : y = π b
              · rw [e2]; exact wb
              · rw [pk_un e2] at hy; exact hy
            obtain ⟨more', w', q1, q2, q3, q4, q5, q6⟩ := ih (x + 1) (if more = 0 then 0 else 1) _ (by omega) M1
            refine ⟨more', w', q1, fun y hy => q2 y (UPW.set y hy), fun z => ⟨?_, fun y hy => same y ((q3 z).2.1 y hy), fun c' hc' hx hw' a' ha => ?_⟩, fun z => ?_, by omega, fun K236 post v2 hp => ⟨fun z => absurd z (nI_ge (by omega) (by omega)), fun _ => ?_⟩⟩
            · have := (q3 z).1
              by_cases em : more = 0
              · exact em
              · rw [if_neg em] at this; exact absurd this (by decide)
            · by_cases ec : π c' = x
              · have : c' = c := H.inj (hU c' hc') Uc (ec.trans c2.symm)
                subst this
                rw [kids a' ha]; exact q2 _ (UPW.set _ wb)
              · exact (q3 z).2.2 c' hc' (by omega) hw' a' ha
            · rcases q4 z with y | y
              · left; exact fun em => y (by rw [if_pos em])
              · right; omega
            · have j178 : wp_Model_reach_J178 bank (nI sz) si ei di cn fx km lm rm (wp_Model_reach_L109 bank (nI sz) si ei di cn fx km lm rm K236 post (r + 1)) K236 post more v2 (nI x) w := by
                unfold wp_Model_reach_J178 wp_Model_reach_J179 wp_Model_reach_J215 wp_Model_reach_J224 wp_Model_reach_J229 wp_Model_reach_J230
                rw [exx, b2, eb, k3, nI_1]
                have q7 := q6 K236 post v2 hp
                refine ⟨vx, vb, vx, fun z => absurd z nk, fun _ => ⟨fun em => ⟨fun _ => ?_, fun z => absurd rfl z⟩, fun em => ?_⟩⟩
                · rw [if_pos em] at q7; exact q7
                · rw [if_neg em] at q7; exact q7
              rw [exx, k3, b2, eb]
              exact ⟨vx, fun z => absurd z hw, fun _ => ⟨vx, fun z => absurd z nk3, fun _ => ⟨vx, vb, fun z => absurd z wb, fun _ => ⟨vx, fun z => absurd z nk, fun _ => j178⟩⟩⟩⟩
end
/-! the reference: all that is live -/
section
variable {sz f : Nat} {fre kc lc rc tk km lm rm cons cn fx : Nat → Int32} {π : Nat → Nat} {G : Nat → Prop} {s e d nco bk : Nat} {X : Nat → Prop}
theorem q_rounds (H : HP sz f fre kc lc rc tk km lm rm π G) (hU : ∀ c, X c → US sz f fre c) (hX : ∀ c a, X c → EDG kc lc rc c a → X a) {bank si ei di : Int32} : ∀ (m t : Nat) (w : Nat → Int32), sz - cnt w sz ≤ m → t ≤ cnt w sz → MI sz π X w →
    ∃ w' : Nat → Int32, MI sz π X w' ∧ UPW w w' ∧ (∀ c, X c → w' (π c) ≠ 0 → ∀ a, EDG kc lc rc c a → w' (π a) ≠ 0) ∧ ∀ (K242 : (Nat → Int32) → Prop) (post : Int32 → (Nat → Int32) → Prop) (more : Int32), ¬ more = 0 → K242 w' → wp_Model_reach_L93 bank (nI sz) si ei di cn fx km lm rm K242 post (m + 2) more (nI t) w := by
  have hs := H.2.1
  have last : ∀ (fu t : Nat) (w : Nat → Int32) (K242 : (Nat → Int32) → Prop) (post : Int32 → (Nat → Int32) → Prop), K242 w → wp_Model_reach_L93 bank (nI sz) si ei di cn fx km lm rm K242 post (fu + 1) 0 (nI t) w := fun fu t w K242 post hp => ⟨fun _ => hp, fun _ => ⟨fun _ => hp, fun z => absurd rfl z⟩⟩
  intro m
  induction m with
  | zero =>
    intro t w hm ht hM
    have hle := cnt_le w sz
    obtain ⟨more', w', q1, q2, q3, q4, q5, q6⟩ := q_pass (bank := bank) (si := si) (ei := ei) (di := di) (fx := fx) (cn := cn) H hU hX sz 0 0 w (by omega) hM
    have z : more' = 0 := by
      by_cases z : more' = 0
      · exact z
      · rcases q4 z with y | y
        · exact absurd rfl y
        · have := cnt_le w' sz; omega
    refine ⟨w', q1, q2, fun c hc => (q3 z).2.2 c hc (Nat.zero_le _), fun K242 post more hmore hp => ⟨fun y => absurd y (nI_nlt (by omega) (by omega)), fun _ => ⟨fun y => absurd y hmore, fun _ => ⟨sz + 1, q6 _ _ _ ?_⟩⟩⟩⟩
    rw [z, nI_1]
    exact last _ _ _ _ _ hp
  | succ m ih =>
    intro t w hm ht hM
    have hle := cnt_le w sz
    obtain ⟨more', w', q1, q2, q3, q4, q5, q6⟩ := q_pass (bank := bank) (si := si) (ei := ei) (di := di) (fx := fx) (cn := cn) H hU hX sz 0 0 w (by omega) hM
    by_cases z : more' = 0
    · refine ⟨w', q1, q2, fun c hc => (q3 z).2.2 c hc (Nat.zero_le _), fun K242 post more hmore hp => ⟨fun y => absurd y (nI_nlt (by omega) (by omega)), fun _ => ⟨fun y => absurd y hmore, fun _ => ⟨sz + 1, q6 _ _ _ ?_⟩⟩⟩⟩
      rw [z, nI_1]
      exact last _ _ _ _ _ hp
    · have lt : cnt w sz < cnt w' sz := by
        rcases q4 z with y | y
        · exact absurd rfl y
        · exact y
      obtain ⟨w2, r1, r2, r3, r4⟩ := ih (t + 1) w' (by omega) (by omega) q1
      refine ⟨w2, r1, fun x hx => r2 x (q2 x hx), r3, fun K242 post more hmore hp => ⟨fun y => absurd y (nI_nlt (by omega) (by omega)), fun _ => ⟨fun y => absurd y hmore, fun _ => ⟨sz + 1, q6 _ _ _ ?_⟩⟩⟩⟩
      rw [nI_1]
      exact r4 _ _ _ z hp
theorem q_mcount {bank si ei di : Int32} (hs : sz ≤ 200) {w : Nat → Int32} {post : Int32 → (Nat → Int32) → Prop} (hp : post (nI (cnt w sz)) w) : ∀ (r k : Nat), k + r = sz → wp_Model_reach_L246 bank (nI sz) si ei di cn fx km lm rm post (r + 1) (nI (cnt w k)) (nI k) w := by
  intro r
  induction r with
  | zero =>
    intro k ek
    have : k = sz := ek
    subst this
    exact ⟨fun _ => hp, fun z => absurd (Int32.le_refl _) z⟩
  | succ r ih =>
    intro k ek
    have := ih (k + 1) (by omega)
    have cu : cnt w (k + 1) = cnt w k + (if w k = 0 then 0 else 1) := rfl
    refine ⟨fun z => absurd z (nI_ge (by omega) (by omega)), fun _ => ⟨vp_in_nI (by omega) (by decide), ?_⟩⟩
    unfold wp_Model_reach_J270
    rw [nI_clamp (n := k) (by omega), nI_1, nI_1]
    refine ⟨fun z => ?_, fun z => ?_⟩
    · rw [cu, if_pos z] at this; exact this
    · rw [cu, if_neg z] at this; exact this
theorem q_mreach (H : HP sz f fre kc lc rc tk km lm rm π G) (Us : US sz f fre s) (Ue : US sz f fre e) (Ud : US sz f fre d) (hn : nco ≤ 200) (hc : ∀ k, k ≤ nco → ∃ c, US sz f fre c ∧ cons k = nI c ∧ cn k = nI (π c)) (h0 : cn 0 = nI 0) (hbk : bk < 2) (hfx : fx bk = nI nco) (w : Nat → Int32) :
    ∃ w' : Nat → Int32, (∀ x, x < sz → (w' x ≠ 0 ↔ ∃ c, RCH kc lc rc (ROOT cons nco s e d) c ∧ π c = x)) ∧ (∀ x, x < sz → w' x ≠ 0 → w' x = 1) ∧ ∀ post : Int32 → (Nat → Int32) → Prop, post (nI (cnt w' sz)) w' → wp_Model_reach (nI bk) (nI sz) (nI (π s)) (nI (π e)) (nI (π d)) cn fx km lm w rm post := by
  have hs := H.2.1
  have hU := H.rchU Us Ue Ud hc
  have hX : ∀ c a, RCH kc lc rc (ROOT cons nco s e d) c → EDG kc lc rc c a → RCH kc lc rc (ROOT cons nco s e d) a := fun c a h e => h.go e
  have ls := H.lt Us
  have le := H.lt Ue
  have ld := H.lt Ud
  -- the roots that are registers
  have init : ∀ (r k : Nat) (w : Nat → Int32), k + r = sz → ∃ w' : Nat → Int32, (∀ x, x < k → w' x = w x) ∧ (∀ x, k ≤ x → x < sz → (w' x ≠ 0 ↔ (x < 3 ∨ x = π s ∨ x = π e ∨ x = π d)) ∧ (w' x ≠ 0 → w' x = 1)) ∧ ∀ (K56 : (Nat → Int32) → Prop) (post : Int32 → (Nat → Int32) → Prop), K56 w' → wp_Model_reach_L2 (nI bk) (nI sz) (nI (π s)) (nI (π e)) (nI (π d)) cn fx km lm rm K56 post (r + 1) (nI k) w := by
    intro r
    induction r with
    | zero =>
      intro k w ek
      have : k = sz := ek
      subst this
      exact ⟨w, fun _ _ => rfl, fun x h1 h2 => absurd h1 (by omega), fun K56 post hp => ⟨fun _ => hp, fun z => absurd (Int32.le_refl _) z⟩⟩
    | succ r ih =>
      intro k w ek
      by_cases hr : k < 3 ∨ k = π s ∨ k = π e ∨ k = π d
      · obtain ⟨w', q1, q2, q3⟩ := ih (k + 1) (upd w k 1) (by omega)
        refine ⟨w', fun x hx => (q1 x (by omega)).trans (pk_un (by omega)), fun x h1 h2 => ?_, fun K56 post hp => ⟨fun z => absurd z (nI_ge (by omega) (by omega)), fun _ => ?_⟩⟩
        · by_cases ex : x = k
          · subst ex
            rw [q1 x (by omega), pk_us]
            exact ⟨⟨fun _ => hr, fun _ => by decide⟩, fun _ => rfl⟩
          · exact q2 x (by omega) h2
        · have fin : wp_Model_reach_J44 (nI bk) (nI sz) (nI (π s)) (nI (π e)) (nI (π d)) cn fx km lm rm (wp_Model_reach_L2 (nI bk) (nI sz) (nI (π s)) (nI (π e)) (nI (π d)) cn fx km lm rm K56 post (r + 1)) K56 post (nI k) (nI k) w := by
            unfold wp_Model_reach_J44 wp_Model_reach_J49
            rw [nI_clamp (n := k) (by omega), nI_1]
            exact ⟨vp_in_nI (by omega) (by decide), q3 K56 post hp⟩
          refine ⟨fun _ => fin, fun z1 => ⟨fun _ => fin, fun z2 => ⟨fun _ => fin, fun z3 => ⟨fun _ => fin, fun z4 => ?_⟩⟩⟩⟩
          rcases hr with y | y | y | y
          · exact absurd (nI_lt (b := 3) y (by decide)) z1
          · exact absurd (by rw [y]) z2
          · exact absurd (by rw [y]) z3
          · exact absurd (by rw [y]) z4
      · obtain ⟨w', q1, q2, q3⟩ := ih (k + 1) (upd w k 0) (by omega)
        refine ⟨w', fun x hx => (q1 x (by omega)).trans (pk_un (by omega)), fun x h1 h2 => ?_, fun K56 post hp => ⟨fun z => absurd z (nI_ge (by omega) (by omega)), fun _ => ?_⟩⟩
        · by_cases ex : x = k
          · subst ex
            rw [q1 x (by omega), pk_us]
            exact ⟨⟨fun z => absurd rfl z, fun z => absurd z hr⟩, fun z => absurd rfl z⟩
          · exact q2 x (by omega) h2
        · refine ⟨fun z => absurd (Or.inl ((nI_ltI (b := 3) (by omega) (by decide)).mp z)) hr, fun _ => ⟨fun z => absurd (Or.inr (Or.inl ((nI_eq (by omega) (by omega)).mp z))) hr, fun _ => ⟨fun z => absurd (Or.inr (Or.inr (Or.inl ((nI_eq (by omega) (by omega)).mp z)))) hr, fun _ => ⟨fun z => absurd (Or.inr (Or.inr (Or.inr ((nI_eq (by omega) (by omega)).mp z)))) hr, fun _ => ?_⟩⟩⟩⟩
          unfold wp_Model_reach_J49
          rw [nI_clamp (n := k) (by omega), nI_1]
          exact ⟨vp_in_nI (by omega) (by decide), q3 K56 post hp⟩
  obtain ⟨w1, -, i2, i3⟩ := init sz 0 w (by omega)
  have m1 : MI sz π (RCH kc lc rc (ROOT cons nco s e d)) w1 := fun x hx hw => by
    refine ⟨(i2 x (by omega) hx).2 hw, ?_⟩
    rcases (i2 x (by omega) hx).1.mp hw with y | y | y | y
    · exact ⟨x, RCH.root (Or.inl y), (H.nil y).2.1⟩
    · exact ⟨s, RCH.root (Or.inr (Or.inl rfl)), y.symm⟩
    · exact ⟨e, RCH.root (Or.inr (Or.inr (Or.inl rfl))), y.symm⟩
    · exact ⟨d, RCH.root (Or.inr (Or.inr (Or.inr (Or.inl rfl)))), y.symm⟩
  -- the constants
  have vb : vp_in (nI bk) 2 := vp_in_nI hbk (by decide)
  have eb : (nI bk).toNatClampNeg = bk := nI_clamp (by omega)
  have con : ∀ (r k : Nat) (w : Nat → Int32), k + r = nco + 1 → MI sz π (RCH kc lc rc (ROOT cons nco s e d)) w → ∃ w' : Nat → Int32, MI sz π (RCH kc lc rc (ROOT cons nco s e d)) w' ∧ UPW w w' ∧ (∀ j c, k ≤ j → j ≤ nco → US sz f fre c → cons j = nI c → w' (π c) ≠ 0) ∧ ∀ (K89 : (Nat → Int32) → Prop) (post : Int32 → (Nat → Int32) → Prop), K89 w' → wp_Model_reach_L58 (nI bk) (nI sz) (nI (π s)) (nI (π e)) (nI (π d)) cn fx km lm rm K89 post (r + 1) (nI k) w := by
    intro r
    induction r with
    | zero =>
      intro k w ek hM
      refine ⟨w, hM, fun _ h => h, fun j c h1 h2 => absurd h1 (by omega), fun K89 post hp => ?_⟩
      unfold wp_Model_reach_L58
      rw [eb, hfx]
      exact ⟨vb, fun _ => hp, fun z => absurd (nI_lt (by omega) (by omega)) z⟩
    | succ r ih =>
      intro k w ek hM
      obtain ⟨c, c1, c2, c3⟩ := hc k (by omega)
      have lcc := H.lt c1
      have Xc : RCH kc lc rc (ROOT cons nco s e d) (if k = 0 then 0 else c) := by
        by_cases hk : k = 0
        · rw [if_pos hk]; exact RCH.root (Or.inl (by omega))
        · rw [if_neg hk]; exact RCH.root (Or.inr (Or.inr (Or.inr (Or.inr ⟨k, by omega, by omega, c2, by omega⟩))))
      have ce : π (if k = 0 then 0 else c) = π c := by
        by_cases hk : k = 0
        · rw [if_pos hk]
          subst hk
          have := (nI_eq (by omega) (by omega)).mp (c3.symm.trans h0)
          rw [this, (H.nil (by omega)).2.1]
        · rw [if_neg hk]
      have M1 := hM.set Xc
      rw [ce] at M1
      obtain ⟨w', q1, q2, q3, q4⟩ := ih (k + 1) (upd w (π c) 1) (by omega) M1
      refine ⟨w', q1, fun x hx => q2 x (UPW.set x hx), fun j x h1 h2 h3 h4 => ?_, fun K89 post hp => ?_⟩
      · by_cases ej : j = k
        · rw [ej] at h4
          have lx := H.lt h3
          rw [(nI_eq (by omega) (by omega)).mp (h4.symm.trans c2)]
          exact q2 _ (by rw [pk_us]; decide)
        · exact q3 j x (by omega) h2 h3 h4
      · unfold wp_Model_reach_L58
        rw [eb, hfx, nI_clamp (n := k) (by omega), c3, nI_clamp (n := π c) (by omega), nI_1]
        exact ⟨vb, fun z => absurd z (nI_nlt (by omega) (by omega)), fun _ => ⟨vp_in_nI (by omega) (by decide), vp_in_nI (by omega) (by decide), q4 K89 post hp⟩⟩
  obtain ⟨w2, c1, c2, c3, c4⟩ := con (nco + 1) 0 w1 (by omega) m1
  obtain ⟨w3, d1, d2, d3, d4⟩ := q_rounds (bank := nI bk) (si := nI (π s)) (ei := nI (π e)) (di := nI (π d)) (fx := fx) (cn := cn) H hU hX sz 0 w2 (by omega) (by omega) c1
  refine ⟨w3, fun x hx => ⟨fun z => (d1 x hx z).2, fun ⟨c, hcx, ex⟩ => ?_⟩, fun x hx z => (d1 x hx z).1, fun post hp => ⟨sz + 1, i3 _ _ ⟨nco + 2, c4 _ _ ⟨sz + 2, d4 _ _ 1 (by decide) ⟨sz + 1, q_mcount hs hp sz 0 (by omega)⟩⟩⟩⟩⟩
  have key : RCH kc lc rc (ROOT cons nco s e d) c ∧ w3 (π c) ≠ 0 := by
    refine hcx (fun c => RCH kc lc rc (ROOT cons nco s e d) c ∧ w3 (π c) ≠ 0) (fun r hr => ⟨RCH.root hr, ?_⟩) (fun c a hc ha => ⟨hX c a hc.1 ha, d3 c hc.1 hc.2 a ha⟩)
    have Ur := hU r (RCH.root hr)
    have lr := H.lt Ur
    rcases hr with y | y | y | y | ⟨k, k1, k2, k3, k4⟩
    · exact d2 _ (c2 _ ((i2 _ (by omega) (by omega)).1.mpr (Or.inl (by rw [(H.nil y).2.1]; exact y))))
    · exact d2 _ (c2 _ ((i2 _ (by omega) (by omega)).1.mpr (Or.inr (Or.inl (by rw [y])))))
    · exact d2 _ (c2 _ ((i2 _ (by omega) (by omega)).1.mpr (Or.inr (Or.inr (Or.inl (by rw [y]))))))
    · exact d2 _ (c2 _ ((i2 _ (by omega) (by omega)).1.mpr (Or.inr (Or.inr (Or.inr (by rw [y]))))))
    · exact d2 _ (c3 k r (by omega) k2 Ur k3)
  rw [← ex]
  exact key.2
/-- both count the same cells -/
theorem live_count (H : HP sz f fre kc lc rc tk km lm rm π G) (hU : ∀ c, X c → US sz f fre c) {L : List Nat} (hL : L.Nodup) (hLm : ∀ c, c ∈ L ↔ X c) {w : Nat → Int32} (hw : ∀ x, x < sz → (w x ≠ 0 ↔ ∃ c, X c ∧ π c = x)) : cnt w sz = L.length := by
  have nd : ∀ l : List Nat, l.Nodup → (∀ c ∈ l, X c) → (l.map π).Nodup := by
    intro l
    induction l with
    | nil => intro _ _; exact List.nodup_nil
    | cons a l ih =>
      intro h hx
      obtain ⟨h1, h2⟩ := List.nodup_cons.mp h
      refine List.nodup_cons.mpr ⟨fun z => ?_, ih h2 (fun c hc => hx c (List.mem_cons_of_mem _ hc))⟩
      obtain ⟨b, b1, b2⟩ := List.mem_map.mp z
      exact h1 (by rw [← H.inj (hU b (hx b (List.mem_cons_of_mem _ b1))) (hU a (hx a List.mem_cons_self)) b2]; exact b1)
  have n1 := nd L hL (fun c hc => (hLm c).mp hc)
  have bd : ∀ x ∈ L.map π, x < sz := fun x hx => by
    obtain ⟨b, b1, b2⟩ := List.mem_map.mp hx
    rw [← b2]
    exact (H.lt (hU b ((hLm b).mp b1))).2.1
  have := cnt_chi n1 bd
  rw [List.length_map] at this
  rw [← this]
  refine cnt_same sz (fun x hx => ?_)
  rw [chi0]
  refine ⟨fun z z2 => ?_, fun z => ?_⟩
  · obtain ⟨b, b1, b2⟩ := List.mem_map.mp z2
    exact absurd z ((hw x hx).mpr ⟨b, (hLm b).mp b1, b2⟩)
  · by_cases y : w x = 0
    · exact y
    · obtain ⟨c, c1, c2⟩ := (hw x hx).mp y
      exact absurd (List.mem_map.mpr ⟨c, (hLm c).mpr c1, c2⟩) z
end
