/-! the reference's tasks put out what a generator says -/
abbrev KT : Type := Int32 → Int32 → Int32 → (Nat → Int32) → (Nat → Int32) → (Nat → Int32) → (Nat → Int32) → (Nat → Int32) → (Nat → Int32) → (Nat → Int32) → (Nat → Int32) → (Nat → Int32) → (Nat → Int32) → (Nat → Int32) → (Nat → Int32) → Prop
def LPm (bank : Int32) (C fo N S W : Nat → Int32) (KK PP : KT) (k tc fc : Nat) (ab ar fi fx li nm op pd wh wi x1 x2 : Nat → Int32) : Prop := wp_Model_translate_L46 bank C fo N S W KK PP (2001 - k) ((1 : Int32) - bank) 0 (nI k) (nI tc) (nI fc) ab ar fi fx li nm op pd wh wi x1 x2
/-- the tasks from tc on: the first of the list is the top -/
def STK (ab wh wi : Nat → Int32) (tc : Nat) : List (Int32 × Int32 × Int32) → Prop
  | [] => True
  | x :: t => (wh (tc + t.length) = x.1 ∧ ab (tc + t.length) = x.2.1 ∧ wi (tc + t.length) = x.2.2) ∧ STK ab wh wi tc t
theorem STK.to {ab wh wi ab' wh' wi' : Nat → Int32} {tc : Nat} : ∀ {l : List (Int32 × Int32 × Int32)}, STK ab wh wi tc l → (∀ i, i < tc + l.length → ab' i = ab i ∧ wh' i = wh i ∧ wi' i = wi i) → STK ab' wh' wi' tc l
  | [], _, _ => trivial
  | x :: t, h, e => ⟨by
      obtain ⟨e1, e2, e3⟩ := e (tc + t.length) (by show _ < tc + (t.length + 1); omega)
      rw [e1, e2, e3]
      exact h.1, STK.to h.2 (fun i hi => e i (by show i < tc + (t.length + 1); omega))⟩
def ML (op x1 x2 : Nat → Int32) : Nat → List (Nat × Nat × Nat) → Prop
  | _, [] => True
  | p, x :: t => (op p = nI x.1 ∧ x1 p = nI x.2.1 ∧ x2 p = nI x.2.2) ∧ ML op x1 x2 (p + 1) t
theorem ML.app {op x1 x2 : Nat → Int32} : ∀ {L M : List (Nat × Nat × Nat)} {p : Nat}, ML op x1 x2 p L → ML op x1 x2 (p + L.length) M → ML op x1 x2 p (L ++ M)
  | [], _, _, _, h => h
  | _ :: l, _, p, h1, h2 => ⟨h1.1, ML.app h1.2 (by rw [show p + 1 + l.length = p + (l.length + 1) from by omega]; exact h2)⟩
theorem ML.to {op x1 x2 op' x1' x2' : Nat → Int32} : ∀ {L : List (Nat × Nat × Nat)} {p : Nat}, ML op x1 x2 p L → (∀ k, p ≤ k → k < p + L.length → op' k = op k ∧ x1' k = x1 k ∧ x2' k = x2 k) → ML op' x1' x2' p L
  | [], _, _, _ => trivial
  | _ :: l, p, h1, h2 => ⟨by
      obtain ⟨e1, e2, e3⟩ := h2 p (Nat.le_refl _) (by show p < p + (l.length + 1); omega)
      rw [e1, e2, e3]
      exact h1.1, ML.to h1.2 (fun k hk hk2 => h2 k (by omega) (by show k < p + (l.length + 1); omega))⟩
theorem ML.at {op x1 x2 : Nat → Int32} : ∀ {L : List (Nat × Nat × Nat)} {p k : Nat}, ML op x1 x2 p L → k < L.length → op (p + k) = nI (L.getD k (0, 0, 0)).1 ∧ x1 (p + k) = nI (L.getD k (0, 0, 0)).2.1 ∧ x2 (p + k) = nI (L.getD k (0, 0, 0)).2.2
  | [], _, _, _, h => absurd h (Nat.not_lt_zero _)
  | _ :: _, _, 0, h1, _ => h1.1
  | _ :: _, p, k + 1, h1, h2 => by
    have := ML.at (k := k) h1.2 (Nat.lt_of_succ_lt_succ h2)
    rw [show p + (k + 1) = p + 1 + k from by omega]
    exact this
def MC (b : Nat) (fi : Nat → Int32) : Nat → List Nat → Prop
  | _, [] => True
  | p, x :: t => fi p = nI (b + x) ∧ MC b fi (p + 1) t
theorem MC.app {b : Nat} {fi : Nat → Int32} : ∀ {L M : List Nat} {p : Nat}, MC b fi p L → MC b fi (p + L.length) M → MC b fi p (L ++ M)
  | [], _, _, _, h => h
  | _ :: l, _, p, h1, h2 => ⟨h1.1, MC.app h1.2 (by rw [show p + 1 + l.length = p + (l.length + 1) from by omega]; exact h2)⟩
theorem MC.to {b : Nat} {fi fi' : Nat → Int32} : ∀ {L : List Nat} {p : Nat}, MC b fi p L → (∀ k, p ≤ k → k < p + L.length → fi' k = fi k) → MC b fi' p L
  | [], _, _, _ => trivial
  | _ :: l, p, h1, h2 => ⟨by rw [h2 p (Nat.le_refl _) (by show p < p + (l.length + 1); omega)]; exact h1.1, MC.to h1.2 (fun k hk hk2 => h2 k (by omega) (by show k < p + (l.length + 1); omega))⟩
/-- the other bank is left alone -/
def KEPT (to : Nat) (fi fx li op x1 x2 fi' fx' li' op' x1' x2' : Nat → Int32) : Prop := (∀ k, k ≠ to → li' k = li k ∧ fx' k = fx k) ∧ (∀ k, (k < 512 * to ∨ 512 * to + 512 ≤ k) → op' k = op k ∧ x1' k = x1 k ∧ x2' k = x2 k) ∧ (∀ k, (k < 256 * to ∨ 256 * to + 256 ≤ k) → fi' k = fi k)
theorem KEPT.refl {to : Nat} {fi fx li op x1 x2 : Nat → Int32} : KEPT to fi fx li op x1 x2 fi fx li op x1 x2 := ⟨fun _ _ => ⟨rfl, rfl⟩, fun _ _ => ⟨rfl, rfl, rfl⟩, fun _ _ => rfl⟩
theorem KEPT.trans {to : Nat} {fi fx li op x1 x2 fi' fx' li' op' x1' x2' fi2 fx2 li2 op2 x12 x22 : Nat → Int32} (h : KEPT to fi fx li op x1 x2 fi' fx' li' op' x1' x2') (h2 : KEPT to fi' fx' li' op' x1' x2' fi2 fx2 li2 op2 x12 x22) : KEPT to fi fx li op x1 x2 fi2 fx2 li2 op2 x12 x22 :=
  ⟨fun k hk => ⟨(h2.1 k hk).1.trans (h.1 k hk).1, (h2.1 k hk).2.trans (h.1 k hk).2⟩, fun k hk => ⟨(h2.2.1 k hk).1.trans (h.2.1 k hk).1, (h2.2.1 k hk).2.1.trans (h.2.1 k hk).2.1, (h2.2.1 k hk).2.2.trans (h.2.1 k hk).2.2⟩, fun k hk => (h2.2.2 k hk).trans (h.2.2 k hk)⟩
def MOK (b to : Nat) (r : List (Nat × Nat × Nat) × List Nat) (pc nc : Nat) (fi fx li op x1 x2 fi' fx' li' op' x1' x2' : Nat → Int32) : Prop := li' to = nI (pc + r.1.length) ∧ fx' to = nI (nc + r.2.length) ∧ (∀ k, k ≠ to → li' k = li k ∧ fx' k = fx k) ∧ (∀ k, (k < 512 * to + pc ∨ 512 * to + 512 ≤ k) → op' k = op k ∧ x1' k = x1 k ∧ x2' k = x2 k) ∧ (∀ k, (k < 256 * to + nc ∨ 256 * to + 256 ≤ k) → fi' k = fi k) ∧ ML op' x1' x2' (512 * to + pc) r.1 ∧ MC b fi' (256 * to + nc) r.2
theorem MOK.kept {b to : Nat} {r : List (Nat × Nat × Nat) × List Nat} {pc nc : Nat} {fi fx li op x1 x2 fi' fx' li' op' x1' x2' : Nat → Int32} (h : MOK b to r pc nc fi fx li op x1 x2 fi' fx' li' op' x1' x2') : KEPT to fi fx li op x1 x2 fi' fx' li' op' x1' x2' :=
  ⟨h.2.2.1, fun k hk => h.2.2.2.1 k (by omega), fun k hk => h.2.2.2.2.1 k (by omega)⟩
theorem MOK.seq {b to : Nat} {r s : List (Nat × Nat × Nat) × List Nat} {pc nc : Nat} {fi fx li op x1 x2 fi' fx' li' op' x1' x2' fi2 fx2 li2 op2 x12 x22 : Nat → Int32} (h : MOK b to r pc nc fi fx li op x1 x2 fi' fx' li' op' x1' x2') (h2 : MOK b to s (pc + r.1.length) (nc + r.2.length) fi' fx' li' op' x1' x2' fi2 fx2 li2 op2 x12 x22) (hl : pc + r.1.length ≤ 512) (hc : nc + r.2.length ≤ 256) : MOK b to (r.1 ++ s.1, r.2 ++ s.2) pc nc fi fx li op x1 x2 fi2 fx2 li2 op2 x12 x22 := by
  obtain ⟨a1, a2, a3, a4, a5, a6, a7⟩ := h
  obtain ⟨b1, b2, b3, b4, b5, b6, b7⟩ := h2
  refine ⟨by rw [b1, List.length_append, Nat.add_assoc], by rw [b2, List.length_append, Nat.add_assoc], fun k hk => ⟨(b3 k hk).1.trans (a3 k hk).1, (b3 k hk).2.trans (a3 k hk).2⟩, fun k hk => ?_, fun k hk => (b5 k (by omega)).trans (a5 k hk), ML.app (a6.to (fun k hk hk2 => b4 k (by omega))) (by rw [Nat.add_assoc]; exact b6), MC.app (a7.to (fun k hk hk2 => b5 k (by omega))) (by rw [Nat.add_assoc]; exact b7)⟩
  obtain ⟨c1, c2, c3⟩ := b4 k (by omega)
  obtain ⟨d1, d2, d3⟩ := a4 k hk
  exact ⟨c1.trans d1, c2.trans d2, c3.trans d3⟩
/-- what is said of the frames stays true when frames are added -/
def FST (P : Nat → (Nat → Int32) → (Nat → Int32) → (Nat → Int32) → Prop) : Prop := ∀ fc fc' ar nm pd ar' nm' pd', P fc ar nm pd → fc ≤ fc' → (∀ i, i < fc → ar' i = ar i ∧ nm' i = nm i ∧ pd' i = pd i) → P fc' ar' nm' pd'
section
variable {bank : Int32} {b to : Nat} {C fo N S W : Nat → Int32} {KK PP : KT} {P Q : Nat → (Nat → Int32) → (Nat → Int32) → (Nat → Int32) → Prop} {g h : GG} {bl bc bf bs bt bl' bc' bf' bs' bt' : Nat} {l : List (Int32 × Int32 × Int32)}
def MR (bank : Int32) (b to : Nat) (C fo N S W : Nat → Int32) (KK PP : KT) (P : Nat → (Nat → Int32) → (Nat → Int32) → (Nat → Int32) → Prop) (bl bc bf bs bt : Nat) (l : List (Int32 × Int32 × Int32)) (g : GG) : Prop := GB g bl bc ∧
  ∀ (k tc fc pc nc : Nat) (ab ar fi fx li nm op pd wh wi x1 x2 : Nat → Int32), P fc ar nm pd → STK ab wh wi tc l → li to = nI pc → fx to = nI nc → pc + bl ≤ 510 → nc + bc ≤ 200 → fc + bf ≤ 40 → k + bs ≤ 2000 → tc + bt ≤ 600 →
    (∀ (k' fc' : Nat) (r : List (Nat × Nat × Nat) × List Nat) (ab' ar' fi' fx' li' nm' op' pd' wh' wi' x1' x2' : Nat → Int32), k ≤ k' → k' ≤ k + bs → fc ≤ fc' → fc' ≤ fc + bf → (∀ i, i < tc → ab' i = ab i ∧ wh' i = wh i ∧ wi' i = wi i) → (∀ i, i < fc → ar' i = ar i ∧ nm' i = nm i ∧ pd' i = pd i) → g pc nc = .ok r → MOK b to r pc nc fi fx li op x1 x2 fi' fx' li' op' x1' x2' → LPm bank C fo N S W KK PP k' tc fc' ab' ar' fi' fx' li' nm' op' pd' wh' wi' x1' x2') →
    (∀ (e ts fr : Int32) (ab' ar' fi' fx' li' nm' op' pd' wh' wi' x1' x2' : Nat → Int32), g pc nc = .error e → KEPT to fi fx li op x1 x2 fi' fx' li' op' x1' x2' → (∃ pc', pc' ≤ 510 ∧ li' to = nI pc') → KK e ts fr ab' ar' fi' fx' li' nm' op' pd' wh' wi' x1' x2') →
    LPm bank C fo N S W KK PP k (tc + l.length) fc ab ar fi fx li nm op pd wh wi x1 x2
theorem MR.mono (hg : MR bank b to C fo N S W KK PP P bl bc bf bs bt l g) (h1 : bl ≤ bl') (h2 : bc ≤ bc') (h3 : bf ≤ bf') (h4 : bs ≤ bs') (h5 : bt ≤ bt') : MR bank b to C fo N S W KK PP P bl' bc' bf' bs' bt' l g :=
  ⟨hg.1.mono h1 h2, fun k tc fc pc nc ab ar fi fx li nm op pd wh wi x1 x2 a1 a2 a3 a4 a5 a6 a7 a8 a9 a10 a11 => hg.2 k tc fc pc nc ab ar fi fx li nm op pd wh wi x1 x2 a1 a2 a3 a4 (by omega) (by omega) (by omega) (by omega) (by omega) (fun k' fc' r ab' ar' fi' fx' li' nm' op' pd' wh' wi' x1' x2' b0 b1 b2 b3 => a10 k' fc' r ab' ar' fi' fx' li' nm' op' pd' wh' wi' x1' x2' b0 (by omega) b2 (by omega)) a11⟩
theorem MR.pre (hg : MR bank b to C fo N S W KK PP P bl bc bf bs bt l g) (hP : ∀ fc ar nm pd, Q fc ar nm pd → P fc ar nm pd) : MR bank b to C fo N S W KK PP Q bl bc bf bs bt l g :=
  ⟨hg.1, fun k tc fc pc nc ab ar fi fx li nm op pd wh wi x1 x2 a1 => hg.2 k tc fc pc nc ab ar fi fx li nm op pd wh wi x1 x2 (hP _ _ _ _ a1)⟩
theorem MR.nil : MR bank b to C fo N S W KK PP P 0 0 0 0 0 [] gskip :=
  ⟨GB.skip, fun k tc fc pc nc ab ar fi fx li nm op pd wh wi x1 x2 a1 a2 a3 a4 a5 a6 a7 a8 a9 a10 a11 => a10 k fc ([], []) ab ar fi fx li nm op pd wh wi x1 x2 (Nat.le_refl _) (by omega) (Nat.le_refl _) (by omega) (fun _ _ => ⟨rfl, rfl, rfl⟩) (fun _ _ => ⟨rfl, rfl, rfl⟩) rfl ⟨a3, a4, fun _ _ => ⟨rfl, rfl⟩, fun _ _ => ⟨rfl, rfl, rfl⟩, fun _ _ => rfl, trivial, trivial⟩⟩
theorem MR.cons {x : Int32 × Int32 × Int32} (hP : FST P) (hg : MR bank b to C fo N S W KK PP P bl bc bf bs bt [x] g) (hh : MR bank b to C fo N S W KK PP P bl' bc' bf' bs' bt' l h) : MR bank b to C fo N S W KK PP P (bl + bl') (bc + bc') (bf + bf') (bs + bs') (Nat.max (l.length + bt) bt') (x :: l) (gseq g h) := by
  refine ⟨hg.1.seq hh.1, fun k tc fc pc nc ab ar fi fx li nm op pd wh wi x1 x2 a1 a2 a3 a4 a5 a6 a7 a8 a9 a10 a11 => ?_⟩
  have m1 : l.length + bt ≤ Nat.max (l.length + bt) bt' := Nat.le_max_left _ _
  have m2 : bt' ≤ Nat.max (l.length + bt) bt' := Nat.le_max_right _ _
  refine hg.2 k (tc + l.length) fc pc nc ab ar fi fx li nm op pd wh wi x1 x2 a1 ⟨a2.1, trivial⟩ a3 a4 (by omega) (by omega) (by omega) (by omega) (by omega) (fun k1 fc1 r ab1 ar1 fi1 fx1 li1 nm1 op1 pd1 wh1 wi1 x11 x21 b0 b1 b2 b3 b4 b5 b6 b7 => ?_) (fun e ts fr ab1 ar1 fi1 fx1 li1 nm1 op1 pd1 wh1 wi1 x11 x21 b1 b2 b3 => a11 e ts fr ab1 ar1 fi1 fx1 li1 nm1 op1 pd1 wh1 wi1 x11 x21 (by unfold gseq; rw [b1]) b2 b3)
  have gb := hg.1 pc nc
  rw [b6] at gb
  simp only at gb
  refine hh.2 k1 tc fc1 (pc + r.1.length) (nc + r.2.length) ab1 ar1 fi1 fx1 li1 nm1 op1 pd1 wh1 wi1 x11 x21 (hP _ _ _ _ _ _ _ _ a1 b2 b5) (a2.2.to b4) b7.1 b7.2.1 (by omega) (by omega) (by omega) (by omega) (by omega) (fun k2 fc2 s ab2 ar2 fi2 fx2 li2 nm2 op2 pd2 wh2 wi2 x12 x22 c0 c1 c2 c3 c4 c5 c6 c7 => ?_) (fun e ts fr ab2 ar2 fi2 fx2 li2 nm2 op2 pd2 wh2 wi2 x12 x22 c1 c2 c3 => a11 e ts fr ab2 ar2 fi2 fx2 li2 nm2 op2 pd2 wh2 wi2 x12 x22 (by unfold gseq; rw [b6]; simp only; rw [c1]) (b7.kept.trans c2) c3)
  refine a10 k2 fc2 (r.1 ++ s.1, r.2 ++ s.2) ab2 ar2 fi2 fx2 li2 nm2 op2 pd2 wh2 wi2 x12 x22 (by omega) (by omega) (by omega) (by omega) (fun i hi => ?_) (fun i hi => ?_) (by unfold gseq; rw [b6]; simp only; rw [c6]) (b7.seq c7 (by omega) (by omega))
  · obtain ⟨d1, d2, d3⟩ := c4 i hi
    obtain ⟨e1, e2, e3⟩ := b4 i (by omega)
    exact ⟨d1.trans e1, d2.trans e2, d3.trans e3⟩
  · obtain ⟨d1, d2, d3⟩ := c5 i (by omega)
    obtain ⟨e1, e2, e3⟩ := b5 i hi
    exact ⟨d1.trans e1, d2.trans e2, d3.trans e3⟩
end
/-! the steps of the reference's loop over its tasks -/
section
variable {bank : Int32} {b to : Nat} {C fo N S W : Nat → Int32} {KK PP : KT} {P Q : Nat → (Nat → Int32) → (Nat → Int32) → (Nat → Int32) → Prop} {g h : GG} {bl bc bf bs bt : Nat} {l : List (Int32 × Int32 × Int32)} {k tc fc pc nc : Nat} {ab ar fi fx li nm op pd wh wi x1 x2 : Nat → Int32}
theorem LPm.s0 (hk : k < 2000) (ht : tc < 600) (hw : wh tc = 0) (hp : wp_Model_expression bank (nI tc) (nI fc) ab ar C fi fx fo li nm N op pd S W wh wi x1 x2 (ab tc) (wi tc) (fun r ts fr ab ar fi fx li nm op pd wh wi x1 x2 => wp_Model_translate_L46 bank C fo N S W KK PP (2000 - k) ((1 : Int32) - bank) r (nI (k + 1)) ts fr ab ar fi fx li nm op pd wh wi x1 x2)) : LPm bank C fo N S W KK PP k (tc + 1) fc ab ar fi fx li nm op pd wh wi x1 x2 := by
  unfold LPm
  rw [show 2001 - k = (2000 - k) + 1 by omega]
  refine ⟨fun c => absurd c (nI_ge (a := k) (b := 2000) hk (by decide)), fun _ => ⟨fun c => absurd c (nI_nle (by omega) (by omega)), fun _ => ⟨fun _ => ?_, fun z => absurd rfl z⟩⟩⟩
  have vt : vp_in (nI tc) 600 := vp_in_nI ht (by decide)
  rw [nI_pred, nI_clamp (n := tc) (by omega), hw]
  refine ⟨vt, vt, vt, fun _ => ?_, fun z => absurd rfl z⟩
  unfold wp_Model_translate_J223
  rw [nI_1]
  exact hp
theorem LPm.s1 (hk : k < 2000) (ht : tc < 600) (hw : wh tc = 1) (hp : wp_Model_emit bank li op x1 x2 (ab tc) (0 : Int32) (0 : Int32) (fun _ li op x1 x2 => LPm bank C fo N S W KK PP (k + 1) tc fc ab ar fi fx li nm op pd wh wi x1 x2)) : LPm bank C fo N S W KK PP k (tc + 1) fc ab ar fi fx li nm op pd wh wi x1 x2 := by
  unfold LPm at hp ⊢
  rw [show 2001 - k = (2000 - k) + 1 by omega]
  rw [show 2001 - (k + 1) = 2000 - k by omega] at hp
  refine ⟨fun c => absurd c (nI_ge (a := k) (b := 2000) hk (by decide)), fun _ => ⟨fun c => absurd c (nI_nle (by omega) (by omega)), fun _ => ⟨fun _ => ?_, fun z => absurd rfl z⟩⟩⟩
  have vt : vp_in (nI tc) 600 := vp_in_nI ht (by decide)
  rw [nI_pred, nI_clamp (n := tc) (by omega), hw]
  refine ⟨vt, vt, vt, fun z => absurd z (by decide), fun _ => ⟨fun _ => ?_, fun z => absurd rfl z⟩⟩
  unfold wp_Model_translate_J223
  rw [nI_1]
  exact hp
theorem LPm.s2 (hk : k < 2000) (ht : tc < 600) (hw : wh tc = 2) (hp : wp_Model_body bank (nI tc) ab li op wh wi x1 x2 (ab tc) (wi tc) (fun ts ab li op wh wi x1 x2 => wp_Model_translate_L46 bank C fo N S W KK PP (2000 - k) ((1 : Int32) - bank) 0 (nI (k + 1)) ts (nI fc) ab ar fi fx li nm op pd wh wi x1 x2)) : LPm bank C fo N S W KK PP k (tc + 1) fc ab ar fi fx li nm op pd wh wi x1 x2 := by
  unfold LPm
  rw [show 2001 - k = (2000 - k) + 1 by omega]
  refine ⟨fun c => absurd c (nI_ge (a := k) (b := 2000) hk (by decide)), fun _ => ⟨fun c => absurd c (nI_nle (by omega) (by omega)), fun _ => ⟨fun _ => ?_, fun z => absurd rfl z⟩⟩⟩
  have vt : vp_in (nI tc) 600 := vp_in_nI ht (by decide)
  rw [nI_pred, nI_clamp (n := tc) (by omega), hw]
  refine ⟨vt, vt, vt, fun z => absurd z (by decide), fun _ => ⟨fun z => absurd z (by decide), fun _ => ⟨fun _ => ?_, fun z => absurd rfl z⟩⟩⟩
  unfold wp_Model_translate_J223
  rw [nI_1]
  exact hp
theorem LPm.s3 (hk : k < 2000) (ht : tc < 600) (hw : wh tc = 3) (hp : wp_Model_choice bank (nI tc) ab C li N op wh wi x1 x2 (ab tc) (wi tc) (fun ts ab li op wh wi x1 x2 => wp_Model_translate_L46 bank C fo N S W KK PP (2000 - k) ((1 : Int32) - bank) 0 (nI (k + 1)) ts (nI fc) ab ar fi fx li nm op pd wh wi x1 x2)) : LPm bank C fo N S W KK PP k (tc + 1) fc ab ar fi fx li nm op pd wh wi x1 x2 := by
  unfold LPm
  rw [show 2001 - k = (2000 - k) + 1 by omega]
  refine ⟨fun c => absurd c (nI_ge (a := k) (b := 2000) hk (by decide)), fun _ => ⟨fun c => absurd c (nI_nle (by omega) (by omega)), fun _ => ⟨fun _ => ?_, fun z => absurd rfl z⟩⟩⟩
  have vt : vp_in (nI tc) 600 := vp_in_nI ht (by decide)
  rw [nI_pred, nI_clamp (n := tc) (by omega), hw]
  refine ⟨vt, vt, vt, fun z => absurd z (by decide), fun _ => ⟨fun z => absurd z (by decide), fun _ => ⟨fun z => absurd z (by decide), fun _ => ⟨fun _ => ?_, fun z => absurd rfl z⟩⟩⟩⟩
  unfold wp_Model_translate_J223
  rw [nI_1]
  exact hp
theorem LPm.s4 {p : Nat} (hbk : (1 : Int32) - bank = nI to) (hto : to < 2) (hk : k < 2000) (ht : tc < 600) (hw : wh tc = 4) (ha : ab tc = nI p) (hpp : p < 512) (hp : LPm bank C fo N S W KK PP (k + 1) tc fc ab ar fi fx li nm op pd wh wi (upd x1 (512 * to + p) (li to)) x2) : LPm bank C fo N S W KK PP k (tc + 1) fc ab ar fi fx li nm op pd wh wi x1 x2 := by
  unfold LPm at hp ⊢
  rw [show 2001 - k = (2000 - k) + 1 by omega]
  rw [show 2001 - (k + 1) = 2000 - k by omega] at hp
  rw [hbk] at hp ⊢
  refine ⟨fun c => absurd c (nI_ge (a := k) (b := 2000) hk (by decide)), fun _ => ⟨fun c => absurd c (nI_nle (by omega) (by omega)), fun _ => ⟨fun _ => ?_, fun z => absurd rfl z⟩⟩⟩
  have vt : vp_in (nI tc) 600 := vp_in_nI ht (by decide)
  have ea : (512 : Int32) * nI to + nI p = nI (512 * to + p) := by
    rw [show (512 : Int32) * nI to = nI (512 * to) from pk_mul 512 _, nI_add]
  rw [nI_pred, nI_clamp (n := tc) (by omega), hw, ha, ea, nI_clamp (n := to) (by omega), nI_clamp (n := 512 * to + p) (by omega)]
  refine ⟨vt, vt, vt, fun z => absurd z (by decide), fun _ => ⟨fun z => absurd z (by decide), fun _ => ⟨fun z => absurd z (by decide), fun _ => ⟨fun z => absurd z (by decide), fun _ => ⟨fun _ => ⟨vp_in_nI hto (by decide), vp_in_nI (by omega) (by decide), ?_⟩, fun z => absurd rfl z⟩⟩⟩⟩⟩
  unfold wp_Model_translate_J223
  rw [nI_1]
  exact hp
theorem LPm.s5 {p : Nat} (hbk : (1 : Int32) - bank = nI to) (hto : to < 2) (hk : k < 2000) (ht : tc < 600) (hw : wh tc = 5) (ha : ab tc = nI p) (hpp : p < 512) (hp : LPm bank C fo N S W KK PP (k + 1) tc fc ab ar fi fx li nm op pd wh wi x1 (upd x2 (512 * to + p) (li to))) : LPm bank C fo N S W KK PP k (tc + 1) fc ab ar fi fx li nm op pd wh wi x1 x2 := by
  unfold LPm at hp ⊢
  rw [show 2001 - k = (2000 - k) + 1 by omega]
  rw [show 2001 - (k + 1) = 2000 - k by omega] at hp
  rw [hbk] at hp ⊢
  refine ⟨fun c => absurd c (nI_ge (a := k) (b := 2000) hk (by decide)), fun _ => ⟨fun c => absurd c (nI_nle (by omega) (by omega)), fun _ => ⟨fun _ => ?_, fun z => absurd rfl z⟩⟩⟩
  have vt : vp_in (nI tc) 600 := vp_in_nI ht (by decide)
  have ea : (512 : Int32) * nI to + nI p = nI (512 * to + p) := by
    rw [show (512 : Int32) * nI to = nI (512 * to) from pk_mul 512 _, nI_add]
  rw [nI_pred, nI_clamp (n := tc) (by omega), hw, ha, ea, nI_clamp (n := to) (by omega), nI_clamp (n := 512 * to + p) (by omega)]
  refine ⟨vt, vt, vt, fun z => absurd z (by decide), fun _ => ⟨fun z => absurd z (by decide), fun _ => ⟨fun z => absurd z (by decide), fun _ => ⟨fun z => absurd z (by decide), fun _ => ⟨fun z => absurd z (by decide), fun _ => ⟨vp_in_nI hto (by decide), vp_in_nI (by omega) (by decide), ?_⟩⟩⟩⟩⟩⟩
  unfold wp_Model_translate_J223
  rw [nI_1]
  exact hp
/-- an error ends the loop -/
theorem LPm.fault {fu : Nat} {v1 v2 v3 ts fr : Int32} (h : v2 ≠ 0) (hp : KK v2 ts fr ab ar fi fx li nm op pd wh wi x1 x2) : wp_Model_translate_L46 bank C fo N S W KK PP (fu + 1) v1 v2 v3 ts fr ab ar fi fx li nm op pd wh wi x1 x2 :=
  ⟨fun _ => hp, fun _ => ⟨fun _ => hp, fun _ => ⟨fun z => absurd z h, fun _ => hp⟩⟩⟩
theorem q_memit {o a c : Int32} {post : Int32 → (Nat → Int32) → (Nat → Int32) → (Nat → Int32) → (Nat → Int32) → Prop} (hbk : (1 : Int32) - bank = nI to) (hto : to < 2) (hl : li to = nI pc) (hpc : pc < 512) (hp : post (nI pc) (upd li to (nI (pc + 1))) (upd op (512 * to + pc) o) (upd x1 (512 * to + pc) a) (upd x2 (512 * to + pc) c)) : wp_Model_emit bank li op x1 x2 o a c post := by
  have vt : vp_in (nI to) 2 := vp_in_nI hto (by decide)
  have et : (nI to).toNatClampNeg = to := nI_clamp (by omega)
  have ea : (512 : Int32) * nI to + nI pc = nI (512 * to + pc) := by
    rw [show (512 : Int32) * nI to = nI (512 * to) from pk_mul 512 _, nI_add]
  have ve : vp_in (nI (512 * to + pc)) 1024 := vp_in_nI (by omega) (by decide)
  unfold wp_Model_emit
  rw [hbk, et, hl, ea, nI_clamp (n := 512 * to + pc) (by omega), nI_1]
  exact ⟨vt, ve, ve, ve, vt, vt, hp⟩
/-- one line put out -/
theorem MOK.one {o a c : Nat} (hl : li to = nI pc) (hx : fx to = nI nc) (hpc : pc < 512) : MOK b to ([(o, a, c)], []) pc nc fi fx li op x1 x2 fi fx (upd li to (nI (pc + 1))) (upd op (512 * to + pc) (nI o)) (upd x1 (512 * to + pc) (nI a)) (upd x2 (512 * to + pc) (nI c)) :=
  ⟨pk_us, hx, fun k hk => ⟨pk_un hk, rfl⟩, fun k hk => ⟨pk_un (by omega), pk_un (by omega), pk_un (by omega)⟩, fun _ _ => rfl, ⟨⟨pk_us, pk_us, pk_us⟩, trivial⟩, trivial⟩
theorem MR.put {o : Nat} {f : Int32} (hbk : (1 : Int32) - bank = nI to) (hto : to < 2) : MR bank b to C fo N S W KK PP P 1 0 0 1 1 [(1, nI o, f)] (gput o 0 0) := by
  refine ⟨GB.put, fun k tc fc pc nc ab ar fi fx li nm op pd wh wi x1 x2 a1 a2 a3 a4 a5 a6 a7 a8 a9 a10 a11 => ?_⟩
  obtain ⟨⟨w1, w2, w3⟩, -⟩ := a2
  refine LPm.s1 (by omega) (by omega) w1 ?_
  refine q_memit hbk hto a3 (by omega) ?_
  rw [show ab tc = nI o from w2]
  exact a10 (k + 1) fc ([(o, 0, 0)], []) _ _ _ _ _ _ _ _ _ _ _ _ (by omega) (by omega) (by omega) (by omega) (fun _ _ => ⟨rfl, rfl, rfl⟩) (fun _ _ => ⟨rfl, rfl, rfl⟩) rfl (MOK.one a3 a4 (by omega))
/-! what an expression pushes -/
def SS (ab0 wh0 wi0 : Nat → Int32) (tc : Nat) (l : List (Int32 × Int32 × Int32)) (ab wh wi : Nat → Int32) : Prop := STK ab wh wi tc l ∧ ∀ i, i < tc → ab i = ab0 i ∧ wh i = wh0 i ∧ wi i = wi0 i
theorem SS.nil : SS ab wh wi tc [] ab wh wi := ⟨trivial, fun _ _ => ⟨rfl, rfl, rfl⟩⟩
theorem q_later {n : Nat} {ab0 wh0 wi0 : Nat → Int32} {w a f : Int32} {post : Int32 → (Nat → Int32) → (Nat → Int32) → (Nat → Int32) → Prop} (h : SS ab0 wh0 wi0 tc l ab wh wi) (hn : n = tc + l.length) (hc : n < 600) (hp : ∀ ab' wh' wi', SS ab0 wh0 wi0 tc ((w, a, f) :: l) ab' wh' wi' → post (nI (n + 1)) ab' wh' wi') : wp_Model_later (nI n) ab wh wi w a f post := by
  subst hn
  have v : vp_in (nI (tc + l.length)) 600 := vp_in_nI hc (by decide)
  unfold wp_Model_later
  rw [nI_clamp (n := tc + l.length) (by omega), nI_1]
  refine ⟨v, v, v, hp _ _ _ ⟨⟨⟨pk_us, pk_us, pk_us⟩, h.1.to (fun i hi => ⟨pk_un (by omega), pk_un (by omega), pk_un (by omega)⟩)⟩, fun i hi => ?_⟩⟩
  obtain ⟨e1, e2, e3⟩ := h.2 i hi
  exact ⟨(pk_un (by omega)).trans e1, (pk_un (by omega)).trans e2, (pk_un (by omega)).trans e3⟩
/-- an expression that pushes tasks: they put out what it stands for -/
theorem MR.expF {j af : Nat} {f : Int32} {l : Nat → List (Int32 × Int32 × Int32)} {Q : Nat → Nat → (Nat → Int32) → (Nat → Int32) → (Nat → Int32) → Prop} (hgb : GB g bl bc) (hm : ∀ n, n + af ≤ 40 → MR bank b to C fo N S W KK PP (Q n) bl bc bf bs bt (l n) g) (hlb : ∀ n, (l n).length ≤ bt)
    (hx : ∀ (tc fc : Nat) (ab ar fi fx li nm op pd wh wi x1 x2 : Nat → Int32) (post : Int32 → Int32 → Int32 → (Nat → Int32) → (Nat → Int32) → (Nat → Int32) → (Nat → Int32) → (Nat → Int32) → (Nat → Int32) → (Nat → Int32) → (Nat → Int32) → (Nat → Int32) → (Nat → Int32) → (Nat → Int32) → (Nat → Int32) → Prop), P fc ar nm pd → tc + bt ≤ 600 → fc + (bf + af) ≤ 40 →
      (∀ fc' ar' nm' pd' ab' wh' wi', fc ≤ fc' → fc' ≤ fc + af → (∀ i, i < fc → ar' i = ar i ∧ nm' i = nm i ∧ pd' i = pd i) → Q fc fc' ar' nm' pd' → SS ab wh wi tc (l fc) ab' wh' wi' → post 0 (nI (tc + (l fc).length)) (nI fc') ab' ar' fi fx li nm' op pd' wh' wi' x1 x2) →
      wp_Model_expression bank (nI tc) (nI fc) ab ar C fi fx fo li nm N op pd S W wh wi x1 x2 (nI (b + j)) f post) : MR bank b to C fo N S W KK PP P bl bc (bf + af) (bs + 1) (bt + 1) [(0, nI (b + j), f)] g := by
  refine ⟨hgb, fun k tc fc pc nc ab ar fi fx li nm op pd wh wi x1 x2 a1 a2 a3 a4 a5 a6 a7 a8 a9 a10 a11 => ?_⟩
  obtain ⟨⟨w1, w2, w3⟩, -⟩ := a2
  refine LPm.s0 (by omega) (by omega) w1 ?_
  rw [show ab tc = nI (b + j) from w2, show wi tc = f from w3]
  refine hx tc fc ab ar fi fx li nm op pd wh wi x1 x2 _ a1 (by omega) a7 (fun fc' ar' nm' pd' ab' wh' wi' b1 b2 b3 b4 b5 => ?_)
  have := (hm fc (by omega)).2 (k + 1) tc fc' pc nc ab' ar' fi fx li nm' op pd' wh' wi' x1 x2 b4 b5.1 a3 a4 a5 a6 (by omega) (by omega) (by omega) (fun k2 fc2 r ab2 ar2 fi2 fx2 li2 nm2 op2 pd2 wh2 wi2 x12 x22 c0 c1 c2 c3 c4 c5 c6 c7 => a10 k2 fc2 r ab2 ar2 fi2 fx2 li2 nm2 op2 pd2 wh2 wi2 x12 x22 (by omega) (by omega) (by omega) (by omega) (fun i hi => ?_) (fun i hi => ?_) c6 c7) a11
  · unfold LPm at this
    rw [show 2001 - (k + 1) = 2000 - k by omega] at this
    exact this
  · obtain ⟨d1, d2, d3⟩ := c4 i hi
    obtain ⟨e1, e2, e3⟩ := b5.2 i hi
    exact ⟨d1.trans e1, d2.trans e2, d3.trans e3⟩
  · obtain ⟨d1, d2, d3⟩ := c5 i (by omega)
    obtain ⟨e1, e2, e3⟩ := b3 i hi
    exact ⟨d1.trans e1, d2.trans e2, d3.trans e3⟩
theorem MR.exp {j af : Nat} {f : Int32} (hm : MR bank b to C fo N S W KK PP Q bl bc bf bs bt l g) (hlb : l.length ≤ bt)
    (hx : ∀ (tc fc : Nat) (ab ar fi fx li nm op pd wh wi x1 x2 : Nat → Int32) (post : Int32 → Int32 → Int32 → (Nat → Int32) → (Nat → Int32) → (Nat → Int32) → (Nat → Int32) → (Nat → Int32) → (Nat → Int32) → (Nat → Int32) → (Nat → Int32) → (Nat → Int32) → (Nat → Int32) → (Nat → Int32) → (Nat → Int32) → Prop), P fc ar nm pd → tc + bt ≤ 600 → fc + (bf + af) ≤ 40 →
      (∀ fc' ar' nm' pd' ab' wh' wi', fc ≤ fc' → fc' ≤ fc + af → (∀ i, i < fc → ar' i = ar i ∧ nm' i = nm i ∧ pd' i = pd i) → Q fc' ar' nm' pd' → SS ab wh wi tc l ab' wh' wi' → post 0 (nI (tc + l.length)) (nI fc') ab' ar' fi fx li nm' op pd' wh' wi' x1 x2) →
      wp_Model_expression bank (nI tc) (nI fc) ab ar C fi fx fo li nm N op pd S W wh wi x1 x2 (nI (b + j)) f post) : MR bank b to C fo N S W KK PP P bl bc (bf + af) (bs + 1) (bt + 1) [(0, nI (b + j), f)] g :=
  MR.expF (l := fun _ => l) (Q := fun _ => Q) hm.1 (fun _ _ => hm) (fun _ => hlb) hx
end
