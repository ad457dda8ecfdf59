/-! the reference translates a node as comp says -/
theorem TREE.tm {b m q : Nat} {K V F S W C N : Nat → Int32} {kids : Nat → List Nat} {w dp : Nat → Nat} (hT : TREE b m q K V F S W C N kids w dp) : ∀ x, x < m → K x = 2 → chM b N (C (b + x)) (kids x) ∧ inc 0 m (kids x) := fun x hx e => by
  rcases (hT.2 x hx).2.2.2 with z | z | z
  · exact absurd (e.symm.trans z.1) (by decide)
  · exact absurd (e.symm.trans z.1) (by decide)
  · exact ⟨z.2.2.2.2.1, z.2.2.2.2.2.1.weak (by omega)⟩
theorem TREE.ts {b m q : Nat} {K V F S W C N : Nat → Int32} {kids : Nat → List Nat} {w dp : Nat → Nat} (hT : TREE b m q K V F S W C N kids w dp) : ∀ j, j < m → (K j = 1 ↔ S (b + j) = 1) ∧ (K j = 2 ↔ S (b + j) = 2) ∧ (K j = 2 → chM b N (C (b + j)) (kids j) ∧ inc 0 m (kids j)) := fun j hj => by
  refine ⟨?_, ?_, hT.tm j hj⟩
  · rcases (hT.2 j hj).2.2.2 with z | z | z
    · rw [z.1, z.2.1]
    · rw [z.1, z.2.1]
    · rw [z.1, z.2.1]
  · rcases (hT.2 j hj).2.2.2 with z | z | z
    · rw [z.1, z.2.1]
    · rw [z.1, z.2.1]
    · rw [z.1, z.2.1]
theorem FRM.add {b m : Nat} {K : Nat → Int32} {kids : Nat → List Nat} {fc : Nat} {ar nm pd : Nat → Int32} {f x y : Int32} {l : List Nat} {fs : List (List Nat)} (h : FRM b m K kids fc ar nm pd f fs) (hfc : fc < 40) (hd : DES b m K kids (upd nm fc x) (upd pd fc y) fc l) : FRM b m K kids (fc + 1) (upd ar fc f) (upd nm fc x) (upd pd fc y) (nI fc) (l :: fs) := by
  refine ⟨fc, rfl, by omega, hfc, hd, ?_⟩
  rw [pk_us]
  exact FRM.st fc (fc + 1) ar nm pd _ _ _ h (by omega) (fun i hi => ⟨pk_un (by omega), pk_un (by omega), pk_un (by omega)⟩)
section
variable {b m q : Nat} {K V F S W C N : Nat → Int32} {kids : Nat → List Nat} {w dp : Nat → Nat} {bank : Int32} {to : Nat} {fo : Nat → Int32} {KK PP : KT}
theorem MR.leaf0 {j : Nat} {f : Int32} {P : Nat → (Nat → Int32) → (Nat → Int32) → (Nat → Int32) → Prop} (hT : TREE b m q K V F S W C N kids w dp) (hb : b ≤ 200) (hbk : (1 : Int32) - bank = nI to) (hto : to < 2) (hj : j < m) (hk : K j = 0) : MR bank b to C fo N S W KK PP P 1 1 0 1 1 [(0, nI (b + j), f)] (gcon j) := by
  have hs : S (b + j) = 0 := by
    rcases (hT.2 j hj).2.2.2 with z | z | z
    · exact z.2.1
    · exact absurd (hk.symm.trans z.1) (by decide)
    · exact absurd (hk.symm.trans z.1) (by decide)
  have hm := hT.1
  refine ⟨GB.con, fun k tc fc pc nc ab ar fi fx li nm op pd wh wi x1 x2 a1 a2 a3 a4 a5 a6 a7 a8 a9 a10 a11 => ?_⟩
  obtain ⟨⟨w1, w2, w3⟩, -⟩ := a2
  refine LPm.s0 (by omega) (by omega) w1 ?_
  rw [show ab tc = nI (b + j) from w2]
  unfold wp_Model_expression
  rw [nI_clamp (n := b + j) (by omega), hs]
  refine ⟨vp_in_nI (by omega) (by decide), fun _ => q_mcon hbk hto a3 (by omega) a4 (by omega) ?_, fun z => absurd rfl z⟩
  have := a10 (k + 1) fc ([(1, nc + 1, 0)], [j]) ab ar _ _ _ nm _ pd wh wi _ _ (by omega) (by omega) (by omega) (by omega) (fun _ _ => ⟨rfl, rfl, rfl⟩) (fun _ _ => ⟨rfl, rfl, rfl⟩) rfl (MOK.con a3 a4 (by omega) (by omega))
  unfold LPm at this
  rw [show 2001 - (k + 1) = 2000 - k by omega] at this
  exact this
theorem MR.fault {j : Nat} {f x : Int32} {P : Nat → (Nat → Int32) → (Nat → Int32) → (Nat → Int32) → Prop} (hx : x ≠ 0) (h : ∀ tc fc ab ar fi fx li nm op pd wh wi x1 x2 post, P fc ar nm pd → post x (nI tc) (nI fc) ab ar fi fx li nm op pd wh wi x1 x2 → wp_Model_expression bank (nI tc) (nI fc) ab ar C fi fx fo li nm N op pd S W wh wi x1 x2 (nI (b + j)) f post) : MR bank b to C fo N S W KK PP P 0 0 0 1 1 [(0, nI (b + j), f)] (gerr x) := by
  refine ⟨GB.err hx, fun k tc fc pc nc ab ar fi fx li nm op pd wh wi x1 x2 a1 a2 a3 a4 a5 a6 a7 a8 a9 a10 a11 => ?_⟩
  obtain ⟨⟨w1, w2, w3⟩, -⟩ := a2
  refine LPm.s0 (by omega) (by omega) w1 ?_
  rw [show ab tc = nI (b + j) from w2, show wi tc = f from w3]
  refine h tc fc _ _ _ _ _ _ _ _ _ _ _ _ _ a1 ?_
  rw [show 2000 - k = (1999 - k) + 1 by omega]
  exact LPm.fault hx (a11 x _ _ _ _ _ _ _ _ _ _ _ _ _ _ rfl KEPT.refl ⟨pc, by omega, a3⟩)
theorem MR.var {j : Nat} {f : Int32} {fs : List (List Nat)} (hT : TREE b m q K V F S W C N kids w dp) (hb : b ≤ 200) (hbk : (1 : Int32) - bank = nI to) (hto : to < 2) (hj : j < m) (hk : K j = 1) {x : Nat × Nat} (hl : look K V kids (V j) fs 0 = some x) : MR bank b to C fo N S W KK PP (fun fc ar nm pd => FRM b m K kids fc ar nm pd f fs) 1 0 0 1 1 [(0, nI (b + j), f)] (gput 0 x.1 x.2) := by
  have hs : S (b + j) = 1 := ((hT.ts j hj).1).mp hk
  have hm := hT.1
  refine ⟨GB.put, fun k tc fc pc nc ab ar fi fx li nm op pd wh wi x1 x2 a1 a2 a3 a4 a5 a6 a7 a8 a9 a10 a11 => ?_⟩
  obtain ⟨⟨w1, w2, w3⟩, -⟩ := a2
  refine LPm.s0 (by omega) (by omega) w1 ?_
  rw [show ab tc = nI (b + j) from w2, show wi tc = f from w3]
  unfold wp_Model_expression
  rw [nI_clamp (n := b + j) (by omega), hs]
  have vj : vp_in (nI (b + j)) 400 := vp_in_nI (by omega) (by decide)
  refine ⟨vj, fun z => absurd z (by decide), fun _ => ⟨vj, fun _ => ⟨vj, _, q_load_L5 hT hb hj hk fs f 0 a1 (fun a c z => ?_) (fun z => by rw [hl] at z; cases z)⟩, fun z => absurd rfl z⟩⟩
  rw [hl] at z
  have e := Option.some.inj z
  subst e
  refine q_memit hbk hto a3 (by omega) ⟨fun z => absurd z (by decide), fun _ => ?_⟩
  have := a10 (k + 1) fc ([(0, a, c)], []) ab ar _ _ _ nm _ pd wh wi _ _ (by omega) (by omega) (by omega) (by omega) (fun _ _ => ⟨rfl, rfl, rfl⟩) (fun _ _ => ⟨rfl, rfl, rfl⟩) rfl (MOK.one a3 a4 (by omega))
  unfold LPm at this
  rw [show 2001 - (k + 1) = 2000 - k by omega] at this
  exact this
end
/-! the reference: forms -/
section
variable {b m q : Nat} {K V F S W C N : Nat → Int32} {kids : Nat → List Nat} {w dp : Nat → Nat} {bank : Int32} {to : Nat} {fo : Nat → Int32} {KK PP : KT} {ab wh wi : Nat → Int32} {tc : Nat}
theorem plain_nums : ∀ i, i < 11 → (1 ≤ fpi.getD i 0 ∧ fpi.getD i 0 ≤ 11) ∧ (fpi.getD i 0 < 4 → 9 + i = 8 + fpi.getD i 0 ∧ i ≤ 2) ∧ (4 ≤ fpi.getD i 0 ∧ fpi.getD i 0 < 9 → 9 + i = 11 + fpi.getD i 0) ∧ (fpi.getD i 0 = 9 → 9 + i = 13) ∧ (fpi.getD i 0 = 10 → 9 + i = 14) ∧ (fpi.getD i 0 = 11 → i = 3) ∧ (4 ≤ fpi.getD i 0 → 3 ≤ i) ∧ (i = 3 → fpi.getD i 0 = 11) := by decide
theorem q_plain {i k : Nat} {f : Int32} {t : List Nat} {post : Int32 → (Nat → Int32) → (Nat → Int32) → (Nat → Int32) → Prop} (hb : b ≤ 200) (hm : m ≤ 200) (hk : k < 400) (hi : i < 11) (hch : chM b N (C k) t) (hinc : inc 0 m t) (h1 : i ≤ 2 → 2 ≤ t.length) (h2 : 3 ≤ i → 3 ≤ t.length) (htc : tc + 3 ≤ 600)
    (p1 : i ≤ 2 → ∀ ab' wh' wi', SS ab wh wi tc [(0, nI (b + t.getD 1 0), f), (1, nI (9 + i), 0)] ab' wh' wi' → post (nI (tc + 2)) ab' wh' wi')
    (p2 : 3 < i → ∀ ab' wh' wi', SS ab wh wi tc [(0, nI (b + t.getD 1 0), f), (0, nI (b + t.getD 2 0), f), (1, nI (9 + i), 0)] ab' wh' wi' → post (nI (tc + 3)) ab' wh' wi')
    (p3 : i = 3 → ∀ ab' wh' wi', SS ab wh wi tc [(0, nI (b + t.getD 2 0), f), (0, nI (b + t.getD 1 0), f), (1, nI (9 + i), 0)] ab' wh' wi' → post (nI (tc + 3)) ab' wh' wi') :
    wp_Model_plain (nI tc) ab C N wh wi (nI k) (nI (fpi.getD i 0)) f post := by
  obtain ⟨⟨n1, n2⟩, n3, n4, n5, n6, n7, n8, n9⟩ := plain_nums i hi
  generalize fpi.getD i 0 = v at n1 n2 n3 n4 n5 n6 n7 n8 n9
  have key : wp_Model_plain_J53 C N post (nI k) (nI v) f (nI (9 + i)) (nI tc) ab wh wi := by
    unfold wp_Model_plain_J53
    refine q_later (l := []) SS.nil rfl (by omega) (fun ab1 wh1 wi1 s1 => ⟨fun c => ?_, fun c => ⟨fun c2 => ?_, fun c2 => ?_⟩⟩)
    · have hv : v < 4 := (nI_ltI (b := 4) (by omega) (by decide)).mp c
      have hi2 := (n3 hv).2
      have := h1 hi2
      refine ⟨fun z => absurd ((nI_eq (b := 11) (by omega) (by decide)).mp z) (by omega), fun _ => q_mpart (s := 1) hb hm hk (by omega) hch hinc ?_⟩
      rw [drop_hdM (by omega)]
      exact q_later s1 rfl (by omega) (fun ab2 wh2 wi2 s2 => p1 hi2 ab2 wh2 wi2 s2)
    · have hv : v = 11 := (nI_eq (b := 11) (by omega) (by decide)).mp c2
      have hi3 := n7 hv
      have := h2 (by omega)
      unfold wp_Model_plain_J83
      refine q_mpart (s := 1) hb hm hk (by omega) hch hinc ?_
      rw [drop_hdM (by omega)]
      refine q_later s1 rfl (by omega) (fun ab2 wh2 wi2 s2 => ⟨fun _ => q_mpart (s := 2) hb hm hk (by omega) hch hinc ?_, fun z => absurd c2 z⟩)
      rw [drop_hdM (by omega)]
      exact q_later s2 rfl (by omega) (fun ab3 wh3 wi3 s3 => p3 hi3 ab3 wh3 wi3 s3)
    · have hv : ¬ v = 11 := fun z => c2 (by rw [z]; rfl)
      have hv4 : 4 ≤ v := by
        rcases Nat.lt_or_ge v 4 with z | z
        · exact absurd (nI_lt (b := 4) z (by decide)) c
        · exact z
      have hi3 : 3 < i := by
        have := n8 hv4
        have : i ≠ 3 := fun z => hv (n9 z)
        omega
      have := h2 (by omega)
      unfold wp_Model_plain_J83
      refine q_mpart (s := 2) hb hm hk (by omega) hch hinc ?_
      rw [drop_hdM (by omega)]
      refine q_later s1 rfl (by omega) (fun ab2 wh2 wi2 s2 => ⟨fun z => absurd z c2, fun _ => q_mpart (s := 1) hb hm hk (by omega) hch hinc ?_⟩)
      rw [drop_hdM (by omega)]
      exact q_later s2 rfl (by omega) (fun ab3 wh3 wi3 s3 => p2 hi3 ab3 wh3 wi3 s3)
  refine ⟨fun c => ?_, fun c => ?_⟩
  · have h4 : 4 ≤ v := (nI_leI (a := 4) (by decide) (by omega)).mp c
    refine ⟨fun c9 => ?_, fun c9 => ?_⟩
    · have h9 : 9 ≤ v := (nI_leI (a := 9) (by decide) (by omega)).mp c9
      refine ⟨fun e => ?_, fun e => ⟨fun e2 => ?_, fun e2 => ?_⟩⟩
      · rw [n5 ((nI_eq (b := 9) (by omega) (by decide)).mp e)] at key
        exact key
      · rw [n6 ((nI_eq (b := 10) (by omega) (by decide)).mp e2)] at key
        exact key
      · have e3 : v ≠ 9 := fun z => e (by rw [z]; rfl)
        have e4 : v ≠ 10 := fun z => e2 (by rw [z]; rfl)
        rw [n7 (by omega)] at key
        exact key
    · have h9 : v < 9 := by
        rcases Nat.lt_or_ge v 9 with z | z
        · exact z
        · exact absurd (nI_le (a := 9) z (by omega)) c9
      rw [show (15 : Int32) + nI v - 4 = nI (9 + i) from by
        rw [show (15 : Int32) + nI v = nI (15 + v) from nI_add 15 v, show nI (15 + v) - (4 : Int32) = nI (15 + v - 4) from pk_sub (b := 4) (by omega)]
        exact congrArg nI (by have := n4 ⟨h4, h9⟩; omega)]
      exact key
  · have h4 : v < 4 := by
      rcases Nat.lt_or_ge v 4 with z | z
      · exact z
      · exact absurd (nI_le (a := 4) z (by omega)) c
    rw [show (9 : Int32) + nI v - 1 = nI (9 + i) from by
      rw [show (9 : Int32) + nI v = nI (9 + v) from nI_add 9 v, show nI (9 + v) - (1 : Int32) = nI (9 + v - 1) from pk_sub (b := 1) (by omega)]
      exact congrArg nI (by have := (n3 h4).1; omega)]
    exact key
end
/-! the reference translates a node as comp says -/
section
variable {b m q : Nat} {K V F S W C N : Nat → Int32} {kids : Nat → List Nat} {w dp : Nat → Nat} {bank : Int32} {to : Nat} {fo : Nat → Int32} {KK PP : KT}
theorem gargs_w {v : Nat → Nat} {l : List Nat} (hl : ∀ j ∈ l, v j < m ∧ w (v j) ≤ w j) : wsum (fun j => w (v j)) l ≤ wsum w l := wsum_le (fun j hj => (hl j hj).2)
/-- what is said of each expression -/
def EXM (bank : Int32) (b m to : Nat) (K C fo N S W : Nat → Int32) (kids : Nat → List Nat) (w : Nat → Nat) (KK PP : KT) (c : List (List Nat) → Nat → GG) (j : Nat) : Prop := ∀ (fs : List (List Nat)) (f : Int32), MR bank b to C fo N S W KK PP (fun fc ar nm pd => FRM b m K kids fc ar nm pd f fs) (2 * w j - 1) (w j) (w j / 5) (4 * w j - 3) (2 * w j) [(0, nI (b + j), f)] (c fs j)
theorem form_long {i : Nat} (hi : 13 ≤ i) (hi2 : i < 16) : 3 ≤ (formL.getD i []).length := by
  have : ∀ i, i < 16 → 13 ≤ i → 3 ≤ (formL.getD i []).length := by decide
  exact this i hi2 hi
theorem MR.form {c : List (List Nat) → Nat → GG} (hT : TREE b m q K V F S W C N kids w dp) (hb : b ≤ 200) (hbk : (1 : Int32) - bank = nI to) (hto : to < 2) {j i h x : Nat} {t : List Nat} (hj : j < m) (hk : K j = 2) (hkids : kids j = h :: x :: t) (hi : i < 16) (hs : shp K kids i (h :: x :: t)) (hw3 : 13 ≤ i → 3 ≤ w h)
    (kid : ∀ y, y < m → dp j + 1 ≤ dp y → EXM bank b m to K C fo N S W kids w KK PP c y) (fs : List (List Nat)) (f : Int32)
    (ent : ∀ tc fc ab ar fi fx li nm op pd wh wi x1 x2 post, wp_Model_expression_J81 bank C fo N S W post (nI (b + j)) f (nI (fpi.getD i 0)) (nI tc) (nI fc) ab ar fi fx li nm op pd wh wi x1 x2 → wp_Model_expression bank (nI tc) (nI fc) ab ar C fi fx fo li nm N op pd S W wh wi x1 x2 (nI (b + j)) f post) :
    MR bank b to C fo N S W KK PP (fun fc ar nm pd => FRM b m K kids fc ar nm pd f fs) (2 * w j - 1) (w j) (w j / 5) (4 * w j - 3) (2 * w j) [(0, nI (b + j), f)] (cform kids c fs i (x :: t)) := by
  have hm := hT.1
  have hC := hT.tc
  obtain ⟨hw1, -, hk2⟩ := hC.2 j hj
  rcases hk2 with z | z | ⟨-, hd11, -, hinc, hws, hdk⟩
  · exact absurd (hk.symm.trans z) (by decide)
  · exact absurd (hk.symm.trans z) (by decide)
  obtain ⟨hch, hinc0⟩ := hT.tm j hj hk
  rw [hkids] at hch hinc hws hdk hinc0
  obtain ⟨s11, s12, s13, s14, s3, s2⟩ := hs
  have hwj : w h + (w x + wsum w t) + 2 ≤ w j := hws
  have hhm : h < m := hinc.2.1
  have hwh := (hC.2 h hhm).1
  have hinct : inc (h + 1) m (x :: t) := hinc.2.2
  have hdt : ∀ y ∈ x :: t, dp y = dp j + 1 := fun y hy => hdk y (List.mem_cons_of_mem _ hy)
  have kq : ∀ y ∈ x :: t, y < m ∧ 1 ≤ w y ∧ EXM bank b m to K C fo N S W kids w KK PP c y := fun y hy => ⟨(hinct.mem hy).2, (hC.2 y (hinct.mem hy).2).1, kid y (hinct.mem hy).2 (by rw [hdt y hy]; omega)⟩
  obtain ⟨k1, k2, k3⟩ := kq x List.mem_cons_self
  have vj : vp_in (nI (b + j)) 400 := vp_in_nI (by omega) (by decide)
  have st := @FRM.st b m K kids fs f
  obtain ⟨ff1, ff2, ff3, ff4, ff5⟩ := fpi_facts i hi
  by_cases h11 : i < 11
  · obtain ⟨⟨n1, n2⟩, -⟩ := plain_nums i h11
    have toP : ∀ tc fc ab ar fi fx li nm op pd wh wi x1 x2 post, wp_Model_plain (nI tc) ab C N wh wi (nI (b + j)) (nI (fpi.getD i 0)) f (fun ts_34 ab_35 wh_36 wi_37 => post (0 : Int32) ts_34 (nI fc) ab_35 ar fi fx li nm op pd wh_36 wi_37 x1 x2) → wp_Model_expression bank (nI tc) (nI fc) ab ar C fi fx fo li nm N op pd S W wh wi x1 x2 (nI (b + j)) f post := fun tc fc ab ar fi fx li nm op pd wh wi x1 x2 post z => by
      refine ent tc fc ab ar fi fx li nm op pd wh wi x1 x2 post ⟨fun _ => ⟨fun e => absurd ((nI_eq (b := 0) (by omega) (by decide)).mp e) (by omega), fun _ => ⟨fun e => absurd ((nI_eq (b := 12) (by omega) (by decide)).mp e) (by omega), fun _ => ⟨fun e => absurd ((nI_eq (b := 13) (by omega) (by decide)).mp e) (by omega), fun _ => ⟨fun _ => z, fun e => absurd (nI_lt (b := 14) (by omega) (by decide)) e⟩⟩⟩⟩, fun e => absurd (nI_pos' (by omega)) e⟩
    by_cases h2 : i ≤ 2
    · have et := len0 (Nat.succ.inj (Nat.succ.inj (s2 h2)))
      subst et
      have hw : w h + (w x + 0) + 2 ≤ w j := hwj
      have ec : cform kids c fs i [x] = gseq (c fs x) (gput (9 + i) 0 0) := by unfold cform; rw [if_pos h2]; rfl
      rw [ec]
      refine MR.mono (MR.exp (af := 0) (Q := fun fc ar nm pd => FRM b m K kids fc ar nm pd f fs) (MR.mono (MR.cons st (k3 fs f) (MR.put (o := 9 + i) (f := 0) hbk hto)) (Nat.le_refl _) (Nat.le_refl _) (Nat.le_refl _) (Nat.le_refl _) (bt' := 2 * w x + 2) (Nat.max_le.mpr ⟨by show 1 + 2 * w x ≤ _; omega, by omega⟩)) (by show 2 ≤ _; omega) (fun tc fc ab ar fi fx li nm op pd wh wi x1 x2 post a1 a2 a3 a4 => ?_)) (by omega) (by omega) (by omega) (by omega) (by omega)
      refine toP tc fc ab ar fi fx li nm op pd wh wi x1 x2 post (q_plain hb hm (by omega) h11 hch hinc0 (fun _ => Nat.le_refl 2) (fun z => absurd z (by omega)) (by omega) (fun _ ab' wh' wi' s => a4 fc ar nm pd ab' wh' wi' (Nat.le_refl _) (by omega) (fun _ _ => ⟨rfl, rfl, rfl⟩) a1 s) (fun z => absurd z (by omega)) (fun z => absurd z (by omega)))
    · obtain ⟨y, rfl⟩ := len1 (Nat.succ.inj (Nat.succ.inj (s3 ⟨by omega, h11⟩)))
      obtain ⟨l1, l2, l3⟩ := kq y (List.mem_cons_of_mem _ List.mem_cons_self)
      have hw : w h + (w x + (w y + 0)) + 2 ≤ w j := hwj
      by_cases h3 : i = 3
      · have ec : cform kids c fs i [x, y] = gseq (c fs y) (gseq (c fs x) (gput 12 0 0)) := by unfold cform; rw [if_neg h2, if_pos h3]; rfl
        rw [ec]
        refine MR.mono (MR.exp (af := 0) (Q := fun fc ar nm pd => FRM b m K kids fc ar nm pd f fs) (MR.mono (MR.cons st (l3 fs f) (MR.cons st (k3 fs f) (MR.put (o := 12) (f := 0) hbk hto))) (Nat.le_refl _) (Nat.le_refl _) (Nat.le_refl _) (Nat.le_refl _) (bt' := 2 * w x + 2 * w y + 1) (Nat.max_le.mpr ⟨by show 2 + 2 * w y ≤ _; omega, Nat.max_le.mpr ⟨by show 1 + 2 * w x ≤ _; omega, by omega⟩⟩)) (by show 3 ≤ _; omega) (fun tc fc ab ar fi fx li nm op pd wh wi x1 x2 post a1 a2 a3 a4 => ?_)) (by omega) (by omega) (by omega) (by omega) (by omega)
        refine toP tc fc ab ar fi fx li nm op pd wh wi x1 x2 post (q_plain hb hm (by omega) h11 hch hinc0 (fun z => absurd z (by omega)) (fun _ => Nat.le_refl 3) (by omega) (fun z => absurd z (by omega)) (fun z => absurd z (by omega)) (fun _ ab' wh' wi' s => a4 fc ar nm pd ab' wh' wi' (Nat.le_refl _) (by omega) (fun _ _ => ⟨rfl, rfl, rfl⟩) a1 (by rw [h3] at s; exact s)))
      · have ec : cform kids c fs i [x, y] = gseq (c fs x) (gseq (c fs y) (gput (9 + i) 0 0)) := by unfold cform; rw [if_neg h2, if_neg h3, if_pos h11]; rfl
        rw [ec]
        refine MR.mono (MR.exp (af := 0) (Q := fun fc ar nm pd => FRM b m K kids fc ar nm pd f fs) (MR.mono (MR.cons st (k3 fs f) (MR.cons st (l3 fs f) (MR.put (o := 9 + i) (f := 0) hbk hto))) (Nat.le_refl _) (Nat.le_refl _) (Nat.le_refl _) (Nat.le_refl _) (bt' := 2 * w x + 2 * w y + 1) (Nat.max_le.mpr ⟨by show 2 + 2 * w x ≤ _; omega, Nat.max_le.mpr ⟨by show 1 + 2 * w y ≤ _; omega, by omega⟩⟩)) (by show 3 ≤ _; omega) (fun tc fc ab ar fi fx li nm op pd wh wi x1 x2 post a1 a2 a3 a4 => ?_)) (by omega) (by omega) (by omega) (by omega) (by omega)
        refine toP tc fc ab ar fi fx li nm op pd wh wi x1 x2 post (q_plain hb hm (by omega) h11 hch hinc0 (fun z => absurd z (by omega)) (fun _ => Nat.le_refl 3) (by omega) (fun z => absurd z (by omega)) (fun _ ab' wh' wi' s => a4 fc ar nm pd ab' wh' wi' (Nat.le_refl _) (by omega) (fun _ _ => ⟨rfl, rfl, rfl⟩) a1 s) (fun z => absurd z (by omega)))
  by_cases i11 : i = 11
  · subst i11
    have ec : cform kids c fs 11 (x :: t) = gcon x := rfl
    rw [ec]
    refine MR.mono (bl := 1) (bc := 1) (bf := 0) (bs := 1) (bt := 1) ⟨GB.con, fun k tc fc pc nc ab ar fi fx li nm op pd wh wi x1 x2 a1 a2 a3 a4 a5 a6 a7 a8 a9 a10 a11 => ?_⟩ (by omega) (by omega) (by omega) (by omega) (by omega)
    obtain ⟨⟨w1, w2, w3⟩, -⟩ := a2
    refine LPm.s0 (by omega) (by omega) w1 ?_
    rw [show ab tc = nI (b + j) from w2, show wi tc = f from w3]
    refine ent tc fc ab ar fi fx li nm op pd wh wi x1 x2 _ ⟨fun _ => ⟨fun _ => q_mpart (s := 1) (l := h :: x :: t) hb hm (by omega) (by show 1 ≤ _ + 1 + 1; omega) hch hinc0 ?_, fun z => absurd rfl z⟩, fun z => absurd (by decide) z⟩
    refine q_mcon hbk hto a3 (by omega) a4 (by omega) ?_
    have := a10 (k + 1) fc ([(1, nc + 1, 0)], [x]) ab ar _ _ _ nm _ pd wh wi _ _ (by omega) (by omega) (by omega) (by omega) (fun _ _ => ⟨rfl, rfl, rfl⟩) (fun _ _ => ⟨rfl, rfl, rfl⟩) rfl (MOK.con a3 a4 (by omega) (by omega))
    unfold LPm at this
    rw [show 2001 - (k + 1) = 2000 - k by omega] at this
    exact this
  by_cases i12 : i = 12
  · subst i12
    obtain ⟨y, d, rfl⟩ := len2 (Nat.succ.inj (Nat.succ.inj (s12 rfl)))
    obtain ⟨l1, l2, l3⟩ := kq y (List.mem_cons_of_mem _ List.mem_cons_self)
    obtain ⟨n1, n2, n3⟩ := kq d (List.mem_cons_of_mem _ (List.mem_cons_of_mem _ List.mem_cons_self))
    have hw : w h + (w x + (w y + (w d + 0))) + 2 ≤ w j := hwj
    have ec : cform kids c fs 12 [x, y, d] = gseq (c fs x) (gsel (c fs y) (c fs d)) := rfl
    rw [ec]
    refine MR.mono (MR.exp (af := 0) (Q := fun fc ar nm pd => FRM b m K kids fc ar nm pd f fs) (MR.mono (MR.cons st (k3 fs f) (MR.choice hb hm hj hch hinc0 hbk hto st (l3 fs f) (n3 fs f) (by omega) (by omega))) (Nat.le_refl _) (Nat.le_refl _) (Nat.le_refl _) (Nat.le_refl _) (bt' := 2 * w x + 2 * w y + 2 * w d + 4) (Nat.max_le.mpr ⟨by show 1 + 2 * w x ≤ _; omega, by omega⟩)) (by show 2 ≤ _; omega) (fun tc fc ab ar fi fx li nm op pd wh wi x1 x2 post a1 a2 a3 a4 => ?_)) (by omega) (by omega) (by omega) (by omega) (by omega)
    refine ent tc fc ab ar fi fx li nm op pd wh wi x1 x2 _ ⟨fun _ => ⟨fun z => absurd z (by decide), fun _ => ⟨fun _ => q_later (l := []) SS.nil rfl (by omega) (fun ab1 wh1 wi1 s1 => q_mpart (s := 1) (l := [h, x, y, d]) hb hm (by omega) (show 1 ≤ 4 by decide) hch hinc0 (q_later s1 rfl (by omega) (fun ab2 wh2 wi2 s2 => a4 fc ar nm pd ab2 wh2 wi2 (Nat.le_refl _) (by omega) (fun _ _ => ⟨rfl, rfl, rfl⟩) a1 s2))), fun z => absurd rfl z⟩⟩, fun z => absurd (by decide) z⟩
  by_cases i13 : i = 13
  · subst i13
    obtain ⟨z1, z2, z3⟩ := s13 rfl
    obtain ⟨y, rfl⟩ := len1 (Nat.succ.inj (Nat.succ.inj z1))
    obtain ⟨l1, l2, l3⟩ := kq y (List.mem_cons_of_mem _ List.mem_cons_self)
    have hw : w h + (w x + (w y + 0)) + 2 ≤ w j := hwj
    have hwh3 := hw3 (Nat.le_refl _)
    have z2' : K x = 2 := z2
    have z3' : ∀ y ∈ kids x, K y = 1 := z3
    have ec : cform kids c fs 13 [x, y] = gfn (c (kids x :: fs) y) := rfl
    rw [ec]
    refine MR.mono (bl := 2 * w y - 1 + 2) (bc := w y) (bf := w y / 5 + 1) (bs := 4 * w y - 3 + 3) (bt := 2 * w y + 2) ⟨(l3 (kids x :: fs) f).1.fn, fun k tc fc pc nc ab ar fi fx li nm op pd wh wi x1 x2 a1 a2 a3 a4 a5 a6 a7 a8 a9 a10 a11 => ?_⟩ (by omega) (by omega) (by omega) (by omega) (by omega)
    obtain ⟨⟨w1, w2, w3⟩, -⟩ := a2
    refine LPm.s0 (by omega) (by omega) w1 ?_
    rw [show ab tc = nI (b + j) from w2, show wi tc = f from w3]
    refine ent tc fc ab ar fi fx li nm op pd wh wi x1 x2 _ ⟨fun _ => ⟨fun z => absurd z (by decide), fun _ => ⟨fun z => absurd z (by decide), fun _ => ⟨fun _ => q_mpart (s := 1) (l := [h, x, y]) hb hm (by omega) (show 1 ≤ 3 by decide) hch hinc0 ?_, fun z => absurd rfl z⟩⟩⟩, fun z => absurd (by decide) z⟩
    have vf : vp_in (nI fc) 40 := vp_in_nI (by omega) (by decide)
    unfold wp_Model_frame
    rw [nI_1, nI_pred, nI_clamp (n := fc) (by omega), show 2000 - k = 2001 - (k + 1) by omega]
    refine ⟨vf, vf, vf, q_mpart (s := 2) (l := [h, x, y]) hb hm (by omega) (show 2 ≤ 3 by decide) hch hinc0 ?_⟩
    have hd : DES b m K kids (upd nm fc (nI (b + x))) (upd pd fc (vp_nar .boolean (0 : Int32))) fc (kids x) := Or.inl ⟨by rw [pk_us]; rfl, x, k1, pk_us, z2', rfl, z3'⟩
    refine MR.bodyrun (k := k + 1) (ar := upd ar fc f) (nm := upd nm fc (nI (b + x))) (pd := upd pd fc (vp_nar .boolean (0 : Int32))) hbk hto (l3 (kids x :: fs) (nI fc)) (by omega) (a1.add (by omega) hd) a3 a4 a5 a6 (by omega) (by omega) (by omega) (fun k' fc' r ab' ar' fi' fx' li' nm' op' pd' wh' wi' x1' x2' b0 b1 b2 b3 b4 b5 => a10 k' fc' r ab' ar' fi' fx' li' nm' op' pd' wh' wi' x1' x2' (by omega) (by omega) (by omega) (by omega) b4 (fun u hu => ?_)) a11
    obtain ⟨e1, e2, e3⟩ := b5 u (by omega)
    exact ⟨e1.trans (pk_un (by omega)), e2.trans (pk_un (by omega)), e3.trans (pk_un (by omega))⟩
  -- let and letrec
  obtain ⟨z1, z2⟩ := s14 (by omega)
  have hwh3 := hw3 (by omega)
  have z2' : ∀ y ∈ t, bnd K kids y := z2
  have vq : ∀ y ∈ t, (kids y).getD 1 0 < m ∧ w ((kids y).getD 1 0) ≤ w y := fun y hy => by
    obtain ⟨v1, v2, v3⟩ := hC.val (hinct.mem (List.mem_cons_of_mem _ hy)).2 (z2' y hy)
    exact ⟨v1, by omega⟩
  have vc : ∀ y ∈ t, EXM bank b m to K C fo N S W kids w KK PP c ((kids y).getD 1 0) := fun y hy => by
    obtain ⟨v1, v2, v3⟩ := hC.val (hinct.mem (List.mem_cons_of_mem _ hy)).2 (z2' y hy)
    exact kid _ v1 (by rw [v3, hdt y (List.mem_cons_of_mem _ hy)]; omega)
  have bd := gargs_w (w := w) (l := t) (v := fun y => (kids y).getD 1 0) vq
  have hwv : ∀ y ∈ t, 1 ≤ w ((kids y).getD 1 0) := fun y hy => (hC.2 _ (vq y hy).1).1
  have hdes : ∀ nm pd fc, DES b m K kids (upd nm fc (nI (b + j))) (upd pd fc (vp_nar .boolean (1 : Int32))) fc t := fun nm pd fc => Or.inr ⟨by rw [pk_us]; rfl, j, hj, pk_us, hk, by rw [hkids]; show 2 ≤ _ + 1 + 1; omega, by rw [hkids]; rfl, z2'⟩
  have htl : t.length ≤ wsum (fun y => w ((kids y).getD 1 0)) t := by
    have := dsum_ge hwv t.length (Nat.le_refl _)
    rw [dsum_all] at this
    exact this
  have ld2 : ∀ f', (dnT b f' (fun y => (kids y).getD 1 0) t t.length).length = 2 * t.length := fun f' => dnT_len _
  generalize hW : wsum (fun y => w ((kids y).getD 1 0)) t = Wt at bd htl
  by_cases i14 : i = 14
  · subst i14
    have ec : cform kids c fs 14 (x :: t) = gseq (gargs (fun y => c fs ((kids y).getD 1 0)) t) (gseq (gfn (c (t :: fs) x)) (gput 3 0 0)) := rfl
    rw [ec]
    have mr : ∀ n, n + 1 ≤ 40 → MR bank b to C fo N S W KK PP (fun fc ar nm pd => FRM b m K kids fc ar nm pd f fs ∧ FRM b m K kids fc ar nm pd (nI n) (t :: fs)) (1 + 2 * Wt + (2 * w x - 1 + 2 + 1)) (Wt + (w x + 0)) (Wt / 5 + (w x / 5 + 0)) (1 + 4 * Wt + (4 * w x - 3 + 3 + 1)) (2 * Wt + 2 * w x + 3) (((1, 1, 0) :: dnT b f (fun y => (kids y).getD 1 0) t t.length) ++ [(2, nI (b + x), nI n), (1, 3, 0)]) (gseq (gargs (fun y => c fs ((kids y).getD 1 0)) t) (gseq (gfn (c (t :: fs) x)) (gput 3 0 0))) := fun n hn => by
      have st2 : FST (fun fc ar nm pd => FRM b m K kids fc ar nm pd f fs ∧ FRM b m K kids fc ar nm pd (nI n) (t :: fs)) := fun fc fc' ar nm pd ar' nm' pd' h1 h2 h3 => ⟨FRM.st _ _ _ _ _ _ _ _ h1.1 h2 h3, FRM.st _ _ _ _ _ _ _ _ h1.2 h2 h3⟩
      have A := MR.args (c := fun y => c fs ((kids y).getD 1 0)) (v := fun y => (kids y).getD 1 0) (wt := fun y => w ((kids y).getD 1 0)) (f := f) hbk hto st2 hwv (fun y hy => (vc y hy fs f).pre (fun _ _ _ _ z => z.1))
      rw [hW] at A
      refine MR.mono (MR.app st2 A (MR.cons st2 (MR.body hbk hto ((k3 (t :: fs) (nI n)).pre (fun _ _ _ _ z => z.2)) (by omega)) (MR.put (o := 3) (f := 0) hbk hto))) (Nat.le_refl _) (Nat.le_refl _) (Nat.le_refl _) (Nat.le_refl _) (Nat.max_le.mpr ⟨by show 2 + (2 * Wt + 1) ≤ _; omega, Nat.max_le.mpr ⟨by show 1 + (2 + 2 * w x) ≤ _; omega, by omega⟩⟩)
    refine MR.mono (MR.expF (af := 1) (mr 0 (by omega)).1 mr (fun n => by show (dnT b f (fun y => (kids y).getD 1 0) t t.length ++ [(2, nI (b + x), nI n), (1, 3, 0)]).length + 1 ≤ _; rw [List.length_append, ld2]; show 2 * t.length + 2 + 1 ≤ _; omega) (fun tc fc ab ar fi fx li nm op pd wh wi x1 x2 post a1 a2 a3 a4 => ?_)) (by omega) (by omega) (by omega) (by omega) (by omega)
    refine ent tc fc ab ar fi fx li nm op pd wh wi x1 x2 _ ⟨fun _ => ⟨fun z => absurd z (by decide), fun _ => ⟨fun z => absurd z (by decide), fun _ => ⟨fun z => absurd z (by decide), fun _ => ⟨fun z => absurd z (by decide), fun _ => ?_⟩⟩⟩⟩, fun z => absurd (by decide) z⟩
    have vf : vp_in (nI fc) 40 := vp_in_nI (by omega) (by decide)
    unfold wp_Model_frame
    rw [nI_1, nI_pred, nI_clamp (n := fc) (by omega)]
    refine ⟨vf, vf, vf, fun _ => ?_, fun z => absurd rfl z⟩
    unfold wp_Model_expression_J224
    refine q_later (l := []) SS.nil rfl (by omega) (fun ab1 wh1 wi1 s1 => q_mpart (s := 1) (l := h :: x :: t) hb hm (by omega) (by show 1 ≤ _ + 1 + 1; omega) hch hinc0 (q_later s1 rfl (by omega) (fun ab2 wh2 wi2 s2 => ⟨fun _ => q_margs (n0 := 2) (v := fun y => (kids y).getD 1 0) (t := t) hb hm hj (by rw [hkids]; show 2 ≤ _ + 1 + 1; omega) hT.tm hk (by rw [hkids]; rfl) (Or.inr ⟨by decide, fun y hy => ⟨z2' y hy, rfl⟩⟩) s2 rfl (by omega) (fun ab3 wh3 wi3 s3 => ⟨fun z => absurd z (by decide), fun _ => ?_⟩), fun z => absurd rfl z⟩)))
    have := a4 (fc + 1) (upd ar fc f) (upd nm fc (nI (b + j))) (upd pd fc (vp_nar .boolean (1 : Int32))) ab3 wh3 wi3 (by omega) (by omega) (fun u hu => ⟨pk_un (by omega), pk_un (by omega), pk_un (by omega)⟩) ⟨FRM.st fc (fc + 1) ar nm pd _ _ _ a1 (by omega) (fun u hu => ⟨pk_un (by omega), pk_un (by omega), pk_un (by omega)⟩), a1.add (by omega) (hdes nm pd fc)⟩ s3
    rw [List.length_append, List.length_cons, ld2] at this
    rw [show tc + 1 + 1 + 2 * t.length + 1 = tc + (2 * t.length + 1 + [(2, nI (b + x), nI fc), ((1 : Int32), (3 : Int32), (0 : Int32))].length) from by show _ = tc + (2 * t.length + 1 + 2); omega]
    exact this
  · have i15 : i = 15 := by omega
    subst i15
    have ec : cform kids c fs 15 (x :: t) = gseq (gput 5 0 0) (gseq (gargs (fun y => c (t :: fs) ((kids y).getD 1 0)) t) (gseq (gfn (c (t :: fs) x)) (gput 6 0 0))) := rfl
    rw [ec]
    have mr : ∀ n, n + 1 ≤ 40 → MR bank b to C fo N S W KK PP (fun fc ar nm pd => FRM b m K kids fc ar nm pd (nI n) (t :: fs)) (1 + (1 + 2 * Wt + (2 * w x - 1 + 2 + 1))) (0 + (Wt + (w x + 0))) (0 + (Wt / 5 + (w x / 5 + 0))) (1 + (1 + 4 * Wt + (4 * w x - 3 + 3 + 1))) (2 * Wt + 2 * w x + 4) ((1, 5, 0) :: (((1, 1, 0) :: dnT b (nI n) (fun y => (kids y).getD 1 0) t t.length) ++ [(2, nI (b + x), nI n), (1, 6, 0)])) (gseq (gput 5 0 0) (gseq (gargs (fun y => c (t :: fs) ((kids y).getD 1 0)) t) (gseq (gfn (c (t :: fs) x)) (gput 6 0 0)))) := fun n hn => by
      have st2 : FST (fun fc ar nm pd => FRM b m K kids fc ar nm pd (nI n) (t :: fs)) := FRM.st
      have A := MR.args (c := fun y => c (t :: fs) ((kids y).getD 1 0)) (v := fun y => (kids y).getD 1 0) (wt := fun y => w ((kids y).getD 1 0)) (f := nI n) hbk hto st2 hwv (fun y hy => vc y hy (t :: fs) (nI n))
      rw [hW] at A
      refine MR.mono (MR.cons st2 (MR.put (o := 5) (f := 0) hbk hto) (MR.app st2 A (MR.cons st2 (MR.body hbk hto (k3 (t :: fs) (nI n)) (by omega)) (MR.put (o := 6) (f := 0) hbk hto)))) (Nat.le_refl _) (Nat.le_refl _) (Nat.le_refl _) (Nat.le_refl _) (Nat.max_le.mpr ⟨by rw [List.length_append, List.length_cons, ld2]; show 2 * t.length + 1 + 2 + 1 ≤ _; omega, Nat.max_le.mpr ⟨by show 2 + (2 * Wt + 1) ≤ _; omega, Nat.max_le.mpr ⟨by show 1 + (2 + 2 * w x) ≤ _; omega, by omega⟩⟩⟩)
    refine MR.mono (MR.expF (af := 1) (mr 0 (by omega)).1 mr (fun n => by show (((1, 1, 0) :: dnT b (nI n) (fun y => (kids y).getD 1 0) t t.length) ++ [(2, nI (b + x), nI n), (1, 6, 0)]).length + 1 ≤ _; rw [List.length_append, List.length_cons, ld2]; show 2 * t.length + 1 + 2 + 1 ≤ _; omega) (fun tc fc ab ar fi fx li nm op pd wh wi x1 x2 post a1 a2 a3 a4 => ?_)) (by omega) (by omega) (by omega) (by omega) (by omega)
    refine ent tc fc ab ar fi fx li nm op pd wh wi x1 x2 _ ⟨fun _ => ⟨fun z => absurd z (by decide), fun _ => ⟨fun z => absurd z (by decide), fun _ => ⟨fun z => absurd z (by decide), fun _ => ⟨fun z => absurd z (by decide), fun _ => ?_⟩⟩⟩⟩, fun z => absurd (by decide) z⟩
    have vf : vp_in (nI fc) 40 := vp_in_nI (by omega) (by decide)
    unfold wp_Model_frame
    rw [nI_1, nI_pred, nI_clamp (n := fc) (by omega)]
    refine ⟨vf, vf, vf, fun z => absurd z (by decide), fun _ => ?_⟩
    unfold wp_Model_expression_J224
    refine q_later (l := []) SS.nil rfl (by omega) (fun ab1 wh1 wi1 s1 => q_mpart (s := 1) (l := h :: x :: t) hb hm (by omega) (by show 1 ≤ _ + 1 + 1; omega) hch hinc0 (q_later s1 rfl (by omega) (fun ab2 wh2 wi2 s2 => ⟨fun z => absurd z (by decide), fun _ => q_margs (n0 := 2) (v := fun y => (kids y).getD 1 0) (t := t) hb hm hj (by rw [hkids]; show 2 ≤ _ + 1 + 1; omega) hT.tm hk (by rw [hkids]; rfl) (Or.inr ⟨by decide, fun y hy => ⟨z2' y hy, rfl⟩⟩) s2 rfl (by omega) (fun ab3 wh3 wi3 s3 => ⟨fun _ => ?_, fun z => absurd rfl z⟩)⟩)))
    have ll : (((1, 1, 0) :: dnT b (nI fc) (fun y => (kids y).getD 1 0) t t.length) ++ [(2, nI (b + x), nI fc), ((1 : Int32), (6 : Int32), (0 : Int32))]).length = 2 * t.length + 1 + 2 := by rw [List.length_append, List.length_cons, ld2]; rfl
    refine q_later s3 (by show _ = tc + (((1, 1, 0) :: dnT b (nI fc) (fun y => (kids y).getD 1 0) t t.length) ++ [(2, nI (b + x), nI fc), ((1 : Int32), (6 : Int32), (0 : Int32))]).length; rw [ll]; omega) (by omega) (fun ab4 wh4 wi4 s4 => ?_)
    have := a4 (fc + 1) (upd ar fc f) (upd nm fc (nI (b + j))) (upd pd fc (vp_nar .boolean (1 : Int32))) ab4 wh4 wi4 (by omega) (by omega) (fun u hu => ⟨pk_un (by omega), pk_un (by omega), pk_un (by omega)⟩) (a1.add (by omega) (hdes nm pd fc)) s4
    rw [List.length_cons, ll] at this
    rw [show tc + 1 + 1 + 2 * t.length + 1 + 1 = tc + (2 * t.length + 1 + 2 + 1) by omega]
    exact this
end
/-! the reference translates a node as comp says: all nodes -/
section
variable {b m q : Nat} {K V F S W C N : Nat → Int32} {kids : Nat → List Nat} {w dp : Nat → Nat} {bank : Int32} {to : Nat} {fo : Nat → Int32} {KK PP : KT}
theorem form_w (hT : TREE b m q K V F S W C N kids w dp) {h i : Nat} (hh : h < m) (hk : K h = 1) (hv : V h = formC.getD i 0) (hi : i < 16) (h13 : 13 ≤ i) : 3 ≤ w h := by
  rcases (hT.2 h hh).2.2.2 with z | z | z
  · exact absurd (hk.symm.trans z.1) (by decide)
  · obtain ⟨-, -, -, -, l, l1, l2, l3⟩ := z
    obtain ⟨f1, f2, f3, f4, f5, f6⟩ := form_names i hi
    have e : nI (enc 32 l) = nI (enc 32 (formL.getD i [])) := l2.symm.trans (hv.trans f1)
    have nm : isNm (formL.getD i []) := ⟨f5, f4, f6⟩
    have b1 := enc_bound (q := 32) (by decide) (by decide) l1
    have b2 := enc_bound (q := 32) (by decide) (by decide) nm
    have e2 := enc_inj (q := 32) (by decide) l1 nm ((nI_eq (by omega) (by omega)).mp e)
    rw [l3, e2]
    exact form_long h13 hi
  · exact absurd (hk.symm.trans z.1) (by decide)
theorem expr_model (hT : TREE b m q K V F S W C N kids w dp) (hb : b ≤ 200) (hbk : (1 : Int32) - bank = nI to) (hto : to < 2) (hfo : ∀ x, x < 16 → fo x = formM.getD x 0) : ∀ (d j : Nat), j < m → 13 ≤ d + dp j → EXM bank b m to K C fo N S W kids w KK PP (comp K V kids d) j := by
  intro d
  induction d with
  | zero => intro j hj hd; exact absurd (hT.2 j hj).2.2.1 (by omega)
  | succ d ih =>
    intro j hj hd fs f
    have hm := hT.1
    have hC := hT.tc
    obtain ⟨hw1, hdp, hk⟩ := hC.2 j hj
    have vj : vp_in (nI (b + j)) 400 := vp_in_nI (by omega) (by decide)
    have ej : (nI (b + j)).toNatClampNeg = b + j := nI_clamp (by omega)
    rcases hk with hk | hk | ⟨hk, hd11, -, hinc, hws, hdk⟩
    · have ec : comp K V kids (d + 1) fs j = gcon j := by unfold comp; rw [if_pos hk]
      rw [ec]
      exact (MR.leaf0 hT hb hbk hto hj hk).mono (by omega) (by omega) (by omega) (by omega) (by omega)
    · cases el : look K V kids (V j) fs 0 with
      | none =>
        have ec : comp K V kids (d + 1) fs j = gerr (-3) := by unfold comp; rw [if_neg (by rw [hk]; decide), if_pos hk, el]
        rw [ec]
        refine (MR.fault (by decide) (fun tc fc ab ar fi fx li nm op pd wh wi x1 x2 post a1 hp => ?_)).mono (by omega) (by omega) (by omega) (by omega) (by omega)
        unfold wp_Model_expression
        rw [ej, ((hT.ts j hj).1).mp hk]
        exact ⟨vj, fun z => absurd z (by decide), fun _ => ⟨vj, fun _ => ⟨vj, _, q_load_L5 hT hb hj hk fs f 0 a1 (fun a c z => by rw [el] at z; cases z) (fun _ => ⟨fun _ => hp, fun z => absurd rfl z⟩)⟩, fun z => absurd rfl z⟩⟩
      | some x =>
        have ec : comp K V kids (d + 1) fs j = gput 0 x.1 x.2 := by unfold comp; rw [if_neg (by rw [hk]; decide), if_pos hk, el]
        rw [ec]
        exact (MR.var hT hb hbk hto hj hk el).mono (by omega) (by omega) (by omega) (by omega) (by omega)
    · have ne0 : ¬ K j = 0 := by rw [hk]; decide
      have ne1 : ¬ K j = 1 := by rw [hk]; decide
      have hs2 : S (b + j) = 2 := ((hT.ts j hj).2.1).mp hk
      obtain ⟨hch, hinc0⟩ := hT.tm j hj hk
      cases hkids : kids j with
      | nil =>
        rw [hkids] at hch
        have ec : comp K V kids (d + 1) fs j = gerr (-2) := by unfold comp; rw [if_neg ne0, if_neg ne1, hkids]
        rw [ec]
        refine (MR.fault (by decide) (fun tc fc ab ar fi fx li nm op pd wh wi x1 x2 post a1 hp => ?_)).mono (by omega) (by omega) (by omega) (by omega) (by omega)
        unfold wp_Model_expression
        rw [ej, hs2, show C (b + j) = -1 from hch]
        exact ⟨vj, fun z => absurd z (by decide), fun _ => ⟨vj, fun z => absurd z (by decide), fun _ => ⟨vj, fun z => absurd z (by decide), fun _ => hp⟩⟩⟩
      | cons h t =>
        have hch2 := hch
        rw [hkids] at hch hinc hws hdk hinc0
        have hhm : h < m := hinc.2.1
        have hwj : w h + wsum w t + 2 ≤ w j := hws
        have hwh := (hC.2 h hhm).1
        have hcj : C (b + j) = nI (b + h) := hch.1
        have p0 : 0 ≤ nI (b + h) := nI_pos' (by omega)
        have kq : ∀ y ∈ h :: t, y < m ∧ 1 ≤ w y ∧ EXM bank b m to K C fo N S W kids w KK PP (comp K V kids d) y := fun y hy => ⟨(hinc.mem hy).2, (hC.2 y (hinc.mem hy).2).1, ih y (hinc.mem hy).2 (by rw [hdk y hy]; omega)⟩
        have st := @FRM.st b m K kids fs f
        cases hfi : formIx K V h with
        | none =>
          have ec : comp K V kids (d + 1) fs j = gseq (gargs (comp K V kids d fs) t) (gseq (comp K V kids d fs h) (gput 3 0 0)) := by conv => lhs; unfold comp; rw [if_neg ne0, if_neg ne1, hkids]; simp only; rw [hfi]
          rw [ec]
          have hwt : ∀ y ∈ t, 1 ≤ w y := fun y hy => (kq y (List.mem_cons_of_mem _ hy)).2.1
          have htl : t.length ≤ wsum w t := by
            have := dsum_ge hwt t.length (Nat.le_refl _)
            rw [dsum_all] at this
            exact this
          have A := MR.args (c := comp K V kids d fs) (v := fun y => y) (wt := w) (f := f) hbk hto st hwt (fun y hy => (kq y (List.mem_cons_of_mem _ hy)).2.2 fs f)
          have ld2 : (dnT b f (fun y => y) t t.length).length = 2 * t.length := dnT_len _
          refine MR.mono (MR.exp (af := 0) (Q := fun fc ar nm pd => FRM b m K kids fc ar nm pd f fs) (MR.mono (MR.app st A (MR.cons st ((kq h List.mem_cons_self).2.2 fs f) (MR.put (o := 3) (f := 0) hbk hto))) (Nat.le_refl _) (Nat.le_refl _) (Nat.le_refl _) (Nat.le_refl _) (bt' := 2 * wsum w t + 2 * w h + 3) (Nat.max_le.mpr ⟨by show 2 + _ ≤ _; omega, Nat.max_le.mpr ⟨by show 1 + _ ≤ _; omega, by omega⟩⟩)) (by rw [List.length_append, List.length_cons, ld2]; show 2 * t.length + 1 + 2 ≤ _; omega) (fun tc fc ab ar fi fx li nm op pd wh wi x1 x2 post a1 a2 a3 a4 => ?_)) (by omega) (by omega) (by omega) (by omega) (by omega)
          unfold wp_Model_expression
          rw [ej, hs2, hcj]
          refine ⟨vj, fun z => absurd z (by decide), fun _ => ⟨vj, fun z => absurd z (by decide), fun _ => ⟨vj, fun _ => ?_, fun z => absurd p0 z⟩⟩⟩
          refine q_form_miss (c := b + h) (by omega) hcj (by omega) (fun hs1 x hx e => ?_) ⟨fun _ => ⟨fun z => absurd z (by decide), fun _ => ?_⟩, fun z => absurd (by decide) z⟩
          · have hkh : K h = 1 := ((hT.ts h hhm).1).mpr hs1
            obtain ⟨y, hy, ey⟩ := form_dist.2.2 x hx
            have hn : nameR (V h) (W (b + h)) := by
              rcases (hT.2 h hhm).2.2.2 with z | z | z
              · exact absurd (hkh.symm.trans z.1) (by decide)
              · exact z.2.2.1
              · exact absurd (hkh.symm.trans z.1) (by decide)
            rw [hfo x hx, ← ey] at e
            exact formIx_none hfi hkh y hy ((nameR_eq hn (form_both hy)).mpr e)
          · refine q_later (l := []) SS.nil rfl (by omega) (fun ab1 wh1 wi1 s1 => ⟨vj, ?_⟩)
            rw [ej, hcj]
            refine q_later s1 rfl (by omega) (fun ab2 wh2 wi2 s2 => q_margs (n0 := 1) (v := fun y => y) (t := t) hb hm hj (by rw [hkids]; show 1 ≤ _ + 1; omega) hT.tm hk (by rw [hkids]; rfl) (Or.inl ⟨rfl, fun _ => rfl⟩) s2 rfl (by omega) (fun ab3 wh3 wi3 s3 => ?_))
            have := a4 fc ar nm pd ab3 wh3 wi3 (by omega) (by omega) (fun _ _ => ⟨rfl, rfl, rfl⟩) a1 s3
            rw [List.length_append, List.length_cons, ld2] at this
            rw [show tc + 1 + 1 + 2 * t.length + 1 = tc + (2 * t.length + 1 + [((0 : Int32), nI (b + h), f), ((1 : Int32), (3 : Int32), (0 : Int32))].length) from by show _ = tc + (2 * t.length + 1 + 2); omega]
            exact this
        | some i =>
          obtain ⟨f1, f2, f3⟩ := formIx_some hfi
          obtain ⟨g1, g2, g3, -⟩ := form_names i f1
          have hn : nameR (V h) (W (b + h)) := by
            rcases (hT.2 h hhm).2.2.2 with z | z | z
            · exact absurd (f2.symm.trans z.1) (by decide)
            · exact z.2.2.1
            · exact absurd (f2.symm.trans z.1) (by decide)
          have ew : W (b + h) = formM.getD (fpi.getD i 0) 0 := (nameR_eq hn (form_both f1)).mp f3
          have hit : ∀ post : Int32 → Prop, post (nI (fpi.getD i 0)) → wp_Model_form C fo S W (nI (b + j)) post := fun post hp => q_form_hit (c := b + h) (by omega) hcj (by omega) (((hT.ts h hhm).1).mp f2) g3 (by rw [hfo _ g3]; exact ew) (fun x hx => by rw [hfo x (by omega), ew]; exact form_dist.2.1 _ g3 x hx) hp
          by_cases hs : shp K kids i (h :: t)
          · have ec : comp K V kids (d + 1) fs j = cform kids (comp K V kids d) fs i t := by conv => lhs; unfold comp; rw [if_neg ne0, if_neg ne1, hkids]; simp only; rw [hfi]; simp only; rw [if_pos hs]
            rw [ec]
            cases t with
            | nil =>
              exfalso
              obtain ⟨s11, s12, s13, s14, s3, s2⟩ := hs
              have l1 : [h].length = 1 := rfl
              rw [l1] at s11 s12 s13 s14 s3 s2
              by_cases a : i ≤ 2
              · exact absurd (s2 a) (by decide)
              by_cases b : i < 11
              · exact absurd (s3 ⟨by omega, b⟩) (by decide)
              by_cases c : i = 11
              · exact absurd (s11 c) (by decide)
              by_cases c : i = 12
              · exact absurd (s12 c) (by decide)
              by_cases c : i = 13
              · exact absurd (s13 c).1 (by decide)
              exact absurd (s14 (by omega)).1 (by decide)
            | cons x t =>
              refine MR.form hT hb hbk hto hj hk hkids f1 hs (fun h13 => form_w hT hhm f2 f3 f1 h13) (fun y hy hdy => ih y hy (by omega)) fs f (fun tc fc ab ar fi fx li nm op pd wh wi x1 x2 post hp => ?_)
              unfold wp_Model_expression
              rw [ej, hs2, hcj]
              refine ⟨vj, fun z => absurd z (by decide), fun _ => ⟨vj, fun z => absurd z (by decide), fun _ => ⟨vj, fun _ => hit _ ⟨fun z => absurd z (nI_pos (by omega)), fun _ => ?_⟩, fun z => absurd p0 z⟩⟩⟩
              exact q_shaped (V := V) (F := F) (W := W) hb hm f1 (by omega) hT.ts (by rw [hcj]; exact ⟨rfl, hch.2⟩) hinc0 (fun _ => ⟨fun z => absurd z (by decide), fun _ => hp⟩) (fun z => absurd hs z)
          · have ec : comp K V kids (d + 1) fs j = gerr (-2) := by conv => lhs; unfold comp; rw [if_neg ne0, if_neg ne1, hkids]; simp only; rw [hfi]; simp only; rw [if_neg hs]
            rw [ec]
            refine (MR.fault (by decide) (fun tc fc ab ar fi fx li nm op pd wh wi x1 x2 post a1 hp => ?_)).mono (by omega) (by omega) (by omega) (by omega) (by omega)
            unfold wp_Model_expression
            rw [ej, hs2, hcj]
            refine ⟨vj, fun z => absurd z (by decide), fun _ => ⟨vj, fun z => absurd z (by decide), fun _ => ⟨vj, fun _ => hit _ ⟨fun z => absurd z (nI_pos (by omega)), fun _ => ?_⟩, fun z => absurd p0 z⟩⟩⟩
            exact q_shaped (V := V) (F := F) (W := W) hb hm f1 (by omega) hT.ts (by rw [hcj]; exact ⟨rfl, hch.2⟩) hinc0 (fun z => absurd z hs) (fun _ => ⟨fun _ => hp, fun z => absurd rfl z⟩)
end
