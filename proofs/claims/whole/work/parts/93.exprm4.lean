/-! the reference translates a node as comp says: all nodes -/
section
variable {b m q : Nat} {K V F S W C N : Nat → Int32} {kids : Nat → List Nat} {w dp : Nat → Nat} {bank : Int32} {to : Nat} {fo : Nat → Int32} {KK PP : KT}
theorem form_w (hT : TREE b m q K V F S W C N kids w dp) {h i : Nat} (hh : h < m) (hk : K h = 1) (hv : V h = formC.getD i 0) (hi : i < 16) (h13 : 13 ≤ i) : 3 ≤ w h := by
  rcases (hT.2 h hh).2.2.2 with z | z | z
  · exact absurd (hk.symm.trans z.1) (by decide)
  · obtain ⟨-, -, -, -, l, l1, l2, l3⟩ := z
    obtain ⟨f1, f2, f3, f4, f5, f6⟩ := form_names i hi
    have e : nI (enc 32 l) = nI (enc 32 (formL.getD i [])) := l2.symm.trans (hv.trans f1)
    have nm : isNm (formL.getD i []) := ⟨f5, f4, f6⟩
    have b1 := enc_bound (q := 32) (by decide) (by decide) l1
    have b2 := enc_bound (q := 32) (by decide) (by decide) nm
    have e2 := enc_inj (q := 32) (by decide) l1 nm ((nI_eq (by omega) (by omega)).mp e)
    rw [l3, e2]
    exact form_long h13 hi
  · exact absurd (hk.symm.trans z.1) (by decide)
theorem expr_model (hT : TREE b m q K V F S W C N kids w dp) (hb : b ≤ 200) (hbk : (1 : Int32) - bank = nI to) (hto : to < 2) (hfo : ∀ x, x < 16 → fo x = formM.getD x 0) : ∀ (d j : Nat), j < m → 13 ≤ d + dp j → EXM bank b m to K C fo N S W kids w KK PP (comp K V kids d) j := by
  intro d
  induction d with
  | zero => intro j hj hd; exact absurd (hT.2 j hj).2.2.1 (by omega)
  | succ d ih =>
    intro j hj hd fs f
    have hm := hT.1
    have hC := hT.tc
    obtain ⟨hw1, hdp, hk⟩ := hC.2 j hj
    have vj : vp_in (nI (b + j)) 400 := vp_in_nI (by omega) (by decide)
    have ej : (nI (b + j)).toNatClampNeg = b + j := nI_clamp (by omega)
    rcases hk with hk | hk | ⟨hk, hd11, -, hinc, hws, hdk⟩
    · have ec : comp K V kids (d + 1) fs j = gcon j := by unfold comp; rw [if_pos hk]
      rw [ec]
      exact (MR.leaf0 hT hb hbk hto hj hk).mono (by omega) (by omega) (by omega) (by omega) (by omega)
    · cases el : look K V kids (V j) fs 0 with
      | none =>
        have ec : comp K V kids (d + 1) fs j = gerr (-3) := by unfold comp; rw [if_neg (by rw [hk]; decide), if_pos hk, el]
        rw [ec]
        refine (MR.fault (by decide) (fun tc fc ab ar fi fx li nm op pd wh wi x1 x2 post a1 hp => ?_)).mono (by omega) (by omega) (by omega) (by omega) (by omega)
        unfold wp_Model_expression
        rw [ej, ((hT.ts j hj).1).mp hk]
        exact ⟨vj, fun z => absurd z (by decide), fun _ => ⟨vj, fun _ => ⟨vj, _, q_load_L5 hT hb hj hk fs f 0 a1 (fun a c z => by rw [el] at z; cases z) (fun _ => ⟨fun _ => hp, fun z => absurd rfl z⟩)⟩, fun z => absurd rfl z⟩⟩
      | some x =>
        have ec : comp K V kids (d + 1) fs j = gput 0 x.1 x.2 := by unfold comp; rw [if_neg (by rw [hk]; decide), if_pos hk, el]
        rw [ec]
        exact (MR.var hT hb hbk hto hj hk el).mono (by omega) (by omega) (by omega) (by omega) (by omega)
    · have ne0 : ¬ K j = 0 := by rw [hk]; decide
      have ne1 : ¬ K j = 1 := by rw [hk]; decide
      have hs2 : S (b + j) = 2 := ((hT.ts j hj).2.1).mp hk
      obtain ⟨hch, hinc0⟩ := hT.tm j hj hk
      cases hkids : kids j with
      | nil =>
        rw [hkids] at hch
        have ec : comp K V kids (d + 1) fs j = gerr (-2) := by unfold comp; rw [if_neg ne0, if_neg ne1, hkids]
        rw [ec]
        refine (MR.fault (by decide) (fun tc fc ab ar fi fx li nm op pd wh wi x1 x2 post a1 hp => ?_)).mono (by omega) (by omega) (by omega) (by omega) (by omega)
        unfold wp_Model_expression
        rw [ej, hs2, show C (b + j) = -1 from hch]
        exact ⟨vj, fun z => absurd z (by decide), fun _ => ⟨vj, fun z => absurd z (by decide), fun _ => ⟨vj, fun z => absurd z (by decide), fun _ => hp⟩⟩⟩
      | cons h t =>
        have hch2 := hch
        rw [hkids] at hch hinc hws hdk hinc0
        have hhm : h < m := hinc.2.1
        have hwj : w h + wsum w t + 2 ≤ w j := hws
        have hwh := (hC.2 h hhm).1
        have hcj : C (b + j) = nI (b + h) := hch.1
        have p0 : 0 ≤ nI (b + h) := nI_pos' (by omega)
        have kq : ∀ y ∈ h :: t, y < m ∧ 1 ≤ w y ∧ EXM bank b m to K C fo N S W kids w KK PP (comp K V kids d) y := fun y hy => ⟨(hinc.mem hy).2, (hC.2 y (hinc.mem hy).2).1, ih y (hinc.mem hy).2 (by rw [hdk y hy]; omega)⟩
        have st := @FRM.st b m K kids fs f
        cases hfi : formIx K V h with
        | none =>
          have ec : comp K V kids (d + 1) fs j = gseq (gargs (comp K V kids d fs) t) (gseq (comp K V kids d fs h) (gput 3 0 0)) := by conv => lhs; unfold comp; rw [if_neg ne0, if_neg ne1, hkids]; simp only; rw [hfi]
          rw [ec]
          have hwt : ∀ y ∈ t, 1 ≤ w y := fun y hy => (kq y (List.mem_cons_of_mem _ hy)).2.1
          have htl : t.length ≤ wsum w t := by
            have := dsum_ge hwt t.length (Nat.le_refl _)
            rw [dsum_all] at this
            exact this
          have A := MR.args (c := comp K V kids d fs) (v := fun y => y) (wt := w) (f := f) hbk hto st hwt (fun y hy => (kq y (List.mem_cons_of_mem _ hy)).2.2 fs f)
          have ld2 : (dnT b f (fun y => y) t t.length).length = 2 * t.length := dnT_len _
          refine MR.mono (MR.exp (af := 0) (Q := fun fc ar nm pd => FRM b m K kids fc ar nm pd f fs) (MR.mono (MR.app st A (MR.cons st ((kq h List.mem_cons_self).2.2 fs f) (MR.put (o := 3) (f := 0) hbk hto))) (Nat.le_refl _) (Nat.le_refl _) (Nat.le_refl _) (Nat.le_refl _) (bt' := 2 * wsum w t + 2 * w h + 3) (Nat.max_le.mpr ⟨by show 2 + _ ≤ _; omega, Nat.max_le.mpr ⟨by show 1 + _ ≤ _; omega, by omega⟩⟩)) (by rw [List.length_append, List.length_cons, ld2]; show 2 * t.length + 1 + 2 ≤ _; omega) (fun tc fc ab ar fi fx li nm op pd wh wi x1 x2 post a1 a2 a3 a4 => ?_)) (by omega) (by omega) (by omega) (by omega) (by omega)
          unfold wp_Model_expression
          rw [ej, hs2, hcj]
          refine ⟨vj, fun z => absurd z (by decide), fun _ => ⟨vj, fun z => absurd z (by decide), fun _ => ⟨vj, fun _ => ?_, fun z => absurd p0 z⟩⟩⟩
          refine q_form_miss (c := b + h) (by omega) hcj (by omega) (fun hs1 x hx e => ?_) ⟨fun _ => ⟨fun z => absurd z (by decide), fun _ => ?_⟩, fun z => absurd (by decide) z⟩
          · have hkh : K h = 1 := ((hT.ts h hhm).1).mpr hs1
            obtain ⟨y, hy, ey⟩ := form_dist.2.2 x hx
            have hn : nameR (V h) (W (b + h)) := by
              rcases (hT.2 h hhm).2.2.2 with z | z | z
              · exact absurd (hkh.symm.trans z.1) (by decide)
              · exact z.2.2.1
              · exact absurd (hkh.symm.trans z.1) (by decide)
            rw [hfo x hx, ← ey] at e
            exact formIx_none hfi hkh y hy ((nameR_eq hn (form_both hy)).mpr e)
          · refine q_later (l := []) SS.nil rfl (by omega) (fun ab1 wh1 wi1 s1 => ⟨vj, ?_⟩)
            rw [ej, hcj]
            refine q_later s1 rfl (by omega) (fun ab2 wh2 wi2 s2 => q_margs (n0 := 1) (v := fun y => y) (t := t) hb hm hj (by rw [hkids]; show 1 ≤ _ + 1; omega) hT.tm hk (by rw [hkids]; rfl) (Or.inl ⟨rfl, fun _ => rfl⟩) s2 rfl (by omega) (fun ab3 wh3 wi3 s3 => ?_))
            have := a4 fc ar nm pd ab3 wh3 wi3 (by omega) (by omega) (fun _ _ => ⟨rfl, rfl, rfl⟩) a1 s3
            rw [List.length_append, List.length_cons, ld2] at this
            rw [show tc + 1 + 1 + 2 * t.length + 1 = tc + (2 * t.length + 1 + [((0 : Int32), nI (b + h), f), ((1 : Int32), (3 : Int32), (0 : Int32))].length) from by show _ = tc + (2 * t.length + 1 + 2); omega]
            exact this
        | some i =>
          obtain ⟨f1, f2, f3⟩ := formIx_some hfi
          obtain ⟨g1, g2, g3, -⟩ := form_names i f1
          have hn : nameR (V h) (W (b + h)) := by
            rcases (hT.2 h hhm).2.2.2 with z | z | z
            · exact absurd (f2.symm.trans z.1) (by decide)
            · exact z.2.2.1
            · exact absurd (f2.symm.trans z.1) (by decide)
          have ew : W (b + h) = formM.getD (fpi.getD i 0) 0 := (nameR_eq hn (form_both f1)).mp f3
          have hit : ∀ post : Int32 → Prop, post (nI (fpi.getD i 0)) → wp_Model_form C fo S W (nI (b + j)) post := fun post hp => q_form_hit (c := b + h) (by omega) hcj (by omega) (((hT.ts h hhm).1).mp f2) g3 (by rw [hfo _ g3]; exact ew) (fun x hx => by rw [hfo x (by omega), ew]; exact form_dist.2.1 _ g3 x hx) hp
          by_cases hs : shp K kids i (h :: t)
          · have ec : comp K V kids (d + 1) fs j = cform kids (comp K V kids d) fs i t := by conv => lhs; unfold comp; rw [if_neg ne0, if_neg ne1, hkids]; simp only; rw [hfi]; simp only; rw [if_pos hs]
            rw [ec]
            cases t with
            | nil =>
              exfalso
              obtain ⟨s11, s12, s13, s14, s3, s2⟩ := hs
              have l1 : [h].length = 1 := rfl
              rw [l1] at s11 s12 s13 s14 s3 s2
              by_cases a : i ≤ 2
              · exact absurd (s2 a) (by decide)
              by_cases b : i < 11
              · exact absurd (s3 ⟨by omega, b⟩) (by decide)
              by_cases c : i = 11
              · exact absurd (s11 c) (by decide)
              by_cases c : i = 12
              · exact absurd (s12 c) (by decide)
              by_cases c : i = 13
              · exact absurd (s13 c).1 (by decide)
              exact absurd (s14 (by omega)).1 (by decide)
            | cons x t =>
              refine MR.form hT hb hbk hto hj hk hkids f1 hs (fun h13 => form_w hT hhm f2 f3 f1 h13) (fun y hy hdy => ih y hy (by omega)) fs f (fun tc fc ab ar fi fx li nm op pd wh wi x1 x2 post hp => ?_)
              unfold wp_Model_expression
              rw [ej, hs2, hcj]
              refine ⟨vj, fun z => absurd z (by decide), fun _ => ⟨vj, fun z => absurd z (by decide), fun _ => ⟨vj, fun _ => hit _ ⟨fun z => absurd z (nI_pos (by omega)), fun _ => ?_⟩, fun z => absurd p0 z⟩⟩⟩
              exact q_shaped (V := V) (F := F) (W := W) hb hm f1 (by omega) hT.ts (by rw [hcj]; exact ⟨rfl, hch.2⟩) hinc0 (fun _ => ⟨fun z => absurd z (by decide), fun _ => hp⟩) (fun z => absurd hs z)
          · have ec : comp K V kids (d + 1) fs j = gerr (-2) := by conv => lhs; unfold comp; rw [if_neg ne0, if_neg ne1, hkids]; simp only; rw [hfi]; simp only; rw [if_neg hs]
            rw [ec]
            refine (MR.fault (by decide) (fun tc fc ab ar fi fx li nm op pd wh wi x1 x2 post a1 hp => ?_)).mono (by omega) (by omega) (by omega) (by omega) (by omega)
            unfold wp_Model_expression
            rw [ej, hs2, hcj]
            refine ⟨vj, fun z => absurd z (by decide), fun _ => ⟨vj, fun z => absurd z (by decide), fun _ => ⟨vj, fun _ => hit _ ⟨fun z => absurd z (nI_pos (by omega)), fun _ => ?_⟩, fun z => absurd p0 z⟩⟩⟩
            exact q_shaped (V := V) (F := F) (W := W) hb hm f1 (by omega) hT.ts (by rw [hcj]; exact ⟨rfl, hch.2⟩) hinc0 (fun z => absurd z hs) (fun _ => ⟨fun _ => hp, fun z => absurd rfl z⟩)
end
