/-! the reference translates a node as comp says -/
section
variable {b m q : Nat} {K V F S W C N : Nat → Int32} {kids : Nat → List Nat} {w dp : Nat → Nat} {bank : Int32} {to : Nat} {fo : Nat → Int32} {KK PP : KT}
theorem gargs_w {v : Nat → Nat} {l : List Nat} (hl : ∀ j ∈ l, v j < m ∧ w (v j) ≤ w j) : wsum (fun j => w (v j)) l ≤ wsum w l := wsum_le (fun j hj => (hl j hj).2)
/-- what is said of each expression -/
def EXM (bank : Int32) (b m to : Nat) (K C fo N S W : Nat → Int32) (kids : Nat → List Nat) (w : Nat → Nat) (KK PP : KT) (c : List (List Nat) → Nat → GG) (j : Nat) : Prop := ∀ (fs : List (List Nat)) (f : Int32), MR bank b to C fo N S W KK PP (fun fc ar nm pd => FRM b m K kids fc ar nm pd f fs) (2 * w j - 1) (w j) (w j / 5) (4 * w j - 3) (2 * w j) [(0, nI (b + j), f)] (c fs j)
theorem form_long {i : Nat} (hi : 13 ≤ i) (hi2 : i < 16) : 3 ≤ (formL.getD i []).length := by
  have : ∀ i, i < 16 → 13 ≤ i → 3 ≤ (formL.getD i []).length := by decide
  exact this i hi2 hi
theorem MR.form {c : List (List Nat) → Nat → GG} (hT : TREE b m q K V F S W C N kids w dp) (hb : b ≤ 200) (hbk : (1 : Int32) - bank = nI to) (hto : to < 2) {j i h x : Nat} {t : List Nat} (hj : j < m) (hk : K j = 2) (hkids : kids j = h :: x :: t) (hi : i < 16) (hs : shp K kids i (h :: x :: t)) (hw3 : 13 ≤ i → 3 ≤ w h)
    (kid : ∀ y, y < m → dp j + 1 ≤ dp y → EXM bank b m to K C fo N S W kids w KK PP c y) (fs : List (List Nat)) (f : Int32)
    (ent : ∀ tc fc ab ar fi fx li nm op pd wh wi x1 x2 post, wp_Model_expression_J81 bank C fo N S W post (nI (b + j)) f (nI (fpi.getD i 0)) (nI tc) (nI fc) ab ar fi fx li nm op pd wh wi x1 x2 → wp_Model_expression bank (nI tc) (nI fc) ab ar C fi fx fo li nm N op pd S W wh wi x1 x2 (nI (b + j)) f post) :
    MR bank b to C fo N S W KK PP (fun fc ar nm pd => FRM b m K kids fc ar nm pd f fs) (2 * w j - 1) (w j) (w j / 5) (4 * w j - 3) (2 * w j) [(0, nI (b + j), f)] (cform kids c fs i (x :: t)) := by
  have hm := hT.1
  have hC := hT.tc
  obtain ⟨hw1, -, hk2⟩ := hC.2 j hj
  rcases hk2 with z | z | ⟨-, hd11, -, hinc, hws, hdk⟩
  · exact absurd (hk.symm.trans z) (by decide)
  · exact absurd (hk.symm.trans z) (by decide)
  obtain ⟨hch, hinc0⟩ := hT.tm j hj hk
  rw [hkids] at hch hinc hws hdk hinc0
  obtain ⟨s11, s12, s13, s14, s3, s2⟩ := hs
  have hwj : w h + (w x + wsum w t) + 2 ≤ w j := hws
  have hhm : h < m := hinc.2.1
  have hwh := (hC.2 h hhm).1
  have hinct : inc (h + 1) m (x :: t) := hinc.2.2
  have hdt : ∀ y ∈ x :: t, dp y = dp j + 1 := fun y hy => hdk y (List.mem_cons_of_mem _ hy)
  have kq : ∀ y ∈ x :: t, y < m ∧ 1 ≤ w y ∧ EXM bank b m to K C fo N S W kids w KK PP c y := fun y hy => ⟨(hinct.mem hy).2, (hC.2 y (hinct.mem hy).2).1, kid y (hinct.mem hy).2 (by rw [hdt y hy]; omega)⟩
  obtain ⟨k1, k2, k3⟩ := kq x List.mem_cons_self
  have vj : vp_in (nI (b + j)) 400 := vp_in_nI (by omega) (by decide)
  have st := @FRM.st b m K kids fs f
  obtain ⟨ff1, ff2, ff3, ff4, ff5⟩ := fpi_facts i hi
  by_cases h11 : i < 11
  · obtain ⟨⟨n1, n2⟩, -⟩ := plain_nums i h11
    have toP : ∀ tc fc ab ar fi fx li nm op pd wh wi x1 x2 post, wp_Model_plain (nI tc) ab C N wh wi (nI (b + j)) (nI (fpi.getD i 0)) f (fun ts_34 ab_35 wh_36 wi_37 => post (0 : Int32) ts_34 (nI fc) ab_35 ar fi fx li nm op pd wh_36 wi_37 x1 x2) → wp_Model_expression bank (nI tc) (nI fc) ab ar C fi fx fo li nm N op pd S W wh wi x1 x2 (nI (b + j)) f post := fun tc fc ab ar fi fx li nm op pd wh wi x1 x2 post z => by
      refine ent tc fc ab ar fi fx li nm op pd wh wi x1 x2 post ⟨fun _ => ⟨fun e => absurd ((nI_eq (b := 0) (by omega) (by decide)).mp e) (by omega), fun _ => ⟨fun e => absurd ((nI_eq (b := 12) (by omega) (by decide)).mp e) (by omega), fun _ => ⟨fun e => absurd ((nI_eq (b := 13) (by omega) (by decide)).mp e) (by omega), fun _ => ⟨fun _ => z, fun e => absurd (nI_lt (b := 14) (by omega) (by decide)) e⟩⟩⟩⟩, fun e => absurd (nI_pos' (by omega)) e⟩
    by_cases h2 : i ≤ 2
    · have et := len0 (Nat.succ.inj (Nat.succ.inj (s2 h2)))
      subst et
      have hw : w h + (w x + 0) + 2 ≤ w j := hwj
      have ec : cform kids c fs i [x] = gseq (c fs x) (gput (9 + i) 0 0) := by unfold cform; rw [if_pos h2]; rfl
      rw [ec]
      refine MR.mono (MR.exp (af := 0) (Q := fun fc ar nm pd => FRM b m K kids fc ar nm pd f fs) (MR.mono (MR.cons st (k3 fs f) (MR.put (o := 9 + i) (f := 0) hbk hto)) (Nat.le_refl _) (Nat.le_refl _) (Nat.le_refl _) (Nat.le_refl _) (bt' := 2 * w x + 2) (Nat.max_le.mpr ⟨by show 1 + 2 * w x ≤ _; omega, by omega⟩)) (by show 2 ≤ _; omega) (fun tc fc ab ar fi fx li nm op pd wh wi x1 x2 post a1 a2 a3 a4 => ?_)) (by omega) (by omega) (by omega) (by omega) (by omega)
      refine toP tc fc ab ar fi fx li nm op pd wh wi x1 x2 post (q_plain hb hm (by omega) h11 hch hinc0 (fun _ => Nat.le_refl 2) (fun z => absurd z (by omega)) (by omega) (fun _ ab' wh' wi' s => a4 fc ar nm pd ab' wh' wi' (Nat.le_refl _) (by omega) (fun _ _ => ⟨rfl, rfl, rfl⟩) a1 s) (fun z => absurd z (by omega)) (fun z => absurd z (by omega)))
    · obtain ⟨y, rfl⟩ := len1 (Nat.succ.inj (Nat.succ.inj (s3 ⟨by omega, h11⟩)))
      obtain ⟨l1, l2, l3⟩ := kq y (List.mem_cons_of_mem _ List.mem_cons_self)
      have hw : w h + (w x + (w y + 0)) + 2 ≤ w j := hwj
      by_cases h3 : i = 3
      · have ec : cform kids c fs i [x, y] = gseq (c fs y) (gseq (c fs x) (gput 12 0 0)) := by unfold cform; rw [if_neg h2, if_pos h3]; rfl
        rw [ec]
        refine MR.mono (MR.exp (af := 0) (Q := fun fc ar nm pd => FRM b m K kids fc ar nm pd f fs) (MR.mono (MR.cons st (l3 fs f) (MR.cons st (k3 fs f) (MR.put (o := 12) (f := 0) hbk hto))) (Nat.le_refl _) (Nat.le_refl _) (Nat.le_refl _) (Nat.le_refl _) (bt' := 2 * w x + 2 * w y + 1) (Nat.max_le.mpr ⟨by show 2 + 2 * w y ≤ _; omega, Nat.max_le.mpr ⟨by show 1 + 2 * w x ≤ _; omega, by omega⟩⟩)) (by show 3 ≤ _; omega) (fun tc fc ab ar fi fx li nm op pd wh wi x1 x2 post a1 a2 a3 a4 => ?_)) (by omega) (by omega) (by omega) (by omega) (by omega)
        refine toP tc fc ab ar fi fx li nm op pd wh wi x1 x2 post (q_plain hb hm (by omega) h11 hch hinc0 (fun z => absurd z (by omega)) (fun _ => Nat.le_refl 3) (by omega) (fun z => absurd z (by omega)) (fun z => absurd z (by omega)) (fun _ ab' wh' wi' s => a4 fc ar nm pd ab' wh' wi' (Nat.le_refl _) (by omega) (fun _ _ => ⟨rfl, rfl, rfl⟩) a1 (by rw [h3] at s; exact s)))
      · have ec : cform kids c fs i [x, y] = gseq (c fs x) (gseq (c fs y) (gput (9 + i) 0 0)) := by unfold cform; rw [if_neg h2, if_neg h3, if_pos h11]; rfl
        rw [ec]
        refine MR.mono (MR.exp (af := 0) (Q := fun fc ar nm pd => FRM b m K kids fc ar nm pd f fs) (MR.mono (MR.cons st (k3 fs f) (MR.cons st (l3 fs f) (MR.put (o := 9 + i) (f := 0) hbk hto))) (Nat.le_refl _) (Nat.le_refl _) (Nat.le_refl _) (Nat.le_refl _) (bt' := 2 * w x + 2 * w y + 1) (Nat.max_le.mpr ⟨by show 2 + 2 * w x ≤ _; omega, Nat.max_le.mpr ⟨by show 1 + 2 * w y ≤ _; omega, by omega⟩⟩)) (by show 3 ≤ _; omega) (fun tc fc ab ar fi fx li nm op pd wh wi x1 x2 post a1 a2 a3 a4 => ?_)) (by omega) (by omega) (by omega) (by omega) (by omega)
        refine toP tc fc ab ar fi fx li nm op pd wh wi x1 x2 post (q_plain hb hm (by omega) h11 hch hinc0 (fun z => absurd z (by omega)) (fun _ => Nat.le_refl 3) (by omega) (fun z => absurd z (by omega)) (fun _ ab' wh' wi' s => a4 fc ar nm pd ab' wh' wi' (Nat.le_refl _) (by omega) (fun _ _ => ⟨rfl, rfl, rfl⟩) a1 s) (fun z => absurd z (by omega)))
  by_cases i11 : i = 11
  · subst i11
    have ec : cform kids c fs 11 (x :: t) = gcon x := rfl
    rw [ec]
    refine MR.mono (bl := 1) (bc := 1) (bf := 0) (bs := 1) (bt := 1) ⟨GB.con, fun k tc fc pc nc ab ar fi fx li nm op pd wh wi x1 x2 a1 a2 a3 a4 a5 a6 a7 a8 a9 a10 a11 => ?_⟩ (by omega) (by omega) (by omega) (by omega) (by omega)
    obtain ⟨⟨w1, w2, w3⟩, -⟩ := a2
    refine LP.s0 (by omega) (by omega) w1 ?_
    rw [show ab tc = nI (b + j) from w2, show wi tc = f from w3]
    refine ent tc fc ab ar fi fx li nm op pd wh wi x1 x2 _ ⟨fun _ => ⟨fun _ => q_mpart (s := 1) (l := h :: x :: t) hb hm (by omega) (by show 1 ≤ _ + 1 + 1; omega) hch hinc0 ?_, fun z => absurd rfl z⟩, fun z => absurd (by decide) z⟩
    refine q_mcon hbk hto a3 (by omega) a4 (by omega) ?_
    have := a10 (k + 1) fc ([(1, nc + 1, 0)], [x]) ab ar _ _ _ nm _ pd wh wi _ _ (by omega) (by omega) (by omega) (by omega) (fun _ _ => ⟨rfl, rfl, rfl⟩) (fun _ _ => ⟨rfl, rfl, rfl⟩) rfl (MOK.con a3 a4 (by omega) (by omega))
    unfold LP at this
    rw [show 2001 - (k + 1) = 2000 - k by omega] at this
    exact this
  by_cases i12 : i = 12
  · subst i12
    obtain ⟨y, d, rfl⟩ := len2 (Nat.succ.inj (Nat.succ.inj (s12 rfl)))
    obtain ⟨l1, l2, l3⟩ := kq y (List.mem_cons_of_mem _ List.mem_cons_self)
    obtain ⟨n1, n2, n3⟩ := kq d (List.mem_cons_of_mem _ (List.mem_cons_of_mem _ List.mem_cons_self))
    have hw : w h + (w x + (w y + (w d + 0))) + 2 ≤ w j := hwj
    have ec : cform kids c fs 12 [x, y, d] = gseq (c fs x) (gsel (c fs y) (c fs d)) := rfl
    rw [ec]
    refine MR.mono (MR.exp (af := 0) (Q := fun fc ar nm pd => FRM b m K kids fc ar nm pd f fs) (MR.mono (MR.cons st (k3 fs f) (MR.choice hb hm hj hch hinc0 hbk hto st (l3 fs f) (n3 fs f) (by omega) (by omega))) (Nat.le_refl _) (Nat.le_refl _) (Nat.le_refl _) (Nat.le_refl _) (bt' := 2 * w x + 2 * w y + 2 * w d + 4) (Nat.max_le.mpr ⟨by show 1 + 2 * w x ≤ _; omega, by omega⟩)) (by show 2 ≤ _; omega) (fun tc fc ab ar fi fx li nm op pd wh wi x1 x2 post a1 a2 a3 a4 => ?_)) (by omega) (by omega) (by omega) (by omega) (by omega)
    refine ent tc fc ab ar fi fx li nm op pd wh wi x1 x2 _ ⟨fun _ => ⟨fun z => absurd z (by decide), fun _ => ⟨fun _ => q_later (l := []) SS.nil rfl (by omega) (fun ab1 wh1 wi1 s1 => q_mpart (s := 1) (l := [h, x, y, d]) hb hm (by omega) (show 1 ≤ 4 by decide) hch hinc0 (q_later s1 rfl (by omega) (fun ab2 wh2 wi2 s2 => a4 fc ar nm pd ab2 wh2 wi2 (Nat.le_refl _) (by omega) (fun _ _ => ⟨rfl, rfl, rfl⟩) a1 s2))), fun z => absurd rfl z⟩⟩, fun z => absurd (by decide) z⟩
  by_cases i13 : i = 13
  · subst i13
    obtain ⟨z1, z2, z3⟩ := s13 rfl
    obtain ⟨y, rfl⟩ := len1 (Nat.succ.inj (Nat.succ.inj z1))
    obtain ⟨l1, l2, l3⟩ := kq y (List.mem_cons_of_mem _ List.mem_cons_self)
    have hw : w h + (w x + (w y + 0)) + 2 ≤ w j := hwj
    have hwh3 := hw3 (Nat.le_refl _)
    have z2' : K x = 2 := z2
    have z3' : ∀ y ∈ kids x, K y = 1 := z3
    have ec : cform kids c fs 13 [x, y] = gfn (c (kids x :: fs) y) := rfl
    rw [ec]
    refine MR.mono (bl := 2 * w y - 1 + 2) (bc := w y) (bf := w y / 5 + 1) (bs := 4 * w y - 3 + 3) (bt := 2 * w y + 2) ⟨(l3 (kids x :: fs) f).1.fn, fun k tc fc pc nc ab ar fi fx li nm op pd wh wi x1 x2 a1 a2 a3 a4 a5 a6 a7 a8 a9 a10 a11 => ?_⟩ (by omega) (by omega) (by omega) (by omega) (by omega)
    obtain ⟨⟨w1, w2, w3⟩, -⟩ := a2
    refine LP.s0 (by omega) (by omega) w1 ?_
    rw [show ab tc = nI (b + j) from w2, show wi tc = f from w3]
    refine ent tc fc ab ar fi fx li nm op pd wh wi x1 x2 _ ⟨fun _ => ⟨fun z => absurd z (by decide), fun _ => ⟨fun z => absurd z (by decide), fun _ => ⟨fun _ => q_mpart (s := 1) (l := [h, x, y]) hb hm (by omega) (show 1 ≤ 3 by decide) hch hinc0 ?_, fun z => absurd rfl z⟩⟩⟩, fun z => absurd (by decide) z⟩
    have vf : vp_in (nI fc) 40 := vp_in_nI (by omega) (by decide)
    unfold wp_Model_frame
    rw [nI_1, nI_pred, nI_clamp (n := fc) (by omega), show 2000 - k = 2001 - (k + 1) by omega]
    refine ⟨vf, vf, vf, q_mpart (s := 2) (l := [h, x, y]) hb hm (by omega) (show 2 ≤ 3 by decide) hch hinc0 ?_⟩
    have hd : DES b m K kids (upd nm fc (nI (b + x))) (upd pd fc (vp_nar .boolean (0 : Int32))) fc (kids x) := Or.inl ⟨by rw [pk_us]; rfl, x, k1, pk_us, z2', rfl, z3'⟩
    refine MR.bodyrun (k := k + 1) (ar := upd ar fc f) (nm := upd nm fc (nI (b + x))) (pd := upd pd fc (vp_nar .boolean (0 : Int32))) hbk hto (l3 (kids x :: fs) (nI fc)) (by omega) (a1.add (by omega) hd) a3 a4 a5 a6 (by omega) (by omega) (by omega) (fun k' fc' r ab' ar' fi' fx' li' nm' op' pd' wh' wi' x1' x2' b0 b1 b2 b3 b4 b5 => a10 k' fc' r ab' ar' fi' fx' li' nm' op' pd' wh' wi' x1' x2' (by omega) (by omega) (by omega) (by omega) b4 (fun u hu => ?_)) a11
    obtain ⟨e1, e2, e3⟩ := b5 u (by omega)
    exact ⟨e1.trans (pk_un (by omega)), e2.trans (pk_un (by omega)), e3.trans (pk_un (by omega))⟩
  -- let and letrec
  obtain ⟨z1, z2⟩ := s14 (by omega)
  have hwh3 := hw3 (by omega)
  have z2' : ∀ y ∈ t, bnd K kids y := z2
  have vq : ∀ y ∈ t, (kids y).getD 1 0 < m ∧ w ((kids y).getD 1 0) ≤ w y := fun y hy => by
    obtain ⟨v1, v2, v3⟩ := hC.val (hinct.mem (List.mem_cons_of_mem _ hy)).2 (z2' y hy)
    exact ⟨v1, by omega⟩
  have vc : ∀ y ∈ t, EXM bank b m to K C fo N S W kids w KK PP c ((kids y).getD 1 0) := fun y hy => by
    obtain ⟨v1, v2, v3⟩ := hC.val (hinct.mem (List.mem_cons_of_mem _ hy)).2 (z2' y hy)
    exact kid _ v1 (by rw [v3, hdt y (List.mem_cons_of_mem _ hy)]; omega)
  have bd := gargs_w (w := w) (l := t) (v := fun y => (kids y).getD 1 0) vq
  have hwv : ∀ y ∈ t, 1 ≤ w ((kids y).getD 1 0) := fun y hy => (hC.2 _ (vq y hy).1).1
  have hdes : ∀ nm pd fc, DES b m K kids (upd nm fc (nI (b + j))) (upd pd fc (vp_nar .boolean (1 : Int32))) fc t := fun nm pd fc => Or.inr ⟨by rw [pk_us]; rfl, j, hj, pk_us, hk, by rw [hkids]; show 2 ≤ _ + 1 + 1; omega, by rw [hkids]; rfl, z2'⟩
  have htl : t.length ≤ wsum (fun y => w ((kids y).getD 1 0)) t := by
    have := dsum_ge hwv t.length (Nat.le_refl _)
    rw [dsum_all] at this
    exact this
  have ld2 : ∀ f', (dnT b f' (fun y => (kids y).getD 1 0) t t.length).length = 2 * t.length := fun f' => dnT_len _
  generalize hW : wsum (fun y => w ((kids y).getD 1 0)) t = Wt at bd htl
  by_cases i14 : i = 14
  · subst i14
    have ec : cform kids c fs 14 (x :: t) = gseq (gargs (fun y => c fs ((kids y).getD 1 0)) t) (gseq (gfn (c (t :: fs) x)) (gput 3 0 0)) := rfl
    rw [ec]
    have mr : ∀ n, n + 1 ≤ 40 → MR bank b to C fo N S W KK PP (fun fc ar nm pd => FRM b m K kids fc ar nm pd f fs ∧ FRM b m K kids fc ar nm pd (nI n) (t :: fs)) (1 + 2 * Wt + (2 * w x - 1 + 2 + 1)) (Wt + (w x + 0)) (Wt / 5 + (w x / 5 + 0)) (1 + 4 * Wt + (4 * w x - 3 + 3 + 1)) (2 * Wt + 2 * w x + 3) (((1, 1, 0) :: dnT b f (fun y => (kids y).getD 1 0) t t.length) ++ [(2, nI (b + x), nI n), (1, 3, 0)]) (gseq (gargs (fun y => c fs ((kids y).getD 1 0)) t) (gseq (gfn (c (t :: fs) x)) (gput 3 0 0))) := fun n hn => by
      have st2 : FST (fun fc ar nm pd => FRM b m K kids fc ar nm pd f fs ∧ FRM b m K kids fc ar nm pd (nI n) (t :: fs)) := fun fc fc' ar nm pd ar' nm' pd' h1 h2 h3 => ⟨FRM.st _ _ _ _ _ _ _ _ h1.1 h2 h3, FRM.st _ _ _ _ _ _ _ _ h1.2 h2 h3⟩
      have A := MR.args (c := fun y => c fs ((kids y).getD 1 0)) (v := fun y => (kids y).getD 1 0) (wt := fun y => w ((kids y).getD 1 0)) (f := f) hbk hto st2 hwv (fun y hy => (vc y hy fs f).pre (fun _ _ _ _ z => z.1))
      rw [hW] at A
      refine MR.mono (MR.app st2 A (MR.cons st2 (MR.body hbk hto ((k3 (t :: fs) (nI n)).pre (fun _ _ _ _ z => z.2)) (by omega)) (MR.put (o := 3) (f := 0) hbk hto))) (Nat.le_refl _) (Nat.le_refl _) (Nat.le_refl _) (Nat.le_refl _) (Nat.max_le.mpr ⟨by show 2 + (2 * Wt + 1) ≤ _; omega, Nat.max_le.mpr ⟨by show 1 + (2 + 2 * w x) ≤ _; omega, by omega⟩⟩)
    refine MR.mono (MR.expF (af := 1) (mr 0 (by omega)).1 mr (fun n => by show (dnT b f (fun y => (kids y).getD 1 0) t t.length ++ [(2, nI (b + x), nI n), (1, 3, 0)]).length + 1 ≤ _; rw [List.length_append, ld2]; show 2 * t.length + 2 + 1 ≤ _; omega) (fun tc fc ab ar fi fx li nm op pd wh wi x1 x2 post a1 a2 a3 a4 => ?_)) (by omega) (by omega) (by omega) (by omega) (by omega)
    refine ent tc fc ab ar fi fx li nm op pd wh wi x1 x2 _ ⟨fun _ => ⟨fun z => absurd z (by decide), fun _ => ⟨fun z => absurd z (by decide), fun _ => ⟨fun z => absurd z (by decide), fun _ => ⟨fun z => absurd z (by decide), fun _ => ?_⟩⟩⟩⟩, fun z => absurd (by decide) z⟩
    have vf : vp_in (nI fc) 40 := vp_in_nI (by omega) (by decide)
    unfold wp_Model_frame
    rw [nI_1, nI_pred, nI_clamp (n := fc) (by omega)]
    refine ⟨vf, vf, vf, fun _ => ?_, fun z => absurd rfl z⟩
    unfold wp_Model_expression_J224
    refine q_later (l := []) SS.nil rfl (by omega) (fun ab1 wh1 wi1 s1 => q_mpart (s := 1) (l := h :: x :: t) hb hm (by omega) (by show 1 ≤ _ + 1 + 1; omega) hch hinc0 (q_later s1 rfl (by omega) (fun ab2 wh2 wi2 s2 => ⟨fun _ => q_margs (n0 := 2) (v := fun y => (kids y).getD 1 0) (t := t) hb hm hj (by rw [hkids]; show 2 ≤ _ + 1 + 1; omega) hT.tm hk (by rw [hkids]; rfl) (Or.inr ⟨by decide, fun y hy => ⟨z2' y hy, rfl⟩⟩) s2 rfl (by omega) (fun ab3 wh3 wi3 s3 => ⟨fun z => absurd z (by decide), fun _ => ?_⟩), fun z => absurd rfl z⟩)))
    have := a4 (fc + 1) (upd ar fc f) (upd nm fc (nI (b + j))) (upd pd fc (vp_nar .boolean (1 : Int32))) ab3 wh3 wi3 (by omega) (by omega) (fun u hu => ⟨pk_un (by omega), pk_un (by omega), pk_un (by omega)⟩) ⟨FRM.st fc (fc + 1) ar nm pd _ _ _ a1 (by omega) (fun u hu => ⟨pk_un (by omega), pk_un (by omega), pk_un (by omega)⟩), a1.add (by omega) (hdes nm pd fc)⟩ s3
    rw [List.length_append, List.length_cons, ld2] at this
    rw [show tc + 1 + 1 + 2 * t.length + 1 = tc + (2 * t.length + 1 + [(2, nI (b + x), nI fc), ((1 : Int32), (3 : Int32), (0 : Int32))].length) from by show _ = tc + (2 * t.length + 1 + 2); omega]
    exact this
  · have i15 : i = 15 := by omega
    subst i15
    have ec : cform kids c fs 15 (x :: t) = gseq (gput 5 0 0) (gseq (gargs (fun y => c (t :: fs) ((kids y).getD 1 0)) t) (gseq (gfn (c (t :: fs) x)) (gput 6 0 0))) := rfl
    rw [ec]
    have mr : ∀ n, n + 1 ≤ 40 → MR bank b to C fo N S W KK PP (fun fc ar nm pd => FRM b m K kids fc ar nm pd (nI n) (t :: fs)) (1 + (1 + 2 * Wt + (2 * w x - 1 + 2 + 1))) (0 + (Wt + (w x + 0))) (0 + (Wt / 5 + (w x / 5 + 0))) (1 + (1 + 4 * Wt + (4 * w x - 3 + 3 + 1))) (2 * Wt + 2 * w x + 4) ((1, 5, 0) :: (((1, 1, 0) :: dnT b (nI n) (fun y => (kids y).getD 1 0) t t.length) ++ [(2, nI (b + x), nI n), (1, 6, 0)])) (gseq (gput 5 0 0) (gseq (gargs (fun y => c (t :: fs) ((kids y).getD 1 0)) t) (gseq (gfn (c (t :: fs) x)) (gput 6 0 0)))) := fun n hn => by
      have st2 : FST (fun fc ar nm pd => FRM b m K kids fc ar nm pd (nI n) (t :: fs)) := FRM.st
      have A := MR.args (c := fun y => c (t :: fs) ((kids y).getD 1 0)) (v := fun y => (kids y).getD 1 0) (wt := fun y => w ((kids y).getD 1 0)) (f := nI n) hbk hto st2 hwv (fun y hy => vc y hy (t :: fs) (nI n))
      rw [hW] at A
      refine MR.mono (MR.cons st2 (MR.put (o := 5) (f := 0) hbk hto) (MR.app st2 A (MR.cons st2 (MR.body hbk hto (k3 (t :: fs) (nI n)) (by omega)) (MR.put (o := 6) (f := 0) hbk hto)))) (Nat.le_refl _) (Nat.le_refl _) (Nat.le_refl _) (Nat.le_refl _) (Nat.max_le.mpr ⟨by rw [List.length_append, List.length_cons, ld2]; show 2 * t.length + 1 + 2 + 1 ≤ _; omega, Nat.max_le.mpr ⟨by show 2 + (2 * Wt + 1) ≤ _; omega, Nat.max_le.mpr ⟨by show 1 + (2 + 2 * w x) ≤ _; omega, by omega⟩⟩⟩)
    refine MR.mono (MR.expF (af := 1) (mr 0 (by omega)).1 mr (fun n => by show (((1, 1, 0) :: dnT b (nI n) (fun y => (kids y).getD 1 0) t t.length) ++ [(2, nI (b + x), nI n), (1, 6, 0)]).length + 1 ≤ _; rw [List.length_append, List.length_cons, ld2]; show 2 * t.length + 1 + 2 + 1 ≤ _; omega) (fun tc fc ab ar fi fx li nm op pd wh wi x1 x2 post a1 a2 a3 a4 => ?_)) (by omega) (by omega) (by omega) (by omega) (by omega)
    refine ent tc fc ab ar fi fx li nm op pd wh wi x1 x2 _ ⟨fun _ => ⟨fun z => absurd z (by decide), fun _ => ⟨fun z => absurd z (by decide), fun _ => ⟨fun z => absurd z (by decide), fun _ => ⟨fun z => absurd z (by decide), fun _ => ?_⟩⟩⟩⟩, fun z => absurd (by decide) z⟩
    have vf : vp_in (nI fc) 40 := vp_in_nI (by omega) (by decide)
    unfold wp_Model_frame
    rw [nI_1, nI_pred, nI_clamp (n := fc) (by omega)]
    refine ⟨vf, vf, vf, fun z => absurd z (by decide), fun _ => ?_⟩
    unfold wp_Model_expression_J224
    refine q_later (l := []) SS.nil rfl (by omega) (fun ab1 wh1 wi1 s1 => q_mpart (s := 1) (l := h :: x :: t) hb hm (by omega) (by show 1 ≤ _ + 1 + 1; omega) hch hinc0 (q_later s1 rfl (by omega) (fun ab2 wh2 wi2 s2 => ⟨fun z => absurd z (by decide), fun _ => q_margs (n0 := 2) (v := fun y => (kids y).getD 1 0) (t := t) hb hm hj (by rw [hkids]; show 2 ≤ _ + 1 + 1; omega) hT.tm hk (by rw [hkids]; rfl) (Or.inr ⟨by decide, fun y hy => ⟨z2' y hy, rfl⟩⟩) s2 rfl (by omega) (fun ab3 wh3 wi3 s3 => ⟨fun _ => ?_, fun z => absurd rfl z⟩)⟩)))
    have ll : (((1, 1, 0) :: dnT b (nI fc) (fun y => (kids y).getD 1 0) t t.length) ++ [(2, nI (b + x), nI fc), ((1 : Int32), (6 : Int32), (0 : Int32))]).length = 2 * t.length + 1 + 2 := by rw [List.length_append, List.length_cons, ld2]; rfl
    refine q_later s3 (by show _ = tc + (((1, 1, 0) :: dnT b (nI fc) (fun y => (kids y).getD 1 0) t t.length) ++ [(2, nI (b + x), nI fc), ((1 : Int32), (6 : Int32), (0 : Int32))]).length; rw [ll]; omega) (by omega) (fun ab4 wh4 wi4 s4 => ?_)
    have := a4 (fc + 1) (upd ar fc f) (upd nm fc (nI (b + j))) (upd pd fc (vp_nar .boolean (1 : Int32))) ab4 wh4 wi4 (by omega) (by omega) (fun u hu => ⟨pk_un (by omega), pk_un (by omega), pk_un (by omega)⟩) (a1.add (by omega) (hdes nm pd fc)) s4
    rw [List.length_cons, ll] at this
    rw [show tc + 1 + 1 + 2 * t.length + 1 + 1 = tc + (2 * t.length + 1 + 2 + 1) by omega]
    exact this
end
