/-! compile, both -/
theorem bank_to {bk : Nat} (h : bk < 2) : (1 : Int32) - nI bk = nI (1 - bk) ∧ (200 : Int32) * ((1 : Int32) - nI bk) = nI (200 * (1 - bk)) := by
  rcases (show bk = 0 ∨ bk = 1 by omega) with rfl | rfl
  · exact ⟨by decide, by decide⟩
  · exact ⟨by decide, by decide⟩
theorem compile_both {n bk : Nat} {dsz dlc dcnt doc mst psz plc pcnt tfc ter pr nd ts fr st : Int32} {dco dF dK dP dO dV dwo pco pF pK pV pwo ct tfn tfr ab ar C fi fx fo R li nm N op Q pd S mt W wh wi x1 x2 : Nat → Int32}
    {PM : Int32 → Int32 → Int32 → Int32 → (Nat → Int32) → Int32 → Int32 → (Nat → Int32) → (Nat → Int32) → (Nat → Int32) → (Nat → Int32) → (Nat → Int32) → (Nat → Int32) → Int32 → Int32 → Int32 → (Nat → Int32) → Int32 → (Nat → Int32) → (Nat → Int32) → (Nat → Int32) → (Nat → Int32) → Int32 → Int32 → (Nat → Int32) → Int32 → Int32 → Int32 → Int32 → Int32 → Int32 → Int32 → Int32 → (Nat → Int32) → (Nat → Int32) → (Nat → Int32) → (Nat → Int32) → (Nat → Int32) → (Nat → Int32) → (Nat → Int32) → (Nat → Int32) → (Nat → Int32) → (Nat → Int32) → (Nat → Int32) → (Nat → Int32) → (Nat → Int32) → (Nat → Int32) → (Nat → Int32) → (Nat → Int32) → (Nat → Int32) → (Nat → Int32) → Prop}
    (hn : n ≤ 200) (hbk : bk < 2) (het : ∀ k, k < n → ct k = mt k) (hfn : tfn = fun x => formC.getD x 0) (hfo : ∀ x, x < 16 → fo x = formM.getD x 0) (hP : PRG bk psz plc pco pcnt pF pK pV pwo pr S W C N fi fx li op x1 x2)
    (hJ : ∀ (r dsz' dlc' dcnt' doc' mst' psz' plc' pcnt' tfc' ter' pr' nd' ts' fr' st' : Int32) (n' bk' : Nat) (dco' dF' dK' dP' dO' dV' dwo' pco' pF' pK' pV' pwo' tfr' ab' ar' C' fi' fx' R' li' nm' N' op' Q' pd' S' W' wh' wi' x1' x2' : Nat → Int32), n' ≤ n → bk' < 2 → PRG bk' psz' plc' pco' pcnt' pF' pK' pV' pwo' pr' S' W' C' N' fi' fx' li' op' x1' x2' →
      ((mst' = mst ∧ st' = st ∧ psz' = psz ∧ plc' = plc ∧ pco' = pco ∧ pcnt' = pcnt ∧ pF' = pF ∧ pK' = pK ∧ pV' = pV ∧ pwo' = pwo ∧ pr' = pr ∧ bk' = bk ∧ KEPT (1 - bk) fi fx li op x1 x2 fi' fx' li' op' x1' x2') ∨ (mst' = 0 ∧ st' = 0)) →
      PM r (nI n') dsz' dlc' dco' dcnt' doc' dF' dK' dP' dO' dV' dwo' mst' psz' plc' pco' pcnt' pF' pK' pV' pwo' tfc' ter' tfr' r (nI n') (nI bk') pr' nd' ts' fr' st' ab' ar' C' fi' fx' R' li' nm' N' op' Q' pd' S' W' wh' wi' x1' x2') :
    wp_Secd_compile (nI n) dsz dlc dco dcnt doc dF dK dP dO dV dwo mst psz plc pco pcnt pF pK pV pwo ct tfc ter tfn tfr (fun a1 a2 a3 a4 a5 a6 a7 a8 a9 a10 a11 a12 a13 a14 a15 a16 a17 a18 a19 a20 a21 a22 a23 a24 a25 => wp_Model_compile (nI n) (nI bk) pr nd ts fr st ab ar C fi fx fo R li nm N op Q pd S mt W wh wi x1 x2 (PM a1 a2 a3 a4 a5 a6 a7 a8 a9 a10 a11 a12 a13 a14 a15 a16 a17 a18 a19 a20 a21 a22 a23 a24 a25)) := by
  subst hfn
  obtain ⟨hb1, hb2⟩ := bank_to hbk
  unfold wp_Secd_compile wp_Model_compile
  rcases read_both (ct := ct) (mt := mt) (bank := nI bk) hn (b := 200 * (1 - bk)) (by omega) hb2 het dcnt doc nd dK dV dF dO dP S W C N Q R with ⟨m, K', V', F', O', P', S', W', C', N', Q', R', hm0, hRX, ho, gc, gm⟩ | ⟨c1, c2, e1, K', V', F', O', P', S', W', C', N', Q', R', ho, gc, gm⟩
  · obtain ⟨kids, w, dp, hT⟩ := tree_of hRX
    have hw : w 0 ≤ 200 := by have := (hT.2 0 hm0).2.1; omega
    refine gc _ ⟨fun z => absurd z (by decide), fun _ => ?_⟩
    refine trans_class hT.tc hm0 hw (fun er' fr' pc nc co' wo' p1 p2 hO => ?_)
    cases hg : gprog K' V' kids 0 0 with
    | error e =>
      have he : e < 0 := GN.prog 0 0 e hg
      have hne : ¬ e = 0 := fun z => by rw [z] at he; exact absurd he (by decide)
      have hnl : ¬ 0 ≤ e := fun z => absurd (Int32.lt_of_le_of_lt z he) (by decide)
      unfold OUT at hO
      rw [hg] at hO
      simp only at hO
      subst hO
      refine ⟨fun z => absurd z hne, fun _ => gm _ ⟨fun z => absurd z (by decide), fun _ => ?_⟩⟩
      refine trans_model hT (by omega) rfl hb1 (by omega) hfo hm0 hn (fun r ts fr ab ar fi' fx' li' nm op' pd wh wi x1' x2' z => by rw [hg] at z; cases z) (fun e2 ts fr ab ar fi' fx' li' nm op' pd wh wi x1' x2' z hk => ?_)
      rw [hg] at z
      have z2 := Except.error.inj z
      subst z2
      refine ⟨fun z => absurd z hnl, fun _ => hJ _ _ _ _ _ _ _ _ _ _ _ _ _ _ _ _ n bk _ _ _ _ _ _ _ _ _ _ _ _ _ _ _ _ _ _ _ _ _ _ _ _ _ _ _ _ _ _ _ (Nat.le_refl _) hbk (hP.keep hbk ho hk) (Or.inl ⟨rfl, rfl, rfl, rfl, rfl, rfl, rfl, rfl, rfl, rfl, rfl, rfl, hk⟩)⟩
    | ok r =>
      have gb := prog_bound hT.tc hm0 hw 0 0
      unfold OUT at hO
      rw [hg] at hO gb
      simp only at hO gb
      obtain ⟨o1, o2, o3, o4, o5, o6, o7⟩ := hO
      rw [Nat.zero_add] at o2 o3
      subst o1 o2 o3
      have hm200 := hT.1
      have z0 : ¬ (0 : Int32) < 0 := by decide
      have c0 : (0 : Int32).toNatClampNeg = 0 := by decide
      refine ⟨fun _ => ?_, fun z => absurd rfl z⟩
      unfold wp_Program_copyFrom wp_Datum_copyFrom wp_Machine_dropRun
      rw [c0, nI_clamp (n := m) (by omega), nI_clamp (n := r.1.length) (by omega), nI_1, nI_clamp (n := r.2.length + 1) (by omega)]
      have pm : ¬ nI m < 0 := nI_pos (by omega)
      have ps : ¬ nI r.1.length < 0 := nI_pos (by omega)
      have pl : ¬ nI (r.2.length + 1) < 0 := nI_pos (by omega)
      refine ⟨z0, z0, pm, by omega, by omega, z0, z0, pm, by omega, by omega, z0, z0, pm, by omega, by omega, z0, z0, ps, by omega, by omega, z0, z0, pl, by omega, by omega, ?_⟩
      refine gm _ ⟨fun z => absurd z (by decide), fun _ => ?_⟩
      refine trans_model hT (by omega) rfl hb1 (by omega) hfo hm0 hn (fun r2 ts fr ab ar fi' fx' li' nm op' pd wh wi x1' x2' z hk => ?_) (fun e2 ts fr ab ar fi' fx' li' nm op' pd wh wi x1' x2' z hk => by rw [hg] at z; cases z)
      rw [hg] at z
      have z2 := Except.ok.inj z
      subst z2
      obtain ⟨k1, k2, k3, k4, k5, k6, k7⟩ := hk
      rw [Nat.zero_add] at k1 k2
      rw [hb1, nI_clamp (n := 1 - bk) (by omega), k1]
      refine ⟨fun _ => ⟨vp_in_nI (by omega) (by decide), ?_⟩, fun z => absurd (by decide) z⟩
      refine hJ _ _ _ _ _ _ _ _ _ _ _ _ _ _ _ _ 0 (1 - bk) _ _ _ _ _ _ _ _ _ _ _ _ _ _ _ _ _ _ _ _ _ _ _ _ _ _ _ _ _ _ _ (by omega) (by omega) (Or.inr ⟨rfl, m, n, K', V', kids, w, dp, r, hm0, hn, hT.to (fun k hk => ⟨va_cpy_lt hk, va_cpy_lt hk, va_cpy_lt hk⟩) (fun _ _ => ⟨rfl, rfl, rfl, rfl⟩), fun k hk => ⟨(va_cpy_lt hk).symm, (va_cpy_lt hk).symm⟩, rfl, hg, gb.1, gb.2, rfl, rfl, o5.to (fun k hk hk2 => va_cpy_lt (by omega)), o7.to (fun k hk hk2 => va_cpy_lt (by omega)), k1, k2, k6, k7⟩) (Or.inr ⟨rfl, rfl⟩)
  · refine gc _ ⟨fun _ => gm _ ⟨fun _ => ?_, fun z => absurd rfl z⟩, fun z => absurd rfl z⟩
    exact hJ _ _ _ _ _ _ _ _ _ _ _ _ _ _ _ _ n bk _ _ _ _ _ _ _ _ _ _ _ _ _ _ _ _ _ _ _ _ _ _ _ _ _ _ _ _ _ _ _ (Nat.le_refl _) hbk (hP.keep hbk ho KEPT.refl) (Or.inl ⟨rfl, rfl, rfl, rfl, rfl, rfl, rfl, rfl, rfl, rfl, rfl, rfl, KEPT.refl⟩)
theorem code_both {bk : Nat} {psz plc pcnt pr x : Int32} {pco pF pK pV pwo S W C N fi fx li op x1 x2 : Nat → Int32} {PM : Int32 → Int32 → Prop} (hbk : bk < 2) (hP : PRG bk psz plc pco pcnt pF pK pV pwo pr S W C N fi fx li op x1 x2) (hJ : ∀ r, PM r r) : wp_Secd_code psz pwo x (fun r => wp_Model_code (nI bk) pr li op x1 x2 x (PM r)) := by
  unfold wp_Secd_code wp_Program_wordAt wp_Model_code
  have vb : vp_in (nI bk) 2 := vp_in_nI hbk (by decide)
  have eb : (nI bk).toNatClampNeg = bk := nI_clamp (by omega)
  rw [eb]
  rcases hP with ⟨h1, h2⟩ | ⟨h0, m, q, K, V, kids, w, dp, r, h1, h2, h3, h4, h5, h6, h7, h8, h9, h10, h11, h12, h13, h14, h15, h16⟩
  · rw [h1, h2]
    exact ⟨fun _ => ⟨fun _ => hJ _, fun z => absurd rfl z⟩, fun c => ⟨fun _ => ⟨fun _ => hJ _, fun z => absurd rfl z⟩, fun c2 => absurd (Int32.not_lt.mp c) c2⟩⟩
  · rw [h0, h9, h13]
    refine ⟨fun c => ⟨fun z => absurd z (by decide), fun _ => ⟨fun _ => hJ _, fun z => absurd c z⟩⟩, fun c => ?_⟩
    obtain ⟨k, hk, rfl⟩ := nI_of c
    refine ⟨fun c2 => ⟨fun z => absurd z (by decide), fun _ => ⟨fun z => absurd z c, fun _ => ⟨vb, fun c3 => absurd (Int32.lt_of_le_of_lt c2 c3) (fun z => Int32.lt_irrefl z), fun _ => hJ _⟩⟩⟩, fun c2 => ?_⟩
    have hlt : k < r.1.length := by
      rcases Nat.lt_or_ge k r.1.length with z | z
      · exact z
      · exact absurd (nI_le z (by omega)) c2
    refine ⟨vp_in_nI (by omega) (by decide), fun z => absurd z (by decide), fun _ => ⟨fun z => absurd z c, fun _ => ⟨vb, fun _ => ?_, fun c3 => absurd (nI_lt hlt (by omega)) c3⟩⟩⟩
    have ea : (512 : Int32) * nI bk + nI k = nI (512 * bk + k) := by
      rw [show (512 : Int32) * nI bk = nI (512 * bk) from pk_mul 512 _, nI_add]
    rw [ea, nI_clamp (n := k) (by omega), nI_clamp (n := 512 * bk + k) (by omega)]
    have ve : vp_in (nI (512 * bk + k)) 1024 := vp_in_nI (by omega) (by decide)
    obtain ⟨l1, l2, l3⟩ := h15.at hlt
    have l4 := h11.at hlt
    rw [Nat.zero_add] at l4
    rw [l1, l2, l3, l4, wd_eq]
    exact ⟨ve, ve, ve, hJ _⟩
