/-! the reference translates a node as comp says -/
theorem TREE.tm {b m q : Nat} {K V F S W C N : Nat → Int32} {kids : Nat → List Nat} {w dp : Nat → Nat} (hT : TREE b m q K V F S W C N kids w dp) : ∀ x, x < m → K x = 2 → chM b N (C (b + x)) (kids x) ∧ inc 0 m (kids x) := fun x hx e => by
  rcases (hT.2 x hx).2.2.2 with z | z | z
  · exact absurd (e.symm.trans z.1) (by decide)
  · exact absurd (e.symm.trans z.1) (by decide)
  · exact ⟨z.2.2.2.2.1, z.2.2.2.2.2.1.weak (by omega)⟩
theorem TREE.ts {b m q : Nat} {K V F S W C N : Nat → Int32} {kids : Nat → List Nat} {w dp : Nat → Nat} (hT : TREE b m q K V F S W C N kids w dp) : ∀ j, j < m → (K j = 1 ↔ S (b + j) = 1) ∧ (K j = 2 ↔ S (b + j) = 2) ∧ (K j = 2 → chM b N (C (b + j)) (kids j) ∧ inc 0 m (kids j)) := fun j hj => by
  refine ⟨?_, ?_, hT.tm j hj⟩
  · rcases (hT.2 j hj).2.2.2 with z | z | z
    · rw [z.1, z.2.1]
    · rw [z.1, z.2.1]
    · rw [z.1, z.2.1]
  · rcases (hT.2 j hj).2.2.2 with z | z | z
    · rw [z.1, z.2.1]
    · rw [z.1, z.2.1]
    · rw [z.1, z.2.1]
theorem FRM.add {b m : Nat} {K : Nat → Int32} {kids : Nat → List Nat} {fc : Nat} {ar nm pd : Nat → Int32} {f x y : Int32} {l : List Nat} {fs : List (List Nat)} (h : FRM b m K kids fc ar nm pd f fs) (hfc : fc < 40) (hd : DES b m K kids (upd nm fc x) (upd pd fc y) fc l) : FRM b m K kids (fc + 1) (upd ar fc f) (upd nm fc x) (upd pd fc y) (nI fc) (l :: fs) := by
  refine ⟨fc, rfl, by omega, hfc, hd, ?_⟩
  rw [pk_us]
  exact FRM.st fc (fc + 1) ar nm pd _ _ _ h (by omega) (fun i hi => ⟨pk_un (by omega), pk_un (by omega), pk_un (by omega)⟩)
section
variable {b m q : Nat} {K V F S W C N : Nat → Int32} {kids : Nat → List Nat} {w dp : Nat → Nat} {bank : Int32} {to : Nat} {fo : Nat → Int32} {KK PP : KT}
theorem MR.leaf0 {j : Nat} {f : Int32} {P : Nat → (Nat → Int32) → (Nat → Int32) → (Nat → Int32) → Prop} (hT : TREE b m q K V F S W C N kids w dp) (hb : b ≤ 200) (hbk : (1 : Int32) - bank = nI to) (hto : to < 2) (hj : j < m) (hk : K j = 0) : MR bank b to C fo N S W KK PP P 1 1 0 1 1 [(0, nI (b + j), f)] (gcon j) := by
  have hs : S (b + j) = 0 := by
    rcases (hT.2 j hj).2.2.2 with z | z | z
    · exact z.2.1
    · exact absurd (hk.symm.trans z.1) (by decide)
    · exact absurd (hk.symm.trans z.1) (by decide)
  have hm := hT.1
  refine ⟨GB.con, fun k tc fc pc nc ab ar fi fx li nm op pd wh wi x1 x2 a1 a2 a3 a4 a5 a6 a7 a8 a9 a10 a11 => ?_⟩
  obtain ⟨⟨w1, w2, w3⟩, -⟩ := a2
  refine LP.s0 (by omega) (by omega) w1 ?_
  rw [show ab tc = nI (b + j) from w2]
  unfold wp_Model_expression
  rw [nI_clamp (n := b + j) (by omega), hs]
  refine ⟨vp_in_nI (by omega) (by decide), fun _ => q_mcon hbk hto a3 (by omega) a4 (by omega) ?_, fun z => absurd rfl z⟩
  have := a10 (k + 1) fc ([(1, nc + 1, 0)], [j]) ab ar _ _ _ nm _ pd wh wi _ _ (by omega) (by omega) (by omega) (by omega) (fun _ _ => ⟨rfl, rfl, rfl⟩) (fun _ _ => ⟨rfl, rfl, rfl⟩) rfl (MOK.con a3 a4 (by omega) (by omega))
  unfold LP at this
  rw [show 2001 - (k + 1) = 2000 - k by omega] at this
  exact this
theorem MR.fault {j : Nat} {f x : Int32} {P : Nat → (Nat → Int32) → (Nat → Int32) → (Nat → Int32) → Prop} (hx : x ≠ 0) (h : ∀ tc fc ab ar fi fx li nm op pd wh wi x1 x2 post, P fc ar nm pd → post x (nI tc) (nI fc) ab ar fi fx li nm op pd wh wi x1 x2 → wp_Model_expression bank (nI tc) (nI fc) ab ar C fi fx fo li nm N op pd S W wh wi x1 x2 (nI (b + j)) f post) : MR bank b to C fo N S W KK PP P 0 0 0 1 1 [(0, nI (b + j), f)] (gerr x) := by
  refine ⟨GB.err hx, fun k tc fc pc nc ab ar fi fx li nm op pd wh wi x1 x2 a1 a2 a3 a4 a5 a6 a7 a8 a9 a10 a11 => ?_⟩
  obtain ⟨⟨w1, w2, w3⟩, -⟩ := a2
  refine LP.s0 (by omega) (by omega) w1 ?_
  rw [show ab tc = nI (b + j) from w2, show wi tc = f from w3]
  refine h tc fc _ _ _ _ _ _ _ _ _ _ _ _ _ a1 ?_
  rw [show 2000 - k = (1999 - k) + 1 by omega]
  exact LP.fault hx (a11 x _ _ _ _ _ _ _ _ _ _ _ _ _ _ rfl KEPT.refl ⟨pc, by omega, a3⟩)
theorem MR.var {j : Nat} {f : Int32} {fs : List (List Nat)} (hT : TREE b m q K V F S W C N kids w dp) (hb : b ≤ 200) (hbk : (1 : Int32) - bank = nI to) (hto : to < 2) (hj : j < m) (hk : K j = 1) {x : Nat × Nat} (hl : look K V kids (V j) fs 0 = some x) : MR bank b to C fo N S W KK PP (fun fc ar nm pd => FRM b m K kids fc ar nm pd f fs) 1 0 0 1 1 [(0, nI (b + j), f)] (gput 0 x.1 x.2) := by
  have hs : S (b + j) = 1 := ((hT.ts j hj).1).mp hk
  have hm := hT.1
  refine ⟨GB.put, fun k tc fc pc nc ab ar fi fx li nm op pd wh wi x1 x2 a1 a2 a3 a4 a5 a6 a7 a8 a9 a10 a11 => ?_⟩
  obtain ⟨⟨w1, w2, w3⟩, -⟩ := a2
  refine LP.s0 (by omega) (by omega) w1 ?_
  rw [show ab tc = nI (b + j) from w2, show wi tc = f from w3]
  unfold wp_Model_expression
  rw [nI_clamp (n := b + j) (by omega), hs]
  have vj : vp_in (nI (b + j)) 400 := vp_in_nI (by omega) (by decide)
  refine ⟨vj, fun z => absurd z (by decide), fun _ => ⟨vj, fun _ => ⟨vj, _, q_load_L5 hT hb hj hk fs f 0 a1 (fun a c z => ?_) (fun z => by rw [hl] at z; cases z)⟩, fun z => absurd rfl z⟩⟩
  rw [hl] at z
  have e := Option.some.inj z
  subst e
  refine q_memit hbk hto a3 (by omega) ⟨fun z => absurd z (by decide), fun _ => ?_⟩
  have := a10 (k + 1) fc ([(0, a, c)], []) ab ar _ _ _ nm _ pd wh wi _ _ (by omega) (by omega) (by omega) (by omega) (fun _ _ => ⟨rfl, rfl, rfl⟩) (fun _ _ => ⟨rfl, rfl, rfl⟩) rfl (MOK.one a3 a4 (by omega))
  unfold LP at this
  rw [show 2001 - (k + 1) = 2000 - k by omega] at this
  exact this
end
