/-! the reference: constants, variables, what arguments push -/
theorem STK.app {ab wh wi : Nat → Int32} {tc : Nat} {l2 : List (Int32 × Int32 × Int32)} : ∀ {l1 : List (Int32 × Int32 × Int32)}, STK ab wh wi tc (l1 ++ l2) → STK ab wh wi (tc + l2.length) l1 ∧ STK ab wh wi tc l2
  | [], h => ⟨trivial, h⟩
  | x :: t, h => by
    obtain ⟨h1, h2⟩ := h
    have ih := STK.app h2
    have el : (t.append l2).length = t.length + l2.length := List.length_append
    rw [el] at h1
    exact ⟨⟨by rw [show tc + l2.length + t.length = tc + (t.length + l2.length) by omega]; exact h1, ih.1⟩, ih.2⟩
section
variable {bank : Int32} {b to : Nat} {C fo N S W : Nat → Int32} {KK PP : KT} {P Q : Nat → (Nat → Int32) → (Nat → Int32) → (Nat → Int32) → Prop} {g h : GG} {bl bc bf bs bt bl' bc' bf' bs' bt' : Nat} {l l' : List (Int32 × Int32 × Int32)} {k tc fc pc nc : Nat} {ab ar fi fx li nm op pd wh wi x1 x2 : Nat → Int32}
theorem MR.app (hP : FST P) (hg : MR bank b to C fo N S W KK PP P bl bc bf bs bt l g) (hh : MR bank b to C fo N S W KK PP P bl' bc' bf' bs' bt' l' h) : MR bank b to C fo N S W KK PP P (bl + bl') (bc + bc') (bf + bf') (bs + bs') (Nat.max (l'.length + bt) bt') (l ++ l') (gseq g h) := by
  refine ⟨hg.1.seq hh.1, fun k tc fc pc nc ab ar fi fx li nm op pd wh wi x1 x2 a1 a2 a3 a4 a5 a6 a7 a8 a9 a10 a11 => ?_⟩
  have m1 : l'.length + bt ≤ Nat.max (l'.length + bt) bt' := Nat.le_max_left _ _
  have m2 : bt' ≤ Nat.max (l'.length + bt) bt' := Nat.le_max_right _ _
  obtain ⟨s1, s2⟩ := STK.app a2
  rw [List.length_append, show tc + (l.length + l'.length) = tc + l'.length + l.length by omega]
  refine hg.2 k (tc + l'.length) fc pc nc ab ar fi fx li nm op pd wh wi x1 x2 a1 s1 a3 a4 (by omega) (by omega) (by omega) (by omega) (by omega) (fun k1 fc1 r ab1 ar1 fi1 fx1 li1 nm1 op1 pd1 wh1 wi1 x11 x21 b0 b1 b2 b3 b4 b5 b6 b7 => ?_) (fun e ts fr ab1 ar1 fi1 fx1 li1 nm1 op1 pd1 wh1 wi1 x11 x21 b1 b2 b3 => a11 e ts fr ab1 ar1 fi1 fx1 li1 nm1 op1 pd1 wh1 wi1 x11 x21 (by unfold gseq; rw [b1]) b2 b3)
  have gb := hg.1 pc nc
  rw [b6] at gb
  simp only at gb
  refine hh.2 k1 tc fc1 (pc + r.1.length) (nc + r.2.length) ab1 ar1 fi1 fx1 li1 nm1 op1 pd1 wh1 wi1 x11 x21 (hP _ _ _ _ _ _ _ _ a1 b2 b5) (s2.to b4) b7.1 b7.2.1 (by omega) (by omega) (by omega) (by omega) (by omega) (fun k2 fc2 s ab2 ar2 fi2 fx2 li2 nm2 op2 pd2 wh2 wi2 x12 x22 c0 c1 c2 c3 c4 c5 c6 c7 => ?_) (fun e ts fr ab2 ar2 fi2 fx2 li2 nm2 op2 pd2 wh2 wi2 x12 x22 c1 c2 c3 => a11 e ts fr ab2 ar2 fi2 fx2 li2 nm2 op2 pd2 wh2 wi2 x12 x22 (by unfold gseq; rw [b6]; simp only; rw [c1]) (b7.kept.trans c2) c3)
  refine a10 k2 fc2 (r.1 ++ s.1, r.2 ++ s.2) ab2 ar2 fi2 fx2 li2 nm2 op2 pd2 wh2 wi2 x12 x22 (by omega) (by omega) (by omega) (by omega) (fun i hi => ?_) (fun i hi => ?_) (by unfold gseq; rw [b6]; simp only; rw [c6]) (b7.seq c7 (by omega) (by omega))
  · obtain ⟨d1, d2, d3⟩ := c4 i hi
    obtain ⟨e1, e2, e3⟩ := b4 i (by omega)
    exact ⟨d1.trans e1, d2.trans e2, d3.trans e3⟩
  · obtain ⟨d1, d2, d3⟩ := c5 i (by omega)
    obtain ⟨e1, e2, e3⟩ := b5 i hi
    exact ⟨d1.trans e1, d2.trans e2, d3.trans e3⟩
theorem q_mcon {x : Int32} {post : (Nat → Int32) → (Nat → Int32) → (Nat → Int32) → (Nat → Int32) → (Nat → Int32) → (Nat → Int32) → Prop} (hbk : (1 : Int32) - bank = nI to) (hto : to < 2) (hl : li to = nI pc) (hpc : pc < 512) (hx : fx to = nI nc) (hnc : nc < 256) (hp : post (upd fi (256 * to + nc) x) (upd fx to (nI (nc + 1))) (upd li to (nI (pc + 1))) (upd op (512 * to + pc) (nI 1)) (upd x1 (512 * to + pc) (nI (nc + 1))) (upd x2 (512 * to + pc) (nI 0))) : wp_Model_constantOf bank fi fx li op x1 x2 x post := by
  have vt : vp_in (nI to) 2 := vp_in_nI hto (by decide)
  have et : (nI to).toNatClampNeg = to := nI_clamp (by omega)
  have ea : ((256 : Int32) * nI to + nI (nc + 1)) - 1 = nI (256 * to + nc) := by
    rw [show (256 : Int32) * nI to = nI (256 * to) from pk_mul 256 _, nI_add, show 256 * to + (nc + 1) = 256 * to + nc + 1 by omega, nI_pred]
  unfold wp_Model_constantOf
  rw [hbk, et, hx, nI_1, pk_us, ea, nI_clamp (n := 256 * to + nc) (by omega)]
  refine ⟨vt, vt, vt, vp_in_nI (by omega) (by decide), vt, ?_⟩
  exact q_memit hbk hto hl hpc hp
theorem MOK.con {j : Nat} (hl : li to = nI pc) (hx : fx to = nI nc) (hpc : pc < 512) (hnc : nc < 256) : MOK b to ([(1, nc + 1, 0)], [j]) pc nc fi fx li op x1 x2 (upd fi (256 * to + nc) (nI (b + j))) (upd fx to (nI (nc + 1))) (upd li to (nI (pc + 1))) (upd op (512 * to + pc) (nI 1)) (upd x1 (512 * to + pc) (nI (nc + 1))) (upd x2 (512 * to + pc) (nI 0)) :=
  ⟨pk_us, pk_us, fun k hk => ⟨pk_un hk, pk_un hk⟩, fun k hk => ⟨pk_un (by omega), pk_un (by omega), pk_un (by omega)⟩, fun k hk => pk_un (by omega), ⟨⟨pk_us, pk_us, pk_us⟩, trivial⟩, ⟨pk_us, trivial⟩⟩
end
theorem chM.drop {b : Nat} {N : Nat → Int32} : ∀ (n : Nat) {l : List Nat} {y : Int32}, chM b N y l → chM b N (hdM b (l.drop n)) (l.drop n)
  | 0, l, y, h => by rw [List.drop_zero, ← h.hd]; exact h
  | _ + 1, [], _, _ => rfl
  | n + 1, _ :: l, _, h => chM.drop n h.2
/-- the frames of the reference: a chain that begins at f -/
def DES (b m : Nat) (K : Nat → Int32) (kids : Nat → List Nat) (nm pd : Nat → Int32) (a : Nat) (l : List Nat) : Prop := (pd a = 0 ∧ ∃ q, q < m ∧ nm a = nI (b + q) ∧ K q = 2 ∧ kids q = l ∧ ∀ j ∈ l, K j = 1) ∨ (pd a = 1 ∧ ∃ q, q < m ∧ nm a = nI (b + q) ∧ K q = 2 ∧ 2 ≤ (kids q).length ∧ (kids q).drop 2 = l ∧ ∀ j ∈ l, bnd K kids j)
def FRM (b m : Nat) (K : Nat → Int32) (kids : Nat → List Nat) (fc : Nat) (ar nm pd : Nat → Int32) : Int32 → List (List Nat) → Prop
  | f, [] => f = -1
  | f, l :: t => ∃ a, f = nI a ∧ a < fc ∧ a < 40 ∧ DES b m K kids nm pd a l ∧ FRM b m K kids fc ar nm pd (ar a) t
theorem FRM.st {b m : Nat} {K : Nat → Int32} {kids : Nat → List Nat} : ∀ {fs : List (List Nat)} {f : Int32}, FST (fun fc ar nm pd => FRM b m K kids fc ar nm pd f fs)
  | [], _ => fun _ _ _ _ _ _ _ _ h _ _ => h
  | l :: t, f => fun fc fc' ar nm pd ar' nm' pd' h hf he => by
    obtain ⟨a, h1, h2, h3, h4, h5⟩ := h
    obtain ⟨e1, e2, e3⟩ := he a h2
    refine ⟨a, h1, by omega, h3, ?_, ?_⟩
    · unfold DES at h4 ⊢
      rw [e2, e3]
      exact h4
    · rw [e1]
      exact FRM.st fc fc' ar nm pd ar' nm' pd' h5 hf he
theorem mem0_nm {b m q : Nat} {K V F S W C N : Nat → Int32} {kids : Nat → List Nat} {w dp : Nat → Nat} (hT : TREE b m q K V F S W C N kids w dp) {j : Nat} (hj : j < m) (h : K j = 1 ∨ bnd K kids j) : mem0 K kids j < m ∧ nameR (V (mem0 K kids j)) (W (b + mem0 K kids j)) := by
  have nm : ∀ x, x < m → K x = 1 → nameR (V x) (W (b + x)) := fun x hx e => by
    rcases (hT.2 x hx).2.2.2 with z | z | z
    · exact absurd (e.symm.trans z.1) (by decide)
    · exact z.2.2.1
    · exact absurd (e.symm.trans z.1) (by decide)
  rcases h with h | h
  · have e : mem0 K kids j = j := by unfold mem0; rw [if_neg (by rw [h]; decide)]
    rw [e]
    exact ⟨hj, nm j hj h⟩
  · have e : mem0 K kids j = (kids j).headD 0 := by unfold mem0; rw [if_pos h.1]
    rw [e]
    have lt : (kids j).headD 0 < m := by
      rcases (hT.2 j hj).2.2.2 with z | z | z
      · exact absurd (h.1.symm.trans z.1) (by decide)
      · exact absurd (h.1.symm.trans z.1) (by decide)
      · have h2 := h.2.1
        have i := z.2.2.2.2.2.1
        cases e2 : kids j with
        | nil => rw [e2] at h2; exact absurd h2 (by decide)
        | cons a t => rw [e2] at i; exact i.2.1
    exact ⟨lt, nm _ lt h.2.2⟩
theorem q_load_L5 {b m q : Nat} {K V F S W C N : Nat → Int32} {kids : Nat → List Nat} {w dp : Nat → Nat} (hT : TREE b m q K V F S W C N kids w dp) (hb : b ≤ 200) {j fc : Nat} (hj : j < m) (hkj : K j = 1) {bank : Int32} {ar nm pd li op x1 x2 : Nat → Int32} {K92 : Int32 → Int32 → (Nat → Int32) → (Nat → Int32) → (Nat → Int32) → (Nat → Int32) → Prop} {post : Int32 → (Nat → Int32) → (Nat → Int32) → (Nat → Int32) → (Nat → Int32) → Prop} : ∀ (fs : List (List Nat)) (f : Int32) (i : Nat), FRM b m K kids fc ar nm pd f fs → (∀ a k, look K V kids (V j) fs i = some (a, k) → K92 (nI a) (nI k) li op x1 x2) → (look K V kids (V j) fs i = none → post 0 li op x1 x2) → wp_Model_load_L5 bank ar C nm N pd W K92 post (fs.length + 1) (W (b + j)) (nI i) f li op x1 x2
  | [], f, i, hF, h1, h0 => ⟨fun _ => h0 rfl, fun z => absurd (by rw [show f = -1 from hF]; decide) z⟩
  | l :: t, f, i, hF, h1, h0 => by
    obtain ⟨a, ef, f2, f3, f4, f5⟩ := hF
    have va : vp_in (nI a) 40 := vp_in_nI f3 (by decide)
    have hm := hT.1
    have unf : look K V kids (V j) (l :: t) i = match plc K V kids (V j) l 0 with
      | some k => some (i, k)
      | none => look K V kids (V j) t (i + 1) := rfl
    have tr : ∀ x, x < m → K x = 2 → chM b N (C (b + x)) (kids x) ∧ inc 0 m (kids x) := fun x hx e => by
      rcases (hT.2 x hx).2.2.2 with z | z | z
      · exact absurd (e.symm.trans z.1) (by decide)
      · exact absurd (e.symm.trans z.1) (by decide)
      · exact ⟨z.2.2.2.2.1, z.2.2.2.2.2.1.weak (by omega)⟩
    have nj := mem0_nm hT hj (Or.inl hkj)
    have ej : mem0 K kids j = j := by unfold mem0; rw [if_neg (by rw [hkj]; decide)]
    rw [ej] at nj
    subst ef
    have go : ∀ y, chM b N y l → inc 0 m l → (∀ x ∈ l, (pd a = 0 ∧ K x = 1) ∨ (¬ pd a = 0 ∧ bnd K kids x)) → wp_Model_load_J47 bank ar C nm N pd W (wp_Model_load_L5 bank ar C nm N pd W K92 post (t.length + 1)) K92 post (W (b + j)) (nI i) (nI a) y li op x1 x2 := fun y hy hi hf => by
      have hlen := hi.len
      have eqv : ∀ x ∈ l, (V (mem0 K kids x) = V j ↔ W (b + mem0 K kids x) = W (b + j)) := fun x hx => nameR_eq (mem0_nm hT (hi.mem hx).2 (by
        rcases hf x hx with z | z
        · exact Or.inl z.2
        · exact Or.inr z.2)).2 nj.2
      refine ⟨_, q_load_L52 hb hm f3 tr l y 0 0 hy hi hf (fun k hk c1 c2 => ?_) (fun c => ?_)⟩
      · rw [plc_hit hk ((eqv _ (getD_mem hk)).mpr c1) (fun i' hi' z => c2 i' hi' ((eqv _ (getD_mem (by omega))).mp z)), Nat.zero_add] at unf
        rw [Nat.zero_add]
        exact h1 i k unf
      · rw [plc_miss (fun x hx z => c x hx ((eqv x hx).mp z))] at unf
        rw [nI_clamp (n := a) (by omega), nI_1]
        exact ⟨va, q_load_L5 hT hb hj hkj t (ar a) (i + 1) f5 (fun a k e => h1 a k (unf.trans e)) (fun e => h0 (unf.trans e))⟩
    refine ⟨fun z => absurd z (nI_pos (by omega)), fun _ => ?_⟩
    rw [nI_clamp (n := a) (by omega)]
    rcases f4 with ⟨p0, x, x1, x2, x3, x4, x5⟩ | ⟨p0, x, x1, x2, x3, x4, x5, x6⟩
    · obtain ⟨c1, c2⟩ := tr x x1 x3
      rw [x2, nI_clamp (n := b + x) (by omega)]
      refine ⟨va, fun _ => ⟨va, vp_in_nI (by omega) (by decide), go _ (by rw [← x4]; exact c1) (by rw [← x4]; exact c2) (fun y hy => Or.inl ⟨p0, x5 y hy⟩)⟩, fun z => absurd p0 z⟩
    · obtain ⟨c1, c2⟩ := tr x x1 x3
      have np : ¬ pd a = 0 := by rw [p0]; decide
      rw [x2]
      refine ⟨va, fun z => absurd z np, fun _ => ⟨va, q_mpart (s := 2) hb hm (by omega) x4 c1 c2 (go _ (by rw [← x5]; exact c1.drop 2) (by rw [← x5]; exact c2.drop 2) (fun y hy => Or.inr ⟨np, x6 y hy⟩))⟩⟩
