/-! the reference: constants, variables, what arguments push -/
theorem STK.app {ab wh wi : Nat → Int32} {tc : Nat} {l2 : List (Int32 × Int32 × Int32)} : ∀ {l1 : List (Int32 × Int32 × Int32)}, STK ab wh wi tc (l1 ++ l2) → STK ab wh wi (tc + l2.length) l1 ∧ STK ab wh wi tc l2
  | [], h => ⟨trivial, h⟩
  | x :: t, h => by
    obtain ⟨h1, h2⟩ := h
    have ih := STK.app h2
    have el : (t.append l2).length = t.length + l2.length := List.length_append
    rw [el] at h1
    exact ⟨⟨by rw [show tc + l2.length + t.length = tc + (t.length + l2.length) by omega]; exact h1, ih.1⟩, ih.2⟩
section
variable {bank : Int32} {b to : Nat} {C fo N S W : Nat → Int32} {KK PP : KT} {P Q : Nat → (Nat → Int32) → (Nat → Int32) → (Nat → Int32) → Prop} {g h : GG} {bl bc bf bs bt bl' bc' bf' bs' bt' : Nat} {l l' : List (Int32 × Int32 × Int32)} {k tc fc pc nc : Nat} {ab ar fi fx li nm op pd wh wi x1 x2 : Nat → Int32}
theorem MR.app (hP : FST P) (hg : MR bank b to C fo N S W KK PP P bl bc bf bs bt l g) (hh : MR bank b to C fo N S W KK PP P bl' bc' bf' bs' bt' l' h) : MR bank b to C fo N S W KK PP P (bl + bl') (bc + bc') (bf + bf') (bs + bs') (Nat.max (l'.length + bt) bt') (l ++ l') (gseq g h) := by
  refine ⟨hg.1.seq hh.1, fun k tc fc pc nc ab ar fi fx li nm op pd wh wi x1 x2 a1 a2 a3 a4 a5 a6 a7 a8 a9 a10 a11 => ?_⟩
  have m1 : l'.length + bt ≤ Nat.max (l'.length + bt) bt' := Nat.le_max_left _ _
  have m2 : bt' ≤ Nat.max (l'.length + bt) bt' := Nat.le_max_right _ _
  obtain ⟨s1, s2⟩ := STK.app a2
  rw [List.length_append, show tc + (l.length + l'.length) = tc + l'.length + l.length by omega]
  refine hg.2 k (tc + l'.length) fc pc nc ab ar fi fx li nm op pd wh wi x1 x2 a1 s1 a3 a4 (by omega) (by omega) (by omega) (by omega) (by omega) (fun k1 fc1 r ab1 ar1 fi1 fx1 li1 nm1 op1 pd1 wh1 wi1 x11 x21 b0 b1 b2 b3 b4 b5 b6 b7 => ?_) (fun e ts fr ab1 ar1 fi1 fx1 li1 nm1 op1 pd1 wh1 wi1 x11 x21 b1 b2 b3 => a11 e ts fr ab1 ar1 fi1 fx1 li1 nm1 op1 pd1 wh1 wi1 x11 x21 (by unfold gseq; rw [b1]) b2 b3)
  have gb := hg.1 pc nc
  rw [b6] at gb
  simp only at gb
  refine hh.2 k1 tc fc1 (pc + r.1.length) (nc + r.2.length) ab1 ar1 fi1 fx1 li1 nm1 op1 pd1 wh1 wi1 x11 x21 (hP _ _ _ _ _ _ _ _ a1 b2 b5) (s2.to b4) b7.1 b7.2.1 (by omega) (by omega) (by omega) (by omega) (by omega) (fun k2 fc2 s ab2 ar2 fi2 fx2 li2 nm2 op2 pd2 wh2 wi2 x12 x22 c0 c1 c2 c3 c4 c5 c6 c7 => ?_) (fun e ts fr ab2 ar2 fi2 fx2 li2 nm2 op2 pd2 wh2 wi2 x12 x22 c1 c2 c3 => a11 e ts fr ab2 ar2 fi2 fx2 li2 nm2 op2 pd2 wh2 wi2 x12 x22 (by unfold gseq; rw [b6]; simp only; rw [c1]) (b7.kept.trans c2) c3)
  refine a10 k2 fc2 (r.1 ++ s.1, r.2 ++ s.2) ab2 ar2 fi2 fx2 li2 nm2 op2 pd2 wh2 wi2 x12 x22 (by omega) (by omega) (by omega) (by omega) (fun i hi => ?_) (fun i hi => ?_) (by unfold gseq; rw [b6]; simp only; rw [c6]) (b7.seq c7 (by omega) (by omega))
  · obtain ⟨d1, d2, d3⟩ := c4 i hi
    obtain ⟨e1, e2, e3⟩ := b4 i (by omega)
    exact ⟨d1.trans e1, d2.trans e2, d3.trans e3⟩
  · obtain ⟨d1, d2, d3⟩ := c5 i (by omega)
    obtain ⟨e1, e2, e3⟩ := b5 i hi
    exact ⟨d1.trans e1, d2.trans e2, d3.trans e3⟩
theorem q_mcon {x : Int32} {post : (Nat → Int32) → (Nat → Int32) → (Nat → Int32) → (Nat → Int32) → (Nat → Int32) → (Nat → Int32) → Prop} (hbk : (1 : Int32) - bank = nI to) (hto : to < 2) (hl : li to = nI pc) (hpc : pc < 512) (hx : fx to = nI nc) (hnc : nc < 256) (hp : post (upd fi (256 * to + nc) x) (upd fx to (nI (nc + 1))) (upd li to (nI (pc + 1))) (upd op (512 * to + pc) (nI 1)) (upd x1 (512 * to + pc) (nI (nc + 1))) (upd x2 (512 * to + pc) (nI 0))) : wp_Model_constantOf bank fi fx li op x1 x2 x post := by
  have vt : vp_in (nI to) 2 := vp_in_nI hto (by decide)
  have et : (nI to).toNatClampNeg = to := nI_clamp (by omega)
  have ea : ((256 : Int32) * nI to + nI (nc + 1)) - 1 = nI (256 * to + nc) := by
    rw [show (256 : Int32) * nI to = nI (256 * to) from pk_mul 256 _, nI_add, show 256 * to + (nc + 1) = 256 * to + nc + 1 by omega, nI_pred]
  unfold wp_Model_constantOf
  rw [hbk, et, hx, nI_1, pk_us, ea, nI_clamp (n := 256 * to + nc) (by omega)]
  refine ⟨vt, vt, vt, vp_in_nI (by omega) (by decide), vt, ?_⟩
  exact q_memit hbk hto hl hpc hp
theorem MOK.con {j : Nat} (hl : li to = nI pc) (hx : fx to = nI nc) (hpc : pc < 512) (hnc : nc < 256) : MOK b to ([(1, nc + 1, 0)], [j]) pc nc fi fx li op x1 x2 (upd fi (256 * to + nc) (nI (b + j))) (upd fx to (nI (nc + 1))) (upd li to (nI (pc + 1))) (upd op (512 * to + pc) (nI 1)) (upd x1 (512 * to + pc) (nI (nc + 1))) (upd x2 (512 * to + pc) (nI 0)) :=
  ⟨pk_us, pk_us, fun k hk => ⟨pk_un hk, pk_un hk⟩, fun k hk => ⟨pk_un (by omega), pk_un (by omega), pk_un (by omega)⟩, fun k hk => pk_un (by omega), ⟨⟨pk_us, pk_us, pk_us⟩, trivial⟩, ⟨pk_us, trivial⟩⟩
end
theorem chM.drop {b : Nat} {N : Nat → Int32} : ∀ (n : Nat) {l : List Nat} {y : Int32}, chM b N y l → chM b N (hdM b (l.drop n)) (l.drop n)
  | 0, l, y, h => by rw [List.drop_zero, ← h.hd]; exact h
  | _ + 1, [], _, _ => rfl
  | n + 1, _ :: l, _, h => chM.drop n h.2
/-- the frames of the reference: a chain that begins at f -/
def DES (b m : Nat) (K : Nat → Int32) (kids : Nat → List Nat) (nm pd : Nat → Int32) (a : Nat) (l : List Nat) : Prop := (pd a = 0 ∧ ∃ q, q < m ∧ nm a = nI (b + q) ∧ K q = 2 ∧ kids q = l ∧ ∀ j ∈ l, K j = 1) ∨ (pd a = 1 ∧ ∃ q, q < m ∧ nm a = nI (b + q) ∧ K q = 2 ∧ 2 ≤ (kids q).length ∧ (kids q).drop 2 = l ∧ ∀ j ∈ l, bnd K kids j)
def FRM (b m : Nat) (K : Nat → Int32) (kids : Nat → List Nat) (fc : Nat) (ar nm pd : Nat → Int32) : Int32 → List (List Nat) → Prop
  | f, [] => f = -1
  | f, l :: t => ∃ a, f = nI a ∧ a < fc ∧ a < 40 ∧ DES b m K kids nm pd a l ∧ FRM b m K kids fc ar nm pd (ar a) t
theorem FRM.st {b m : Nat} {K : Nat → Int32} {kids : Nat → List Nat} : ∀ {fs : List (List Nat)} {f : Int32}, FST (fun fc ar nm pd => FRM b m K kids fc ar nm pd f fs)
  | [], _ => fun _ _ _ _ _ _ _ _ h _ _ => h
  | l :: t, f => fun fc fc' ar nm pd ar' nm' pd' h hf he => by
    obtain ⟨a, h1, h2, h3, h4, h5⟩ := h
    obtain ⟨e1, e2, e3⟩ := he a h2
    refine ⟨a, h1, by omega, h3, ?_, ?_⟩
    · unfold DES at h4 ⊢
      rw [e2, e3]
      exact h4
    · rw [e1]
      exact FRM.st fc fc' ar nm pd ar' nm' pd' h5 hf he
theorem mem0_nm {b m q : Nat} {K V F S W C N : Nat → Int32} {kids : Nat → List Nat} {w dp : Nat → Nat} (hT : TREE b m q K V F S W C N kids w dp) {j : Nat} (hj : j < m) (h : K j = 1 ∨ bnd K kids j) : mem0 K kids j < m ∧ nameR (V (mem0 K kids j)) (W (b + mem0 K kids j)) := by
  have nm : ∀ x, x < m → K x = 1 → nameR (V x) (W (b + x)) := fun x hx e => by
    rcases (hT.2 x hx).2.2.2 with z | z | z
    · exact absurd (e.symm.trans z.1) (by decide)
    · exact z.2.2.1
    · exact absurd (e.symm.trans z.1) (by decide)
  rcases h with h | h
  · have e : mem0 K kids j = j := by unfold mem0; rw [if_neg (by rw [h]; decide)]
    rw [e]
    exact ⟨hj, nm j hj h⟩
  · have e : mem0 K kids j = (kids j).headD 0 := by unfold mem0; rw [if_pos h.1]
    rw [e]
    have lt : (kids j).headD 0 < m := by
      rcases (hT.2 j hj).2.2.2 with z | z | z
      · exact absurd (h.1.symm.trans z.1) (by decide)
      · exact absurd (h.1.symm.trans z.1) (by decide)
      · have h2 := h.2.1
        have i := z.2.2.2.2.2.1
        cases e2 : kids j with
        | nil => rw [e2] at h2; exact absurd h2 (by decide)
        | cons a t => rw [e2] at i; exact i.2.1
    exact ⟨lt, nm _ lt h.2.2⟩
theorem q_load_L5 {b m q : Nat} {K V F S W C N : Nat → Int32} {kids : Nat → List Nat} {w dp : Nat → Nat} (hT : TREE b m q K V F S W C N kids w dp) (hb : b ≤ 200) {j fc : Nat} (hj : j < m) (hkj : K j = 1) {bank : Int32} {ar nm pd li op x1 x2 : Nat → Int32} {K92 : Int32 → Int32 → (Nat → Int32) → (Nat → Int32) → (Nat → Int32) → (Nat → Int32) → Prop} {post : Int32 → (Nat → Int32) → (Nat → Int32) → (Nat → Int32) → (Nat → Int32) → Prop} : ∀ (fs : List (List Nat)) (f : Int32) (i : Nat), FRM b m K kids fc ar nm pd f fs → (∀ a k, look K V kids (V j) fs i = some (a, k) → K92 (nI a) (nI k) li op x1 x2) → (look K V kids (V j) fs i = none → post 0 li op x1 x2) → wp_Model_load_L5 bank ar C nm N pd W K92 post (fs.length + 1) (W (b + j)) (nI i) f li op x1 x2
  | [], f, i, hF, h1, h0 => ⟨fun _ => h0 rfl, fun z => absurd (by rw [show f = -1 from hF]; decide) z⟩
  | l :: t, f, i, hF, h1, h0 => by
    obtain ⟨a, ef, f2, f3, f4, f5⟩ := hF
    have va : vp_in (nI a) 40 := vp_in_nI f3 (by decide)
    have hm := hT.1
    have unf : look K V kids (V j) (l :: t) i = match plc K V kids (V j) l 0 with
      | some k => some (i, k)
      | none => look K V kids (V j) t (i + 1) := rfl
    have tr : ∀ x, x < m → K x = 2 → chM b N (C (b + x)) (kids x) ∧ inc 0 m (kids x) := fun x hx e => by
      rcases (hT.2 x hx).2.2.2 with z | z | z
      · exact absurd (e.symm.trans z.1) (by decide)
      · exact absurd (e.symm.trans z.1) (by decide)
      · exact ⟨z.2.2.2.2.1, z.2.2.2.2.2.1.weak (by omega)⟩
    have nj := mem0_nm hT hj (Or.inl hkj)
    have ej : mem0 K kids j = j := by unfold mem0; rw [if_neg (by rw [hkj]; decide)]
    rw [ej] at nj
    subst ef
    have go : ∀ y, chM b N y l → inc 0 m l → (∀ x ∈ l, (pd a = 0 ∧ K x = 1) ∨ (¬ pd a = 0 ∧ bnd K kids x)) → wp_Model_load_J47 bank ar C nm N pd W (wp_Model_load_L5 bank ar C nm N pd W K92 post (t.length + 1)) K92 post (W (b + j)) (nI i) (nI a) y li op x1 x2 := fun y hy hi hf => by
      have hlen := hi.len
      have eqv : ∀ x ∈ l, (V (mem0 K kids x) = V j ↔ W (b + mem0 K kids x) = W (b + j)) := fun x hx => nameR_eq (mem0_nm hT (hi.mem hx).2 (by
        rcases hf x hx with z | z
        · exact Or.inl z.2
        · exact Or.inr z.2)).2 nj.2
      refine ⟨_, q_load_L52 hb hm f3 tr l y 0 0 hy hi hf (fun k hk c1 c2 => ?_) (fun c => ?_)⟩
      · rw [plc_hit hk ((eqv _ (getD_mem hk)).mpr c1) (fun i' hi' z => c2 i' hi' ((eqv _ (getD_mem (by omega))).mp z)), Nat.zero_add] at unf
        rw [Nat.zero_add]
        exact h1 i k unf
      · rw [plc_miss (fun x hx z => c x hx ((eqv x hx).mp z))] at unf
        rw [nI_clamp (n := a) (by omega), nI_1]
        exact ⟨va, q_load_L5 hT hb hj hkj t (ar a) (i + 1) f5 (fun a k e => h1 a k (unf.trans e)) (fun e => h0 (unf.trans e))⟩
    refine ⟨fun z => absurd z (nI_pos (by omega)), fun _ => ?_⟩
    rw [nI_clamp (n := a) (by omega)]
    rcases f4 with ⟨p0, x, x1, x2, x3, x4, x5⟩ | ⟨p0, x, x1, x2, x3, x4, x5, x6⟩
    · obtain ⟨c1, c2⟩ := tr x x1 x3
      rw [x2, nI_clamp (n := b + x) (by omega)]
      refine ⟨va, fun _ => ⟨va, vp_in_nI (by omega) (by decide), go _ (by rw [← x4]; exact c1) (by rw [← x4]; exact c2) (fun y hy => Or.inl ⟨p0, x5 y hy⟩)⟩, fun z => absurd p0 z⟩
    · obtain ⟨c1, c2⟩ := tr x x1 x3
      have np : ¬ pd a = 0 := by rw [p0]; decide
      rw [x2]
      refine ⟨va, fun z => absurd z np, fun _ => ⟨va, q_mpart (s := 2) hb hm (by omega) x4 c1 c2 (go _ (by rw [← x5]; exact c1.drop 2) (by rw [← x5]; exact c2.drop 2) (fun y hy => Or.inr ⟨np, x6 y hy⟩))⟩⟩
/-! the reference: arguments, bodies, choices -/
def dnT (b : Nat) (f : Int32) (v : Nat → Nat) (l : List Nat) : Nat → List (Int32 × Int32 × Int32)
  | 0 => []
  | k + 1 => (0, nI (b + v (l.getD k 0)), f) :: (1, 12, 0) :: dnT b f v l k
theorem dnT_len {b : Nat} {f : Int32} {v : Nat → Nat} {l : List Nat} : ∀ k, (dnT b f v l k).length = 2 * k
  | 0 => rfl
  | k + 1 => by show (dnT b f v l k).length + 1 + 1 = _; rw [dnT_len k]; omega
theorem dsum_ge {w : Nat → Nat} {l : List Nat} (h : ∀ j ∈ l, 1 ≤ w j) : ∀ k, k ≤ l.length → k ≤ dsum w l k
  | 0, _ => Nat.le_refl _
  | k + 1, hk => by
    have h1 := dsum_ge h k (by omega)
    have h2 := h _ (getD_mem (l := l) (k := k) (by omega))
    show k + 1 ≤ w (l.getD k 0) + dsum w l k
    omega
theorem drop_hdM {b : Nat} {l : List Nat} {k : Nat} (h : k < l.length) : hdM b (l.drop k) = nI (b + l.getD k 0) := by
  rw [List.drop_eq_getElem_cons h, List.getD_eq_getElem?_getD, List.getElem?_eq_getElem h]
  rfl
theorem drop_getD {l : List Nat} {n k : Nat} : (l.drop n).getD k 0 = l.getD (n + k) 0 := by
  rw [List.getD_eq_getElem?_getD, List.getD_eq_getElem?_getD, List.getElem?_drop]
section
variable {bank : Int32} {b to : Nat} {C fo N S W : Nat → Int32} {KK PP : KT} {P Q : Nat → (Nat → Int32) → (Nat → Int32) → (Nat → Int32) → Prop} {g h : GG} {bl bc bf bs bt bl' bc' bf' bs' bt' : Nat} {l l' : List (Int32 × Int32 × Int32)} {k tc fc pc nc : Nat} {ab ar fi fx li nm op pd wh wi x1 x2 : Nat → Int32}
theorem MR.dn {c : Nat → GG} {f : Int32} {v : Nat → Nat} {t : List Nat} {wt : Nat → Nat} (hbk : (1 : Int32) - bank = nI to) (hto : to < 2) (hP : FST P) (hw : ∀ j ∈ t, 1 ≤ wt j) (hc : ∀ j ∈ t, MR bank b to C fo N S W KK PP P (2 * wt j - 1) (wt j) (wt j / 5) (4 * wt j - 3) (2 * wt j) [(0, nI (b + v j), f)] (c j)) : ∀ k, k ≤ t.length → MR bank b to C fo N S W KK PP P (2 * dsum wt t k) (dsum wt t k) (dsum wt t k / 5) (4 * dsum wt t k) (2 * dsum wt t k + 1) (dnT b f v t k) (gdown c t k)
  | 0, _ => MR.nil.mono (by omega) (by omega) (by omega) (by omega) (by omega)
  | k + 1, hk => by
    have hmem := getD_mem (l := t) (k := k) (by omega)
    have h1 := hw _ hmem
    have h2 := dsum_ge hw k (by omega)
    have h3 := @dnT_len b f v t k
    refine MR.mono (MR.cons hP (hc _ hmem) (MR.cons (x := (1, 12, 0)) hP (MR.put (o := 12) hbk hto) (MR.dn hbk hto hP hw hc k (by omega)))) ?_ ?_ ?_ ?_ ?_
    · show _ ≤ 2 * (wt (t.getD k 0) + dsum wt t k); omega
    · show _ ≤ wt (t.getD k 0) + dsum wt t k; omega
    · show _ ≤ (wt (t.getD k 0) + dsum wt t k) / 5; omega
    · show _ ≤ 4 * (wt (t.getD k 0) + dsum wt t k); omega
    · show Nat.max (((dnT b f v t k).length + 1) + 2 * wt (t.getD k 0)) (Nat.max ((dnT b f v t k).length + 1) (2 * dsum wt t k + 1)) ≤ 2 * (wt (t.getD k 0) + dsum wt t k) + 1
      rw [h3]
      exact Nat.max_le.mpr ⟨by omega, Nat.max_le.mpr ⟨by omega, by omega⟩⟩
theorem MR.args {c : Nat → GG} {f : Int32} {v : Nat → Nat} {t : List Nat} {wt : Nat → Nat} (hbk : (1 : Int32) - bank = nI to) (hto : to < 2) (hP : FST P) (hw : ∀ j ∈ t, 1 ≤ wt j) (hc : ∀ j ∈ t, MR bank b to C fo N S W KK PP P (2 * wt j - 1) (wt j) (wt j / 5) (4 * wt j - 3) (2 * wt j) [(0, nI (b + v j), f)] (c j)) : MR bank b to C fo N S W KK PP P (1 + 2 * wsum wt t) (wsum wt t) (wsum wt t / 5) (1 + 4 * wsum wt t) (2 * wsum wt t + 1) ((1, 1, 0) :: dnT b f v t t.length) (gargs c t) := by
  have h1 := MR.dn hbk hto hP hw hc t.length (Nat.le_refl _)
  have h2 := dsum_ge hw t.length (Nat.le_refl _)
  rw [dsum_all] at h1 h2
  refine MR.mono (MR.cons hP (MR.put (o := 1) hbk hto) h1) (by omega) (by omega) (by omega) (by omega) ?_
  rw [dnT_len]
  exact Nat.max_le.mpr ⟨by omega, by omega⟩
theorem q_margs {m q n0 n : Nat} {K : Nat → Int32} {kids : Nat → List Nat} {ab0 wh0 wi0 : Nat → Int32} {f v3 : Int32} {v : Nat → Nat} {t : List Nat} {post : Int32 → (Nat → Int32) → (Nat → Int32) → (Nat → Int32) → Prop} (hb : b ≤ 200) (hm : m ≤ 200) (hq : q < m) (hn0 : n0 ≤ (kids q).length) (hT : ∀ x, x < m → K x = 2 → chM b N (C (b + x)) (kids x) ∧ inc 0 m (kids x)) (hk : K q = 2) (ht : (kids q).drop n0 = t)
    (hv : (v3 = 0 ∧ ∀ x, v x = x) ∨ (¬ v3 = 0 ∧ ∀ x ∈ t, bnd K kids x ∧ v x = (kids x).getD 1 0)) (hs : SS ab0 wh0 wi0 tc l ab wh wi) (hn : n = tc + l.length) (hc : n + 2 * t.length + 1 ≤ 600)
    (hp : ∀ ab' wh' wi', SS ab0 wh0 wi0 tc (((1, 1, 0) :: dnT b f v t t.length) ++ l) ab' wh' wi' → post (nI (n + 2 * t.length + 1)) ab' wh' wi') :
    wp_Model_arguments (nI n) ab C N wh wi (nI (b + q)) (nI n0) v3 f post := by
  obtain ⟨c1, c2⟩ := hT q hq hk
  have hlen := c2.len
  have ld : t.length = (kids q).length - n0 := by rw [← ht]; exact List.length_drop
  have hit : inc 0 m t := by rw [← ht]; exact c2.drop n0
  have key : ∀ r i, i + r = t.length → ∀ ab wh wi, SS ab0 wh0 wi0 tc (dnT b f v t i ++ l) ab wh wi → wp_Model_arguments_L10 C N post (r + 1) (nI (b + q)) v3 f (nI (kids q).length) (nI (n0 + i)) (nI (n + 2 * i)) ab wh wi := by
    intro r
    induction r with
    | zero =>
      intro i hi ab wh wi hs
      have e : i = t.length := hi
      subst e
      have l2 : (dnT b f v t t.length ++ l).length = 2 * t.length + l.length := by rw [List.length_append, dnT_len]
      exact ⟨fun _ => q_later hs (by omega) (by omega) (fun ab' wh' wi' z => hp ab' wh' wi' z), fun z => absurd (nI_le (by omega) (by omega)) z⟩
    | succ r ih =>
      intro i hi ab wh wi hs
      have l2 : (dnT b f v t i ++ l).length = 2 * i + l.length := by rw [List.length_append, dnT_len]
      have hmem := getD_mem (l := t) (k := i) (by omega)
      have ed : (kids q).getD (n0 + i) 0 = t.getD i 0 := by rw [← ht]; exact drop_getD.symm
      refine ⟨fun z => absurd z (nI_ge (by omega) (by omega)), fun _ => ?_⟩
      refine q_mpart hb hm (by omega) (by omega) c1 c2 ?_
      rw [drop_hdM (by omega), ed]
      refine q_later hs (by omega) (by omega) (fun ab1 wh1 wi1 z1 => ?_)
      have fin : wp_Model_arguments_J52 C N (wp_Model_arguments_L10 C N post (r + 1)) post (nI (b + q)) v3 f (nI (kids q).length) (nI (n0 + i)) (nI (b + v (t.getD i 0))) (0 : Int32) (nI (n + 2 * i + 1)) ab1 wh1 wi1 := by
        unfold wp_Model_arguments_J52
        refine q_later z1 (by rw [List.length_cons]; omega) (by omega) (fun ab2 wh2 wi2 z2 => ?_)
        rw [nI_1, Nat.add_assoc n0]
        exact ih (i + 1) (by omega) ab2 wh2 wi2 z2
      rcases hv with ⟨z, hv⟩ | ⟨z, hv⟩
      · refine ⟨fun _ => ?_, fun z2 => absurd z z2⟩
        rw [hv] at fin
        exact fin
      · obtain ⟨hbn, hv1⟩ := hv _ hmem
        refine ⟨fun z2 => absurd z2 z, fun _ => ?_⟩
        have hxm := (hit.mem hmem).2
        obtain ⟨d1, d2⟩ := hT _ hxm hbn.1
        have hl2 := hbn.2.1
        refine q_mpart (s := 1) hb hm (by omega) (by omega) d1 d2 ?_
        rw [drop_hdM (by omega), ← hv1]
        exact fin
  refine q_mparts hb hm (by omega) c1 c2 ⟨t.length + 1, ?_⟩
  exact key t.length 0 (by omega) ab wh wi hs
theorem MR.bodyrun {a f : Int32} (hbk : (1 : Int32) - bank = nI to) (hto : to < 2) (hg : MR bank b to C fo N S W KK PP P bl bc bf bs bt [(0, a, f)] g) (hbt : 1 ≤ bt) (a1 : P fc ar nm pd) (a3 : li to = nI pc) (a4 : fx to = nI nc) (a5 : pc + (bl + 2) ≤ 510) (a6 : nc + bc ≤ 200) (a7 : fc + bf ≤ 40) (a8 : k + (bs + 2) ≤ 2000) (a9 : tc + (2 + bt) ≤ 600)
    (a10 : ∀ (k' fc' : Nat) (r : List (Nat × Nat × Nat) × List Nat) (ab' ar' fi' fx' li' nm' op' pd' wh' wi' x1' x2' : Nat → Int32), k ≤ k' → k' ≤ k + (bs + 2) → fc ≤ fc' → fc' ≤ fc + bf → (∀ i, i < tc → ab' i = ab i ∧ wh' i = wh i ∧ wi' i = wi i) → (∀ i, i < fc → ar' i = ar i ∧ nm' i = nm i ∧ pd' i = pd i) → gfn g pc nc = .ok r → MOK b to r pc nc fi fx li op x1 x2 fi' fx' li' op' x1' x2' → LPm bank C fo N S W KK PP k' tc fc' ab' ar' fi' fx' li' nm' op' pd' wh' wi' x1' x2')
    (a11 : ∀ (e ts fr : Int32) (ab' ar' fi' fx' li' nm' op' pd' wh' wi' x1' x2' : Nat → Int32), gfn g pc nc = .error e → KEPT to fi fx li op x1 x2 fi' fx' li' op' x1' x2' → (∃ pc', pc' ≤ 510 ∧ li' to = nI pc') → KK e ts fr ab' ar' fi' fx' li' nm' op' pd' wh' wi' x1' x2') :
    wp_Model_body bank (nI tc) ab li op wh wi x1 x2 a f (fun ts ab li op wh wi x1 x2 => wp_Model_translate_L46 bank C fo N S W KK PP (2001 - k) ((1 : Int32) - bank) 0 (nI k) ts (nI fc) ab ar fi fx li nm op pd wh wi x1 x2) := by
  unfold wp_Model_body
  refine q_memit hbk hto a3 (by omega) ?_
  refine q_later (l := []) SS.nil rfl (by omega) (fun ab1 wh1 wi1 s1 => q_later s1 rfl (by omega) (fun ab2 wh2 wi2 s2 => q_later s2 rfl (by omega) (fun ab3 wh3 wi3 s3 => ?_)))
  obtain ⟨⟨⟨p1, p2, p3⟩, ⟨q1, q2, q3⟩, ⟨r1, r2, r3⟩, -⟩, s4⟩ := s3
  refine hg.2 k (tc + 2) fc (pc + 1) nc ab3 ar fi fx _ nm _ pd wh3 wi3 _ _ a1 ⟨⟨p1, p2, p3⟩, trivial⟩ pk_us a4 (by omega) a6 a7 (by omega) (by omega) (fun k1 fc1 r ab4 ar4 fi4 fx4 li4 nm4 op4 pd4 wh4 wi4 x14 x24 b0 b1 b2 b3 b4 b5 b6 b7 => ?_) (fun e ts fr ab4 ar4 fi4 fx4 li4 nm4 op4 pd4 wh4 wi4 x14 x24 b1 b2 b3 => a11 e ts fr ab4 ar4 fi4 fx4 li4 nm4 op4 pd4 wh4 wi4 x14 x24 (by unfold gfn; rw [b1]) ((MOK.one (b := b) (o := 2) (a := 0) (c := 0) a3 a4 (by omega)).kept.trans b2) b3)
  have gb := hg.1 (pc + 1) nc
  rw [b6] at gb
  simp only at gb
  obtain ⟨t1, t2, t3⟩ := b4 (tc + 1) (by omega)
  obtain ⟨u1, u2, u3⟩ := b4 tc (by omega)
  refine LPm.s1 (by omega) (by omega) (t2.trans q1) ?_
  refine q_memit hbk hto b7.1 (by omega) ?_
  refine LPm.s4 hbk hto (by omega) (by omega) (u2.trans r1) (u1.trans r2) (by omega) ?_
  rw [pk_us]
  obtain ⟨m1, m2, m3, m4, m5, m6, m7⟩ := b7
  obtain ⟨n1, n2, n3⟩ := m4 (512 * to + pc) (by omega)
  refine a10 (k1 + 1 + 1) fc1 ((2, pc + r.1.length + 2, 0) :: (r.1 ++ [(4, 0, 0)]), r.2) _ _ _ _ _ _ _ _ _ _ _ _ (by omega) (by omega) b2 b3 (fun i hi => ?_) b5 (by unfold gfn; rw [b6]) ⟨?_, m2, fun x hx => ⟨(pk_un hx).trans ((m3 x hx).1.trans (pk_un hx)), (m3 x hx).2⟩, fun x hx => ?_, m5, ⟨⟨?_, ?_, ?_⟩, ML.app ?_ ⟨⟨?_, ?_, ?_⟩, trivial⟩⟩, m7⟩
  · obtain ⟨d1, d2, d3⟩ := b4 i (by omega)
    obtain ⟨e1, e2, e3⟩ := s4 i hi
    exact ⟨d1.trans e1, d2.trans e2, d3.trans e3⟩
  · rw [pk_us]
    simp only [List.length_cons, List.length_append, List.length_nil]
    exact congrArg nI (by omega)
  · obtain ⟨d1, d2, d3⟩ := m4 x (by omega)
    exact ⟨(pk_un (by omega)).trans (d1.trans (pk_un (by omega))), (pk_un (by omega)).trans ((pk_un (by omega)).trans (d2.trans (pk_un (by omega)))), (pk_un (by omega)).trans (d3.trans (pk_un (by omega)))⟩
  · exact (pk_un (by omega)).trans (n1.trans pk_us)
  · rw [pk_us]
    exact congrArg nI (by show pc + 1 + r.1.length + 1 = pc + r.1.length + 2; omega)
  · exact (pk_un (by omega)).trans (n3.trans pk_us)
  · rw [Nat.add_assoc]
    exact m6.to (fun x hx hx2 => ⟨pk_un (by omega), (pk_un (by omega)).trans (pk_un (by omega)), pk_un (by omega)⟩)
  · rw [show 512 * to + pc + 1 + r.1.length = 512 * to + (pc + 1 + r.1.length) by omega, pk_us]
    exact t1.trans q2
  · rw [show 512 * to + pc + 1 + r.1.length = 512 * to + (pc + 1 + r.1.length) by omega, pk_un (by omega), pk_us]
    rfl
  · rw [show 512 * to + pc + 1 + r.1.length = 512 * to + (pc + 1 + r.1.length) by omega, pk_us]
    rfl
end
/-! the reference: the tasks BODY and CHOICE -/
section
variable {bank : Int32} {b to : Nat} {C fo N S W : Nat → Int32} {KK PP : KT} {P Q : Nat → (Nat → Int32) → (Nat → Int32) → (Nat → Int32) → Prop} {g h : GG} {bl bc bf bs bt bl' bc' bf' bs' bt' : Nat} {l l' : List (Int32 × Int32 × Int32)} {k tc fc pc nc : Nat} {ab ar fi fx li nm op pd wh wi x1 x2 : Nat → Int32}
theorem MR.body {a f : Int32} (hbk : (1 : Int32) - bank = nI to) (hto : to < 2) (hg : MR bank b to C fo N S W KK PP P bl bc bf bs bt [(0, a, f)] g) (hbt : 1 ≤ bt) : MR bank b to C fo N S W KK PP P (bl + 2) bc bf (bs + 3) (2 + bt) [(2, a, f)] (gfn g) := by
  refine ⟨hg.1.fn, fun k tc fc pc nc ab ar fi fx li nm op pd wh wi x1 x2 a1 a2 a3 a4 a5 a6 a7 a8 a9 a10 a11 => ?_⟩
  obtain ⟨⟨w1, w2, w3⟩, -⟩ := a2
  refine LPm.s2 (by omega) (by omega) w1 ?_
  rw [show ab tc = a from w2, show wi tc = f from w3, show 2000 - k = 2001 - (k + 1) by omega]
  exact MR.bodyrun hbk hto hg hbt a1 a3 a4 a5 a6 a7 (by omega) a9 (fun k' fc' r ab' ar' fi' fx' li' nm' op' pd' wh' wi' x1' x2' b0 b1 => a10 k' fc' r ab' ar' fi' fx' li' nm' op' pd' wh' wi' x1' x2' (by omega) (by omega)) a11
theorem MR.choice {m q c0 c1 c2 c3 : Nat} {f : Int32} (hb : b ≤ 200) (hm : m ≤ 200) (hq : q < m) (hch : chM b N (C (b + q)) [c0, c1, c2, c3]) (hinc : inc 0 m [c0, c1, c2, c3]) (hbk : (1 : Int32) - bank = nI to) (hto : to < 2) (hP : FST P) (hg : MR bank b to C fo N S W KK PP P bl bc bf bs bt [(0, nI (b + c2), f)] g) (hh : MR bank b to C fo N S W KK PP P bl' bc' bf' bs' bt' [(0, nI (b + c3), f)] h) (hbt : 1 ≤ bt) (hbt' : 1 ≤ bt') : MR bank b to C fo N S W KK PP P (bl + bl' + 3) (bc + bc') (bf + bf') (bs + bs' + 5) (5 + bt + bt') [(3, nI (b + q), f)] (gsel g h) := by
  refine ⟨hg.1.sel hh.1, fun k tc fc pc nc ab ar fi fx li nm op pd wh wi x1 x2 a1 a2 a3 a4 a5 a6 a7 a8 a9 a10 a11 => ?_⟩
  obtain ⟨⟨w1, w2, w3⟩, -⟩ := a2
  refine LPm.s3 (by omega) (by omega) w1 ?_
  rw [show ab tc = nI (b + q) from w2, show wi tc = f from w3, show 2000 - k = 2001 - (k + 1) by omega]
  unfold wp_Model_choice
  refine q_memit hbk hto a3 (by omega) ?_
  refine q_later (l := []) SS.nil rfl (by omega) (fun ab1 wh1 wi1 s1 => q_later s1 rfl (by omega) (fun ab2 wh2 wi2 s2 => q_mpart (s := 3) (l := [c0, c1, c2, c3]) hb hm (by omega) (show 3 ≤ 4 by decide) hch hinc (q_later s2 rfl (by omega) (fun ab3 wh3 wi3 s3 => q_later s3 rfl (by omega) (fun ab4 wh4 wi4 s4 => q_later s4 rfl (by omega) (fun ab5 wh5 wi5 s5 => q_mpart (s := 2) (l := [c0, c1, c2, c3]) hb hm (by omega) (show 2 ≤ 4 by decide) hch hinc (q_later s5 rfl (by omega) (fun ab6 wh6 wi6 s6 => ?_))))))))
  obtain ⟨⟨⟨p1, p2, p3⟩, ⟨q1, q2, q3⟩, ⟨r1, r2, r3⟩, ⟨u1, u2, u3⟩, ⟨v1, v2, v3⟩, ⟨y1, y2, y3⟩, -⟩, s7⟩ := s6
  refine hg.2 (k + 1) (tc + 5) fc (pc + 1) nc ab6 ar fi fx _ nm _ pd wh6 wi6 _ _ a1 ⟨⟨p1, p2, p3⟩, trivial⟩ pk_us a4 (by omega) (by omega) (by omega) (by omega) (by omega) (fun k1 fc1 r ab7 ar7 fi7 fx7 li7 nm7 op7 pd7 wh7 wi7 x17 x27 b0 b1 b2 b3 b4 b5 b6 b7 => ?_) (fun e ts fr ab7 ar7 fi7 fx7 li7 nm7 op7 pd7 wh7 wi7 x17 x27 b1 b2 b3 => a11 e ts fr ab7 ar7 fi7 fx7 li7 nm7 op7 pd7 wh7 wi7 x17 x27 (by unfold gsel; rw [b1]) ((MOK.one (b := b) (o := 7) (a := 0) (c := 0) a3 a4 (by omega)).kept.trans b2) b3)
  have gb := hg.1 (pc + 1) nc
  rw [b6] at gb
  simp only at gb
  obtain ⟨t1, t2, t3⟩ := b4 (tc + 4) (by omega)
  refine LPm.s1 (by omega) (by omega) (t2.trans q1) ?_
  refine q_memit hbk hto b7.1 (by omega) ?_
  obtain ⟨t4, t5, t6⟩ := b4 (tc + 3) (by omega)
  refine LPm.s4 hbk hto (by omega) (by omega) (t5.trans r1) (t4.trans r2) (by omega) ?_
  rw [pk_us]
  obtain ⟨m1, m2, m3, m4, m5, m6, m7⟩ := b7
  obtain ⟨n1, n2, n3⟩ := m4 (512 * to + pc) (by omega)
  obtain ⟨t7, t8, t9⟩ := b4 (tc + 2) (by omega)
  have e1 : pc + 1 + r.1.length + 1 = pc + r.1.length + 2 := by omega
  refine hh.2 (k1 + 1 + 1) (tc + 2) fc1 (pc + r.1.length + 2) (nc + r.2.length) ab7 ar7 fi7 fx7 _ nm7 _ pd7 wh7 wi7 _ _ (hP _ _ _ _ _ _ _ _ a1 b2 b5) ⟨⟨t8.trans u1, t7.trans u2, t9.trans u3⟩, trivial⟩ (by rw [pk_us, e1]) m2 (by omega) (by omega) (by omega) (by omega) (by omega) (fun k2 fc2 s ab8 ar8 fi8 fx8 li8 nm8 op8 pd8 wh8 wi8 x18 x28 d0 d1 d2 d3 d4 d5 d6 d7 => ?_) (fun e ts fr ab8 ar8 fi8 fx8 li8 nm8 op8 pd8 wh8 wi8 x18 x28 d1 d2 d3 => a11 e ts fr ab8 ar8 fi8 fx8 li8 nm8 op8 pd8 wh8 wi8 x18 x28 (by unfold gsel; rw [b6]; simp only; rw [d1]) ?_ d3)
  · have gb2 := hh.1 (pc + r.1.length + 2) (nc + r.2.length)
    rw [d6] at gb2
    simp only at gb2
    obtain ⟨f1, f2, f3⟩ := d4 (tc + 1) (by omega)
    obtain ⟨g1, g2, g3⟩ := b4 (tc + 1) (by omega)
    refine LPm.s1 (by omega) (by omega) (f2.trans (g2.trans v1)) ?_
    refine q_memit hbk hto d7.1 (by omega) ?_
    obtain ⟨f4, f5, f6⟩ := d4 tc (by omega)
    obtain ⟨g4, g5, g6⟩ := b4 tc (by omega)
    refine LPm.s5 hbk hto (by omega) (by omega) (f5.trans (g5.trans y1)) (f4.trans (g4.trans y2)) (by omega) ?_
    rw [pk_us]
    obtain ⟨h1, h2, h3, h4, h5, h6, h7⟩ := d7
    obtain ⟨i1, i2, i3⟩ := h4 (512 * to + pc) (by omega)
    refine a10 (k2 + 1 + 1) fc2 ((7, pc + r.1.length + 2, pc + r.1.length + s.1.length + 3) :: (r.1 ++ (8, 0, 0) :: (s.1 ++ [(8, 0, 0)])), r.2 ++ s.2) _ _ _ _ _ _ _ _ _ _ _ _ (by omega) (by omega) (by omega) (by omega) (fun i hi => ?_) (fun i hi => ?_) (by unfold gsel; rw [b6]; simp only; rw [d6]) ⟨?_, by rw [h2, List.length_append, Nat.add_assoc], fun x hx => ?_, fun x hx => ?_, fun x hx => (h5 x (by omega)).trans (m5 x hx), ⟨⟨?_, ?_, ?_⟩, ML.app ?_ ⟨⟨?_, ?_, ?_⟩, ML.app ?_ ⟨⟨?_, ?_, ?_⟩, trivial⟩⟩⟩, MC.app (m7.to (fun x hx hx2 => h5 x (by omega))) (by rw [Nat.add_assoc]; exact h7)⟩
    · obtain ⟨z1, z2, z3⟩ := d4 i (by omega)
      obtain ⟨z4, z5, z6⟩ := b4 i (by omega)
      obtain ⟨z7, z8, z9⟩ := s7 i hi
      exact ⟨z1.trans (z4.trans z7), z2.trans (z5.trans z8), z3.trans (z6.trans z9)⟩
    · obtain ⟨z1, z2, z3⟩ := d5 i (by omega)
      obtain ⟨z4, z5, z6⟩ := b5 i hi
      exact ⟨z1.trans z4, z2.trans z5, z3.trans z6⟩
    · rw [pk_us]
      simp only [List.length_cons, List.length_append, List.length_nil]
      exact congrArg nI (by omega)
    · exact ⟨(pk_un hx).trans ((h3 x hx).1.trans ((pk_un hx).trans ((m3 x hx).1.trans (pk_un hx)))), (h3 x hx).2.trans (m3 x hx).2⟩
    · obtain ⟨z1, z2, z3⟩ := h4 x (by omega)
      obtain ⟨z4, z5, z6⟩ := m4 x (by omega)
      exact ⟨(pk_un (by omega)).trans (z1.trans ((pk_un (by omega)).trans (z4.trans (pk_un (by omega))))), (pk_un (by omega)).trans (z2.trans ((pk_un (by omega)).trans ((pk_un (by omega)).trans (z5.trans (pk_un (by omega)))))), (pk_un (by omega)).trans ((pk_un (by omega)).trans (z3.trans ((pk_un (by omega)).trans (z6.trans (pk_un (by omega))))))⟩
    · exact (pk_un (by omega)).trans (i1.trans ((pk_un (by omega)).trans (n1.trans pk_us)))
    · refine (pk_un (by omega)).trans (i2.trans ?_)
      rw [pk_us]
      exact congrArg nI e1
    · rw [pk_us]
      exact congrArg nI (by show pc + r.1.length + 2 + s.1.length + 1 = pc + r.1.length + s.1.length + 3; omega)
    · rw [Nat.add_assoc]
      refine m6.to (fun x hx hx2 => ?_)
      obtain ⟨z1, z2, z3⟩ := h4 x (by omega)
      exact ⟨(pk_un (by omega)).trans (z1.trans (pk_un (by omega))), (pk_un (by omega)).trans (z2.trans ((pk_un (by omega)).trans (pk_un (by omega)))), (pk_un (by omega)).trans ((pk_un (by omega)).trans (z3.trans (pk_un (by omega))))⟩
    · obtain ⟨z1, z2, z3⟩ := h4 (512 * to + (pc + 1 + r.1.length)) (by omega)
      rw [show 512 * to + pc + 1 + r.1.length = 512 * to + (pc + 1 + r.1.length) by omega]
      exact (pk_un (by omega)).trans (z1.trans (pk_us.trans (t1.trans q2)))
    · obtain ⟨z1, z2, z3⟩ := h4 (512 * to + (pc + 1 + r.1.length)) (by omega)
      rw [show 512 * to + pc + 1 + r.1.length = 512 * to + (pc + 1 + r.1.length) by omega]
      exact (pk_un (by omega)).trans (z2.trans ((pk_un (by omega)).trans pk_us))
    · obtain ⟨z1, z2, z3⟩ := h4 (512 * to + (pc + 1 + r.1.length)) (by omega)
      rw [show 512 * to + pc + 1 + r.1.length = 512 * to + (pc + 1 + r.1.length) by omega]
      exact (pk_un (by omega)).trans ((pk_un (by omega)).trans (z3.trans pk_us))
    · rw [show 512 * to + pc + 1 + r.1.length + 1 = 512 * to + (pc + r.1.length + 2) by omega]
      exact h6.to (fun x hx hx2 => ⟨pk_un (by omega), pk_un (by omega), (pk_un (by omega)).trans (pk_un (by omega))⟩)
    · rw [show 512 * to + pc + 1 + r.1.length + 1 + s.1.length = 512 * to + (pc + r.1.length + 2 + s.1.length) by omega, pk_us]
      exact f1.trans (g1.trans v2)
    · rw [show 512 * to + pc + 1 + r.1.length + 1 + s.1.length = 512 * to + (pc + r.1.length + 2 + s.1.length) by omega, pk_us]
      rfl
    · rw [show 512 * to + pc + 1 + r.1.length + 1 + s.1.length = 512 * to + (pc + r.1.length + 2 + s.1.length) by omega, pk_un (by omega), pk_us]
      rfl
  · refine KEPT.trans ⟨fun x hx => ⟨(pk_un hx).trans ((m3 x hx).1.trans (pk_un hx)), (m3 x hx).2⟩, fun x hx => ?_, fun x hx => m5 x (by omega)⟩ d2
    obtain ⟨z4, z5, z6⟩ := m4 x (by omega)
    exact ⟨(pk_un (by omega)).trans (z4.trans (pk_un (by omega))), (pk_un (by omega)).trans ((pk_un (by omega)).trans (z5.trans (pk_un (by omega)))), (pk_un (by omega)).trans (z6.trans (pk_un (by omega)))⟩
end
