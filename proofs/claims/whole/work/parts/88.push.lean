/-! the reference: arguments, bodies, choices -/
def dnT (b : Nat) (f : Int32) (v : Nat → Nat) (l : List Nat) : Nat → List (Int32 × Int32 × Int32)
  | 0 => []
  | k + 1 => (0, nI (b + v (l.getD k 0)), f) :: (1, 12, 0) :: dnT b f v l k
theorem dnT_len {b : Nat} {f : Int32} {v : Nat → Nat} {l : List Nat} : ∀ k, (dnT b f v l k).length = 2 * k
  | 0 => rfl
  | k + 1 => by show (dnT b f v l k).length + 1 + 1 = _; rw [dnT_len k]; omega
theorem dsum_ge {w : Nat → Nat} {l : List Nat} (h : ∀ j ∈ l, 1 ≤ w j) : ∀ k, k ≤ l.length → k ≤ dsum w l k
  | 0, _ => Nat.le_refl _
  | k + 1, hk => by
    have h1 := dsum_ge h k (by omega)
    have h2 := h _ (getD_mem (l := l) (k := k) (by omega))
    show k + 1 ≤ w (l.getD k 0) + dsum w l k
    omega
theorem drop_hdM {b : Nat} {l : List Nat} {k : Nat} (h : k < l.length) : hdM b (l.drop k) = nI (b + l.getD k 0) := by
  rw [List.drop_eq_getElem_cons h, List.getD_eq_getElem?_getD, List.getElem?_eq_getElem h]
  rfl
theorem drop_getD {l : List Nat} {n k : Nat} : (l.drop n).getD k 0 = l.getD (n + k) 0 := by
  rw [List.getD_eq_getElem?_getD, List.getD_eq_getElem?_getD, List.getElem?_drop]
section
variable {bank : Int32} {b to : Nat} {C fo N S W : Nat → Int32} {KK PP : KT} {P Q : Nat → (Nat → Int32) → (Nat → Int32) → (Nat → Int32) → Prop} {g h : GG} {bl bc bf bs bt bl' bc' bf' bs' bt' : Nat} {l l' : List (Int32 × Int32 × Int32)} {k tc fc pc nc : Nat} {ab ar fi fx li nm op pd wh wi x1 x2 : Nat → Int32}
theorem MR.dn {c : Nat → GG} {f : Int32} {v : Nat → Nat} {t : List Nat} {wt : Nat → Nat} (hbk : (1 : Int32) - bank = nI to) (hto : to < 2) (hP : FST P) (hw : ∀ j ∈ t, 1 ≤ wt j) (hc : ∀ j ∈ t, MR bank b to C fo N S W KK PP P (2 * wt j - 1) (wt j) (wt j / 5) (4 * wt j - 3) (2 * wt j) [(0, nI (b + v j), f)] (c j)) : ∀ k, k ≤ t.length → MR bank b to C fo N S W KK PP P (2 * dsum wt t k) (dsum wt t k) (dsum wt t k / 5) (4 * dsum wt t k) (2 * dsum wt t k + 1) (dnT b f v t k) (gdown c t k)
  | 0, _ => MR.nil.mono (by omega) (by omega) (by omega) (by omega) (by omega)
  | k + 1, hk => by
    have hmem := getD_mem (l := t) (k := k) (by omega)
    have h1 := hw _ hmem
    have h2 := dsum_ge hw k (by omega)
    have h3 := @dnT_len b f v t k
    refine MR.mono (MR.cons hP (hc _ hmem) (MR.cons (x := (1, 12, 0)) hP (MR.put (o := 12) hbk hto) (MR.dn hbk hto hP hw hc k (by omega)))) ?_ ?_ ?_ ?_ ?_
    · show _ ≤ 2 * (wt (t.getD k 0) + dsum wt t k); omega
    · show _ ≤ wt (t.getD k 0) + dsum wt t k; omega
    · show _ ≤ (wt (t.getD k 0) + dsum wt t k) / 5; omega
    · show _ ≤ 4 * (wt (t.getD k 0) + dsum wt t k); omega
    · show Nat.max (((dnT b f v t k).length + 1) + 2 * wt (t.getD k 0)) (Nat.max ((dnT b f v t k).length + 1) (2 * dsum wt t k + 1)) ≤ 2 * (wt (t.getD k 0) + dsum wt t k) + 1
      rw [h3]
      exact Nat.max_le.mpr ⟨by omega, Nat.max_le.mpr ⟨by omega, by omega⟩⟩
theorem MR.args {c : Nat → GG} {f : Int32} {v : Nat → Nat} {t : List Nat} {wt : Nat → Nat} (hbk : (1 : Int32) - bank = nI to) (hto : to < 2) (hP : FST P) (hw : ∀ j ∈ t, 1 ≤ wt j) (hc : ∀ j ∈ t, MR bank b to C fo N S W KK PP P (2 * wt j - 1) (wt j) (wt j / 5) (4 * wt j - 3) (2 * wt j) [(0, nI (b + v j), f)] (c j)) : MR bank b to C fo N S W KK PP P (1 + 2 * wsum wt t) (wsum wt t) (wsum wt t / 5) (1 + 4 * wsum wt t) (2 * wsum wt t + 1) ((1, 1, 0) :: dnT b f v t t.length) (gargs c t) := by
  have h1 := MR.dn hbk hto hP hw hc t.length (Nat.le_refl _)
  have h2 := dsum_ge hw t.length (Nat.le_refl _)
  rw [dsum_all] at h1 h2
  refine MR.mono (MR.cons hP (MR.put (o := 1) hbk hto) h1) (by omega) (by omega) (by omega) (by omega) ?_
  rw [dnT_len]
  exact Nat.max_le.mpr ⟨by omega, by omega⟩
theorem q_margs {m q n0 n : Nat} {K : Nat → Int32} {kids : Nat → List Nat} {ab0 wh0 wi0 : Nat → Int32} {f v3 : Int32} {v : Nat → Nat} {t : List Nat} {post : Int32 → (Nat → Int32) → (Nat → Int32) → (Nat → Int32) → Prop} (hb : b ≤ 200) (hm : m ≤ 200) (hq : q < m) (hn0 : n0 ≤ (kids q).length) (hT : ∀ x, x < m → K x = 2 → chM b N (C (b + x)) (kids x) ∧ inc 0 m (kids x)) (hk : K q = 2) (ht : (kids q).drop n0 = t)
    (hv : (v3 = 0 ∧ ∀ x, v x = x) ∨ (¬ v3 = 0 ∧ ∀ x ∈ t, bnd K kids x ∧ v x = (kids x).getD 1 0)) (hs : SS ab0 wh0 wi0 tc l ab wh wi) (hn : n = tc + l.length) (hc : n + 2 * t.length + 1 ≤ 600)
    (hp : ∀ ab' wh' wi', SS ab0 wh0 wi0 tc (((1, 1, 0) :: dnT b f v t t.length) ++ l) ab' wh' wi' → post (nI (n + 2 * t.length + 1)) ab' wh' wi') :
    wp_Model_arguments (nI n) ab C N wh wi (nI (b + q)) (nI n0) v3 f post := by
  obtain ⟨c1, c2⟩ := hT q hq hk
  have hlen := c2.len
  have ld : t.length = (kids q).length - n0 := by rw [← ht]; exact List.length_drop
  have hit : inc 0 m t := by rw [← ht]; exact c2.drop n0
  have key : ∀ r i, i + r = t.length → ∀ ab wh wi, SS ab0 wh0 wi0 tc (dnT b f v t i ++ l) ab wh wi → wp_Model_arguments_L10 C N post (r + 1) (nI (b + q)) v3 f (nI (kids q).length) (nI (n0 + i)) (nI (n + 2 * i)) ab wh wi := by
    intro r
    induction r with
    | zero =>
      intro i hi ab wh wi hs
      have e : i = t.length := hi
      subst e
      have l2 : (dnT b f v t t.length ++ l).length = 2 * t.length + l.length := by rw [List.length_append, dnT_len]
      exact ⟨fun _ => q_later hs (by omega) (by omega) (fun ab' wh' wi' z => hp ab' wh' wi' z), fun z => absurd (nI_le (by omega) (by omega)) z⟩
    | succ r ih =>
      intro i hi ab wh wi hs
      have l2 : (dnT b f v t i ++ l).length = 2 * i + l.length := by rw [List.length_append, dnT_len]
      have hmem := getD_mem (l := t) (k := i) (by omega)
      have ed : (kids q).getD (n0 + i) 0 = t.getD i 0 := by rw [← ht]; exact drop_getD.symm
      refine ⟨fun z => absurd z (nI_ge (by omega) (by omega)), fun _ => ?_⟩
      refine q_mpart hb hm (by omega) (by omega) c1 c2 ?_
      rw [drop_hdM (by omega), ed]
      refine q_later hs (by omega) (by omega) (fun ab1 wh1 wi1 z1 => ?_)
      have fin : wp_Model_arguments_J52 C N (wp_Model_arguments_L10 C N post (r + 1)) post (nI (b + q)) v3 f (nI (kids q).length) (nI (n0 + i)) (nI (b + v (t.getD i 0))) (0 : Int32) (nI (n + 2 * i + 1)) ab1 wh1 wi1 := by
        unfold wp_Model_arguments_J52
        refine q_later z1 (by rw [List.length_cons]; omega) (by omega) (fun ab2 wh2 wi2 z2 => ?_)
        rw [nI_1, Nat.add_assoc n0]
        exact ih (i + 1) (by omega) ab2 wh2 wi2 z2
      rcases hv with ⟨z, hv⟩ | ⟨z, hv⟩
      · refine ⟨fun _ => ?_, fun z2 => absurd z z2⟩
        rw [hv] at fin
        exact fin
      · obtain ⟨hbn, hv1⟩ := hv _ hmem
        refine ⟨fun z2 => absurd z2 z, fun _ => ?_⟩
        have hxm := (hit.mem hmem).2
        obtain ⟨d1, d2⟩ := hT _ hxm hbn.1
        have hl2 := hbn.2.1
        refine q_mpart (s := 1) hb hm (by omega) (by omega) d1 d2 ?_
        rw [drop_hdM (by omega), ← hv1]
        exact fin
  refine q_mparts hb hm (by omega) c1 c2 ⟨t.length + 1, ?_⟩
  exact key t.length 0 (by omega) ab wh wi hs
theorem MR.bodyrun {a f : Int32} (hbk : (1 : Int32) - bank = nI to) (hto : to < 2) (hg : MR bank b to C fo N S W KK PP P bl bc bf bs bt [(0, a, f)] g) (hbt : 1 ≤ bt) (a1 : P fc ar nm pd) (a3 : li to = nI pc) (a4 : fx to = nI nc) (a5 : pc + (bl + 2) ≤ 510) (a6 : nc + bc ≤ 200) (a7 : fc + bf ≤ 40) (a8 : k + (bs + 2) ≤ 2000) (a9 : tc + (2 + bt) ≤ 600)
    (a10 : ∀ (k' fc' : Nat) (r : List (Nat × Nat × Nat) × List Nat) (ab' ar' fi' fx' li' nm' op' pd' wh' wi' x1' x2' : Nat → Int32), k ≤ k' → k' ≤ k + (bs + 2) → fc ≤ fc' → fc' ≤ fc + bf → (∀ i, i < tc → ab' i = ab i ∧ wh' i = wh i ∧ wi' i = wi i) → (∀ i, i < fc → ar' i = ar i ∧ nm' i = nm i ∧ pd' i = pd i) → gfn g pc nc = .ok r → MOK b to r pc nc fi fx li op x1 x2 fi' fx' li' op' x1' x2' → LP bank C fo N S W KK PP k' tc fc' ab' ar' fi' fx' li' nm' op' pd' wh' wi' x1' x2')
    (a11 : ∀ (e ts fr : Int32) (ab' ar' fi' fx' li' nm' op' pd' wh' wi' x1' x2' : Nat → Int32), gfn g pc nc = .error e → KEPT to fi fx li op x1 x2 fi' fx' li' op' x1' x2' → (∃ pc', pc' ≤ 510 ∧ li' to = nI pc') → KK e ts fr ab' ar' fi' fx' li' nm' op' pd' wh' wi' x1' x2') :
    wp_Model_body bank (nI tc) ab li op wh wi x1 x2 a f (fun ts ab li op wh wi x1 x2 => wp_Model_translate_L46 bank C fo N S W KK PP (2001 - k) ((1 : Int32) - bank) 0 (nI k) ts (nI fc) ab ar fi fx li nm op pd wh wi x1 x2) := by
  unfold wp_Model_body
  refine q_memit hbk hto a3 (by omega) ?_
  refine q_later (l := []) SS.nil rfl (by omega) (fun ab1 wh1 wi1 s1 => q_later s1 rfl (by omega) (fun ab2 wh2 wi2 s2 => q_later s2 rfl (by omega) (fun ab3 wh3 wi3 s3 => ?_)))
  obtain ⟨⟨⟨p1, p2, p3⟩, ⟨q1, q2, q3⟩, ⟨r1, r2, r3⟩, -⟩, s4⟩ := s3
  refine hg.2 k (tc + 2) fc (pc + 1) nc ab3 ar fi fx _ nm _ pd wh3 wi3 _ _ a1 ⟨⟨p1, p2, p3⟩, trivial⟩ pk_us a4 (by omega) a6 a7 (by omega) (by omega) (fun k1 fc1 r ab4 ar4 fi4 fx4 li4 nm4 op4 pd4 wh4 wi4 x14 x24 b0 b1 b2 b3 b4 b5 b6 b7 => ?_) (fun e ts fr ab4 ar4 fi4 fx4 li4 nm4 op4 pd4 wh4 wi4 x14 x24 b1 b2 b3 => a11 e ts fr ab4 ar4 fi4 fx4 li4 nm4 op4 pd4 wh4 wi4 x14 x24 (by unfold gfn; rw [b1]) ((MOK.one (b := b) (o := 2) (a := 0) (c := 0) a3 a4 (by omega)).kept.trans b2) b3)
  have gb := hg.1 (pc + 1) nc
  rw [b6] at gb
  simp only at gb
  obtain ⟨t1, t2, t3⟩ := b4 (tc + 1) (by omega)
  obtain ⟨u1, u2, u3⟩ := b4 tc (by omega)
  refine LP.s1 (by omega) (by omega) (t2.trans q1) ?_
  refine q_memit hbk hto b7.1 (by omega) ?_
  refine LP.s4 hbk hto (by omega) (by omega) (u2.trans r1) (u1.trans r2) (by omega) ?_
  rw [pk_us]
  obtain ⟨m1, m2, m3, m4, m5, m6, m7⟩ := b7
  obtain ⟨n1, n2, n3⟩ := m4 (512 * to + pc) (by omega)
  refine a10 (k1 + 1 + 1) fc1 ((2, pc + r.1.length + 2, 0) :: (r.1 ++ [(4, 0, 0)]), r.2) _ _ _ _ _ _ _ _ _ _ _ _ (by omega) (by omega) b2 b3 (fun i hi => ?_) b5 (by unfold gfn; rw [b6]) ⟨?_, m2, fun x hx => ⟨(pk_un hx).trans ((m3 x hx).1.trans (pk_un hx)), (m3 x hx).2⟩, fun x hx => ?_, m5, ⟨⟨?_, ?_, ?_⟩, ML.app ?_ ⟨⟨?_, ?_, ?_⟩, trivial⟩⟩, m7⟩
  · obtain ⟨d1, d2, d3⟩ := b4 i (by omega)
    obtain ⟨e1, e2, e3⟩ := s4 i hi
    exact ⟨d1.trans e1, d2.trans e2, d3.trans e3⟩
  · rw [pk_us]
    simp only [List.length_cons, List.length_append, List.length_nil]
    exact congrArg nI (by omega)
  · obtain ⟨d1, d2, d3⟩ := m4 x (by omega)
    exact ⟨(pk_un (by omega)).trans (d1.trans (pk_un (by omega))), (pk_un (by omega)).trans ((pk_un (by omega)).trans (d2.trans (pk_un (by omega)))), (pk_un (by omega)).trans (d3.trans (pk_un (by omega)))⟩
  · exact (pk_un (by omega)).trans (n1.trans pk_us)
  · rw [pk_us]
    exact congrArg nI (by show pc + 1 + r.1.length + 1 = pc + r.1.length + 2; omega)
  · exact (pk_un (by omega)).trans (n3.trans pk_us)
  · rw [Nat.add_assoc]
    exact m6.to (fun x hx hx2 => ⟨pk_un (by omega), (pk_un (by omega)).trans (pk_un (by omega)), pk_un (by omega)⟩)
  · rw [show 512 * to + pc + 1 + r.1.length = 512 * to + (pc + 1 + r.1.length) by omega, pk_us]
    exact t1.trans q2
  · rw [show 512 * to + pc + 1 + r.1.length = 512 * to + (pc + 1 + r.1.length) by omega, pk_un (by omega), pk_us]
    rfl
  · rw [show 512 * to + pc + 1 + r.1.length = 512 * to + (pc + 1 + r.1.length) by omega, pk_us]
    rfl
end
