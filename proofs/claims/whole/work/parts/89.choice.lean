/-! the reference: the tasks BODY and CHOICE -/
section
variable {bank : Int32} {b to : Nat} {C fo N S W : Nat → Int32} {KK PP : KT} {P Q : Nat → (Nat → Int32) → (Nat → Int32) → (Nat → Int32) → Prop} {g h : GG} {bl bc bf bs bt bl' bc' bf' bs' bt' : Nat} {l l' : List (Int32 × Int32 × Int32)} {k tc fc pc nc : Nat} {ab ar fi fx li nm op pd wh wi x1 x2 : Nat → Int32}
theorem MR.body {a f : Int32} (hbk : (1 : Int32) - bank = nI to) (hto : to < 2) (hg : MR bank b to C fo N S W KK PP P bl bc bf bs bt [(0, a, f)] g) (hbt : 1 ≤ bt) : MR bank b to C fo N S W KK PP P (bl + 2) bc bf (bs + 3) (2 + bt) [(2, a, f)] (gfn g) := by
  refine ⟨hg.1.fn, fun k tc fc pc nc ab ar fi fx li nm op pd wh wi x1 x2 a1 a2 a3 a4 a5 a6 a7 a8 a9 a10 a11 => ?_⟩
  obtain ⟨⟨w1, w2, w3⟩, -⟩ := a2
  refine LP.s2 (by omega) (by omega) w1 ?_
  rw [show ab tc = a from w2, show wi tc = f from w3, show 2000 - k = 2001 - (k + 1) by omega]
  exact MR.bodyrun hbk hto hg hbt a1 a3 a4 a5 a6 a7 (by omega) a9 (fun k' fc' r ab' ar' fi' fx' li' nm' op' pd' wh' wi' x1' x2' b0 b1 => a10 k' fc' r ab' ar' fi' fx' li' nm' op' pd' wh' wi' x1' x2' (by omega) (by omega)) a11
theorem MR.choice {m q c0 c1 c2 c3 : Nat} {f : Int32} (hb : b ≤ 200) (hm : m ≤ 200) (hq : q < m) (hch : chM b N (C (b + q)) [c0, c1, c2, c3]) (hinc : inc 0 m [c0, c1, c2, c3]) (hbk : (1 : Int32) - bank = nI to) (hto : to < 2) (hP : FST P) (hg : MR bank b to C fo N S W KK PP P bl bc bf bs bt [(0, nI (b + c2), f)] g) (hh : MR bank b to C fo N S W KK PP P bl' bc' bf' bs' bt' [(0, nI (b + c3), f)] h) (hbt : 1 ≤ bt) (hbt' : 1 ≤ bt') : MR bank b to C fo N S W KK PP P (bl + bl' + 3) (bc + bc') (bf + bf') (bs + bs' + 5) (5 + bt + bt') [(3, nI (b + q), f)] (gsel g h) := by
  refine ⟨hg.1.sel hh.1, fun k tc fc pc nc ab ar fi fx li nm op pd wh wi x1 x2 a1 a2 a3 a4 a5 a6 a7 a8 a9 a10 a11 => ?_⟩
  obtain ⟨⟨w1, w2, w3⟩, -⟩ := a2
  refine LP.s3 (by omega) (by omega) w1 ?_
  rw [show ab tc = nI (b + q) from w2, show wi tc = f from w3, show 2000 - k = 2001 - (k + 1) by omega]
  unfold wp_Model_choice
  refine q_memit hbk hto a3 (by omega) ?_
  refine q_later (l := []) SS.nil rfl (by omega) (fun ab1 wh1 wi1 s1 => q_later s1 rfl (by omega) (fun ab2 wh2 wi2 s2 => q_mpart (s := 3) (l := [c0, c1, c2, c3]) hb hm (by omega) (show 3 ≤ 4 by decide) hch hinc (q_later s2 rfl (by omega) (fun ab3 wh3 wi3 s3 => q_later s3 rfl (by omega) (fun ab4 wh4 wi4 s4 => q_later s4 rfl (by omega) (fun ab5 wh5 wi5 s5 => q_mpart (s := 2) (l := [c0, c1, c2, c3]) hb hm (by omega) (show 2 ≤ 4 by decide) hch hinc (q_later s5 rfl (by omega) (fun ab6 wh6 wi6 s6 => ?_))))))))
  obtain ⟨⟨⟨p1, p2, p3⟩, ⟨q1, q2, q3⟩, ⟨r1, r2, r3⟩, ⟨u1, u2, u3⟩, ⟨v1, v2, v3⟩, ⟨y1, y2, y3⟩, -⟩, s7⟩ := s6
  refine hg.2 (k + 1) (tc + 5) fc (pc + 1) nc ab6 ar fi fx _ nm _ pd wh6 wi6 _ _ a1 ⟨⟨p1, p2, p3⟩, trivial⟩ pk_us a4 (by omega) (by omega) (by omega) (by omega) (by omega) (fun k1 fc1 r ab7 ar7 fi7 fx7 li7 nm7 op7 pd7 wh7 wi7 x17 x27 b0 b1 b2 b3 b4 b5 b6 b7 => ?_) (fun e ts fr ab7 ar7 fi7 fx7 li7 nm7 op7 pd7 wh7 wi7 x17 x27 b1 b2 b3 => a11 e ts fr ab7 ar7 fi7 fx7 li7 nm7 op7 pd7 wh7 wi7 x17 x27 (by unfold gsel; rw [b1]) ((MOK.one (b := b) (o := 7) (a := 0) (c := 0) a3 a4 (by omega)).kept.trans b2) b3)
  have gb := hg.1 (pc + 1) nc
  rw [b6] at gb
  simp only at gb
  obtain ⟨t1, t2, t3⟩ := b4 (tc + 4) (by omega)
  refine LP.s1 (by omega) (by omega) (t2.trans q1) ?_
  refine q_memit hbk hto b7.1 (by omega) ?_
  obtain ⟨t4, t5, t6⟩ := b4 (tc + 3) (by omega)
  refine LP.s4 hbk hto (by omega) (by omega) (t5.trans r1) (t4.trans r2) (by omega) ?_
  rw [pk_us]
  obtain ⟨m1, m2, m3, m4, m5, m6, m7⟩ := b7
  obtain ⟨n1, n2, n3⟩ := m4 (512 * to + pc) (by omega)
  obtain ⟨t7, t8, t9⟩ := b4 (tc + 2) (by omega)
  have e1 : pc + 1 + r.1.length + 1 = pc + r.1.length + 2 := by omega
  refine hh.2 (k1 + 1 + 1) (tc + 2) fc1 (pc + r.1.length + 2) (nc + r.2.length) ab7 ar7 fi7 fx7 _ nm7 _ pd7 wh7 wi7 _ _ (hP _ _ _ _ _ _ _ _ a1 b2 b5) ⟨⟨t8.trans u1, t7.trans u2, t9.trans u3⟩, trivial⟩ (by rw [pk_us, e1]) m2 (by omega) (by omega) (by omega) (by omega) (by omega) (fun k2 fc2 s ab8 ar8 fi8 fx8 li8 nm8 op8 pd8 wh8 wi8 x18 x28 d0 d1 d2 d3 d4 d5 d6 d7 => ?_) (fun e ts fr ab8 ar8 fi8 fx8 li8 nm8 op8 pd8 wh8 wi8 x18 x28 d1 d2 d3 => a11 e ts fr ab8 ar8 fi8 fx8 li8 nm8 op8 pd8 wh8 wi8 x18 x28 (by unfold gsel; rw [b6]; simp only; rw [d1]) ?_ d3)
  · have gb2 := hh.1 (pc + r.1.length + 2) (nc + r.2.length)
    rw [d6] at gb2
    simp only at gb2
    obtain ⟨f1, f2, f3⟩ := d4 (tc + 1) (by omega)
    obtain ⟨g1, g2, g3⟩ := b4 (tc + 1) (by omega)
    refine LP.s1 (by omega) (by omega) (f2.trans (g2.trans v1)) ?_
    refine q_memit hbk hto d7.1 (by omega) ?_
    obtain ⟨f4, f5, f6⟩ := d4 tc (by omega)
    obtain ⟨g4, g5, g6⟩ := b4 tc (by omega)
    refine LP.s5 hbk hto (by omega) (by omega) (f5.trans (g5.trans y1)) (f4.trans (g4.trans y2)) (by omega) ?_
    rw [pk_us]
    obtain ⟨h1, h2, h3, h4, h5, h6, h7⟩ := d7
    obtain ⟨i1, i2, i3⟩ := h4 (512 * to + pc) (by omega)
    refine a10 (k2 + 1 + 1) fc2 ((7, pc + r.1.length + 2, pc + r.1.length + s.1.length + 3) :: (r.1 ++ (8, 0, 0) :: (s.1 ++ [(8, 0, 0)])), r.2 ++ s.2) _ _ _ _ _ _ _ _ _ _ _ _ (by omega) (by omega) (by omega) (by omega) (fun i hi => ?_) (fun i hi => ?_) (by unfold gsel; rw [b6]; simp only; rw [d6]) ⟨?_, by rw [h2, List.length_append, Nat.add_assoc], fun x hx => ?_, fun x hx => ?_, fun x hx => (h5 x (by omega)).trans (m5 x hx), ⟨⟨?_, ?_, ?_⟩, ML.app ?_ ⟨⟨?_, ?_, ?_⟩, ML.app ?_ ⟨⟨?_, ?_, ?_⟩, trivial⟩⟩⟩, MC.app (m7.to (fun x hx hx2 => h5 x (by omega))) (by rw [Nat.add_assoc]; exact h7)⟩
    · obtain ⟨z1, z2, z3⟩ := d4 i (by omega)
      obtain ⟨z4, z5, z6⟩ := b4 i (by omega)
      obtain ⟨z7, z8, z9⟩ := s7 i hi
      exact ⟨z1.trans (z4.trans z7), z2.trans (z5.trans z8), z3.trans (z6.trans z9)⟩
    · obtain ⟨z1, z2, z3⟩ := d5 i (by omega)
      obtain ⟨z4, z5, z6⟩ := b5 i hi
      exact ⟨z1.trans z4, z2.trans z5, z3.trans z6⟩
    · rw [pk_us]
      simp only [List.length_cons, List.length_append, List.length_nil]
      exact congrArg nI (by omega)
    · exact ⟨(pk_un hx).trans ((h3 x hx).1.trans ((pk_un hx).trans ((m3 x hx).1.trans (pk_un hx)))), (h3 x hx).2.trans (m3 x hx).2⟩
    · obtain ⟨z1, z2, z3⟩ := h4 x (by omega)
      obtain ⟨z4, z5, z6⟩ := m4 x (by omega)
      exact ⟨(pk_un (by omega)).trans (z1.trans ((pk_un (by omega)).trans (z4.trans (pk_un (by omega))))), (pk_un (by omega)).trans (z2.trans ((pk_un (by omega)).trans ((pk_un (by omega)).trans (z5.trans (pk_un (by omega)))))), (pk_un (by omega)).trans ((pk_un (by omega)).trans (z3.trans ((pk_un (by omega)).trans (z6.trans (pk_un (by omega))))))⟩
    · exact (pk_un (by omega)).trans (i1.trans ((pk_un (by omega)).trans (n1.trans pk_us)))
    · refine (pk_un (by omega)).trans (i2.trans ?_)
      rw [pk_us]
      exact congrArg nI e1
    · rw [pk_us]
      exact congrArg nI (by show pc + r.1.length + 2 + s.1.length + 1 = pc + r.1.length + s.1.length + 3; omega)
    · rw [Nat.add_assoc]
      refine m6.to (fun x hx hx2 => ?_)
      obtain ⟨z1, z2, z3⟩ := h4 x (by omega)
      exact ⟨(pk_un (by omega)).trans (z1.trans (pk_un (by omega))), (pk_un (by omega)).trans (z2.trans ((pk_un (by omega)).trans (pk_un (by omega)))), (pk_un (by omega)).trans ((pk_un (by omega)).trans (z3.trans (pk_un (by omega))))⟩
    · obtain ⟨z1, z2, z3⟩ := h4 (512 * to + (pc + 1 + r.1.length)) (by omega)
      rw [show 512 * to + pc + 1 + r.1.length = 512 * to + (pc + 1 + r.1.length) by omega]
      exact (pk_un (by omega)).trans (z1.trans (pk_us.trans (t1.trans q2)))
    · obtain ⟨z1, z2, z3⟩ := h4 (512 * to + (pc + 1 + r.1.length)) (by omega)
      rw [show 512 * to + pc + 1 + r.1.length = 512 * to + (pc + 1 + r.1.length) by omega]
      exact (pk_un (by omega)).trans (z2.trans ((pk_un (by omega)).trans pk_us))
    · obtain ⟨z1, z2, z3⟩ := h4 (512 * to + (pc + 1 + r.1.length)) (by omega)
      rw [show 512 * to + pc + 1 + r.1.length = 512 * to + (pc + 1 + r.1.length) by omega]
      exact (pk_un (by omega)).trans ((pk_un (by omega)).trans (z3.trans pk_us))
    · rw [show 512 * to + pc + 1 + r.1.length + 1 = 512 * to + (pc + r.1.length + 2) by omega]
      exact h6.to (fun x hx hx2 => ⟨pk_un (by omega), pk_un (by omega), (pk_un (by omega)).trans (pk_un (by omega))⟩)
    · rw [show 512 * to + pc + 1 + r.1.length + 1 + s.1.length = 512 * to + (pc + r.1.length + 2 + s.1.length) by omega, pk_us]
      exact f1.trans (g1.trans v2)
    · rw [show 512 * to + pc + 1 + r.1.length + 1 + s.1.length = 512 * to + (pc + r.1.length + 2 + s.1.length) by omega, pk_us]
      rfl
    · rw [show 512 * to + pc + 1 + r.1.length + 1 + s.1.length = 512 * to + (pc + r.1.length + 2 + s.1.length) by omega, pk_un (by omega), pk_us]
      rfl
  · refine KEPT.trans ⟨fun x hx => ⟨(pk_un hx).trans ((m3 x hx).1.trans (pk_un hx)), (m3 x hx).2⟩, fun x hx => ?_, fun x hx => m5 x (by omega)⟩ d2
    obtain ⟨z4, z5, z6⟩ := m4 x (by omega)
    exact ⟨(pk_un (by omega)).trans (z4.trans (pk_un (by omega))), (pk_un (by omega)).trans ((pk_un (by omega)).trans (z5.trans (pk_un (by omega)))), (pk_un (by omega)).trans (z6.trans (pk_un (by omega)))⟩
end
