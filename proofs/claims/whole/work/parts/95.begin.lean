/-! begin, both: the constants -/
def GM (m : Nat) (g : GG) : Prop := ∀ pc nc r, g pc nc = .ok r → ∀ x ∈ r.2, x < m
theorem GM.put {m o a b : Nat} : GM m (gput o a b) := fun pc nc r h x hx => by
  have e := Except.ok.inj h
  subst e
  exact (List.not_mem_nil hx).elim
theorem GM.skip {m : Nat} : GM m gskip := fun pc nc r h x hx => by
  have e := Except.ok.inj h
  subst e
  exact (List.not_mem_nil hx).elim
theorem GM.con {m j : Nat} (hj : j < m) : GM m (gcon j) := fun pc nc r h x hx => by
  have e := Except.ok.inj h
  subst e
  rw [List.mem_singleton.mp hx]
  exact hj
theorem GM.err {m : Nat} {e : Int32} : GM m (gerr e) := fun pc nc r h => by cases h
theorem GM.seq {m : Nat} {g h : GG} (hg : GM m g) (hh : GM m h) : GM m (gseq g h) := fun pc nc r he x hx => by
  unfold gseq at he
  cases e1 : g pc nc with
  | error y => rw [e1] at he; cases he
  | ok s =>
    rw [e1] at he
    simp only at he
    cases e2 : h (pc + s.1.length) (nc + s.2.length) with
    | error y => rw [e2] at he; cases he
    | ok t =>
      rw [e2] at he
      have e := Except.ok.inj he
      subst e
      rcases List.mem_append.mp hx with z | z
      · exact hg _ _ s e1 x z
      · exact hh _ _ t e2 x z
theorem GM.fn {m : Nat} {g : GG} (hg : GM m g) : GM m (gfn g) := fun pc nc r he x hx => by
  unfold gfn at he
  cases e1 : g (pc + 1) nc with
  | error y => rw [e1] at he; cases he
  | ok s =>
    rw [e1] at he
    have e := Except.ok.inj he
    subst e
    exact hg _ _ s e1 x hx
theorem GM.sel {m : Nat} {g h : GG} (hg : GM m g) (hh : GM m h) : GM m (gsel g h) := fun pc nc r he x hx => by
  unfold gsel at he
  cases e1 : g (pc + 1) nc with
  | error y => rw [e1] at he; cases he
  | ok s =>
    rw [e1] at he
    simp only at he
    cases e2 : h (pc + s.1.length + 2) (nc + s.2.length) with
    | error y => rw [e2] at he; cases he
    | ok t =>
      rw [e2] at he
      have e := Except.ok.inj he
      subst e
      rcases List.mem_append.mp hx with z | z
      · exact hg _ _ s e1 x z
      · exact hh _ _ t e2 x z
theorem GM.down {m : Nat} {c : Nat → GG} {l : List Nat} (hc : ∀ j ∈ l, GM m (c j)) : ∀ k, k ≤ l.length → GM m (gdown c l k)
  | 0, _ => GM.skip
  | k + 1, hk => GM.seq (hc _ (getD_mem (by omega))) (GM.seq GM.put (GM.down hc k (by omega)))
theorem GM.args {m : Nat} {c : Nat → GG} {l : List Nat} (hc : ∀ j ∈ l, GM m (c j)) : GM m (gargs c l) := GM.seq GM.put (GM.down hc _ (Nat.le_refl _))
theorem GM.cmp {m : Nat} {K V F : Nat → Int32} {kids : Nat → List Nat} {w dp : Nat → Nat} (hT : TC m K V F kids w dp) : ∀ (d : Nat) (fs : List (List Nat)) (j : Nat), j < m → 13 ≤ d + dp j → GM m (comp K V kids d fs j) := by
  intro d
  induction d with
  | zero => intro fs j hj hd; exact absurd (hT.2 j hj).2.1 (by omega)
  | succ d ih =>
    intro fs j hj hd
    obtain ⟨hw1, hdp, hk⟩ := hT.2 j hj
    unfold comp
    rcases hk with hk | hk | ⟨hk, hd11, hch, hinc, hws, hdk⟩
    · rw [if_pos hk]; exact GM.con hj
    · rw [if_neg (by rw [hk]; decide), if_pos hk]
      cases e : look K V kids (V j) fs 0 with
      | none => exact GM.err
      | some x => exact GM.put
    · rw [if_neg (by rw [hk]; decide), if_neg (by rw [hk]; decide)]
      cases hkids : kids j with
      | nil => exact GM.err
      | cons h t =>
        rw [hkids] at hinc hdk
        have kq : ∀ fs' : List (List Nat), ∀ y ∈ h :: t, GM m (comp K V kids d fs' y) := fun fs' y hy => ih fs' y (hinc.mem hy).2 (by rw [hdk y hy]; omega)
        simp only
        cases hfi : formIx K V h with
        | none => exact GM.seq (GM.args (fun y hy => kq fs y (List.mem_cons_of_mem _ hy))) (GM.seq (kq fs h List.mem_cons_self) GM.put)
        | some i =>
          simp only
          split
          · rename_i hs
            obtain ⟨f1, f2, f3⟩ := formIx_some hfi
            obtain ⟨s11, s12, s13, s14, s3, s2⟩ := hs
            have nz : ∀ k, k < t.length → t.getD k 0 ∈ h :: t := fun k hk => List.mem_cons_of_mem _ (getD_mem hk)
            have lt : (h :: t).length = t.length + 1 := rfl
            rw [lt] at s11 s12 s13 s14 s3 s2
            have val : i = 14 ∨ i = 15 → ∀ fs' : List (List Nat), ∀ y ∈ t.drop 1, GM m (comp K V kids d fs' ((kids y).getD 1 0)) := fun hi fs' y hy => by
              have hb := (s14 hi).2 y hy
              have hym : y ∈ h :: t := List.mem_cons_of_mem _ (List.mem_of_mem_drop hy)
              obtain ⟨v1, v2, v3⟩ := hT.val (hinc.mem hym).2 hb
              exact ih fs' _ v1 (by rw [v3, hdk y hym]; omega)
            unfold cform
            split
            · rename_i c
              exact GM.seq (kq fs _ (nz 0 (by have := s2 c; omega))) GM.put
            split
            · have := s3 ⟨by omega, by omega⟩
              exact GM.seq (kq fs _ (nz 1 (by omega))) (GM.seq (kq fs _ (nz 0 (by omega))) GM.put)
            split
            · have := s3 ⟨by omega, by omega⟩
              exact GM.seq (kq fs _ (nz 0 (by omega))) (GM.seq (kq fs _ (nz 1 (by omega))) GM.put)
            split
            · rename_i c
              have := s11 c
              exact GM.con (hinc.mem (nz 0 (by omega))).2
            split
            · rename_i c
              have := s12 c
              exact GM.seq (kq fs _ (nz 0 (by omega))) (GM.sel (kq fs _ (nz 1 (by omega))) (kq fs _ (nz 2 (by omega))))
            split
            · rename_i c
              have := (s13 c).1
              exact GM.fn (kq _ _ (nz 1 (by omega)))
            split
            · rename_i c
              have := (s14 (Or.inl c)).1
              exact GM.seq (GM.args (val (Or.inl c) fs)) (GM.seq (GM.fn (kq _ _ (nz 0 (by omega)))) GM.put)
            · have i15 : i = 15 := by omega
              have := (s14 (Or.inr i15)).1
              exact GM.seq GM.put (GM.seq (GM.args (val (Or.inr i15) _)) (GM.seq (GM.fn (kq _ _ (nz 0 (by omega)))) GM.put))
          · exact GM.err
theorem prog_facts {m : Nat} {K V F : Nat → Int32} {kids : Nat → List Nat} {w dp : Nat → Nat} (hT : TC m K V F kids w dp) (hm : 0 < m) {r : List (Nat × Nat × Nat) × List Nat} (hr : gprog K V kids 0 0 = .ok r) : (∀ x ∈ r.2, x < m) ∧ 2 ≤ r.1.length := by
  refine ⟨GM.seq (GM.cmp hT 13 [] 0 hm (by omega)) (GM.seq GM.put GM.put) 0 0 r hr, ?_⟩
  unfold gprog gseq at hr
  cases e1 : comp K V kids 13 [] 0 0 0 with
  | error e => rw [e1] at hr; cases hr
  | ok s =>
    rw [e1] at hr
    have e3 := Except.ok.inj hr
    subst e3
    show 2 ≤ (s.1 ++ ([(3, 0, 0)] ++ [(20, 0, 0)])).length
    rw [List.length_append]
    show 2 ≤ s.1.length + 2
    omega
theorem CL.at {co : Nat → Int32} : ∀ {L : List Nat} {p k : Nat}, CL co p L → k < L.length → co (p + k + 1) = nI (L.getD k 0)
  | [], _, _, _, h => absurd h (Nat.not_lt_zero _)
  | _ :: _, _, 0, h1, _ => h1.1
  | _ :: _, p, k + 1, h1, h2 => by
    have := CL.at (k := k) h1.2 (Nat.lt_of_succ_lt_succ h2)
    rw [show p + (k + 1) + 1 = p + 1 + k + 1 from by omega]
    exact this
theorem MC.at {b : Nat} {fi : Nat → Int32} : ∀ {L : List Nat} {p k : Nat}, MC b fi p L → k < L.length → fi (p + k) = nI (b + L.getD k 0)
  | [], _, _, _, h => absurd h (Nat.not_lt_zero _)
  | _ :: _, _, 0, h1, _ => h1.1
  | _ :: _, p, k + 1, h1, h2 => by
    have := MC.at (k := k) h1.2 (Nat.lt_of_succ_lt_succ h2)
    rw [show p + (k + 1) = p + 1 + k from by omega]
    exact this
section
variable {bk m q sz : Nat} {K V F S W C N : Nat → Int32} {kids : Nat → List Nat} {w dp en : Nat → Nat} {cs : List Nat} {pco fi fx : Nat → Int32}
/-- the sum over the constants, the class -/
theorem need_class (hT : TREE (200 * bk) m q K V F S W C N kids w dp) (hC : CTI m K kids en) (hq : q ≤ 200) (hcs : ∀ x ∈ cs, x < m) (hl : cs.length ≤ 200) (hco : CL pco 0 cs) {cnt1 : Int32} {gF gK gV : Nat → Int32} {post : Int32 → Prop} : ∀ (r k acc : Nat), k + r = cs.length → acc ≤ 1000 + 400 * k → post (nI (acc + rsum (fun i => cel K V kids 13 (cs.getD i 0)) k r)) → wp_Machine_cellsFor_L10 (nI cs.length) pco (nI m) F K V cnt1 gF gK gV post (r + 1) (nI acc) (nI (k + 1)) := by
  intro r
  induction r with
  | zero =>
    intro k acc e hb hp
    exact ⟨fun _ => hp, fun z => absurd (nI_lt (by omega) (by omega)) z⟩
  | succ r ih =>
    intro k acc e hb hp
    have hm := hT.1
    have hxm := hcs _ (getD_mem (l := cs) (k := k) (by omega))
    have hx := hco.at (k := k) (by omega)
    rw [Nat.zero_add] at hx
    have cb := (cel_sum hT.tc hC 13 _ hxm (by omega)).2
    have wb := (hT.2 _ hxm).2.1
    refine ⟨fun z => absurd z (nI_nlt (by omega) (by omega)), fun _ => ⟨vp_in_nI (by omega) (by decide), ?_⟩⟩
    rw [nI_clamp (n := k + 1) (by omega), hx]
    refine q_cellsOf2 hT.tc hC (fun j hj => by have := (hT.2 j hj).2.1; omega) 13 _ _ hxm (by omega) ?_
    rw [nI_add, nI_1]
    refine ih (k + 1) _ (by omega) (by omega) ?_
    have : rsum (fun i => cel K V kids 13 (cs.getD i 0)) k (r + 1) = cel K V kids 13 (cs.getD k 0) + rsum (fun i => cel K V kids 13 (cs.getD i 0)) (k + 1) r := by
      rw [show r + 1 = 1 + r by omega, rsum_add]
      show 0 + cel K V kids 13 (cs.getD (k + 0) 0) + _ = _
      rw [Nat.zero_add]
      rfl
    rw [this] at hp
    rw [Nat.add_assoc]
    exact hp
end
/-! begin, both: the run is laid -/
section
variable {bk m q sz : Nat} {K V F S W C N : Nat → Int32} {kids : Nat → List Nat} {w dp en : Nat → Nat} {cs : List Nat} {pco fi fx : Nat → Int32}
/-- the sum over the constants, the reference -/
theorem need_model (hT : TREE (200 * bk) m q K V F S W C N kids w dp) (hC : CTI m K kids en) (hbk : bk < 2) (hq : q ≤ 200) (hcs : ∀ x ∈ cs, x < m) (hl : cs.length ≤ 200) (hfi : MC (200 * bk) fi (256 * bk) cs) (hfx : fx bk = nI cs.length) {pr ce v1 v2 a1 a2 a3 a4 a5 a6 a7 a8 a9 a10 a11 : Int32} {txt g2 g3 g4 g5 g6 g8 g9 g11 : Nat → Int32}
    {K96 : Int32 → Int32 → Int32 → Int32 → Int32 → Int32 → Int32 → Int32 → Int32 → Int32 → Int32 → Int32 → Int32 → Int32 → (Nat → Int32) → (Nat → Int32) → (Nat → Int32) → (Nat → Int32) → (Nat → Int32) → (Nat → Int32) → (Nat → Int32) → (Nat → Int32) → (Nat → Int32) → (Nat → Int32) → (Nat → Int32) → (Nat → Int32) → Prop}
    {post : Int32 → Int32 → Int32 → Int32 → Int32 → Int32 → Int32 → Int32 → Int32 → Int32 → Int32 → Int32 → (Nat → Int32) → (Nat → Int32) → (Nat → Int32) → (Nat → Int32) → (Nat → Int32) → (Nat → Int32) → (Nat → Int32) → (Nat → Int32) → (Nat → Int32) → (Nat → Int32) → (Nat → Int32) → (Nat → Int32) → Prop} :
    ∀ (r k acc : Nat), k + r = cs.length → K96 v1 v2 (nI (acc + rsum (fun i => cel K V kids 13 (cs.getD i 0)) k r)) a1 a2 a3 a4 a5 a6 a7 a8 a9 a10 a11 C g2 g3 g4 g5 g6 N g8 g9 S g11 W → wp_Model_begin_L53 (nI bk) pr ce fi fx txt K96 post (r + 1) v1 v2 (nI acc) (nI k) a1 a2 a3 a4 a5 a6 a7 a8 a9 a10 a11 C g2 g3 g4 g5 g6 N g8 g9 S g11 W := by
  have vb : vp_in (nI bk) 2 := vp_in_nI hbk (by decide)
  have eb : (nI bk).toNatClampNeg = bk := nI_clamp (by omega)
  intro r
  induction r with
  | zero =>
    intro k acc e hp
    refine ⟨vb, ?_⟩
    rw [eb, hfx]
    exact ⟨fun _ => hp, fun z => absurd (nI_le (by omega) (by omega)) z⟩
  | succ r ih =>
    intro k acc e hp
    have hxm := hcs _ (getD_mem (l := cs) (k := k) (by omega))
    have hx := hfi.at (k := k) (by omega)
    refine ⟨vb, ?_⟩
    rw [eb, hfx]
    refine ⟨fun z => absurd z (nI_ge (by omega) (by omega)), fun _ => ?_⟩
    have ea : (256 : Int32) * nI bk + nI k = nI (256 * bk + k) := by
      rw [show (256 : Int32) * nI bk = nI (256 * bk) from pk_mul 256 _, nI_add]
    rw [ea, nI_clamp (n := 256 * bk + k) (by omega), hx]
    have hm := hT.1
    refine ⟨vp_in_nI (by omega) (by decide), q_bulk hT hC (by omega) hq hxm ?_⟩
    rw [nI_add, nI_1]
    refine ih (k + 1) _ (by omega) ?_
    have : rsum (fun i => cel K V kids 13 (cs.getD i 0)) k (r + 1) = cel K V kids 13 (cs.getD k 0) + rsum (fun i => cel K V kids 13 (cs.getD i 0)) (k + 1) r := by
      rw [show r + 1 = 1 + r by omega, rsum_add]
      show 0 + cel K V kids 13 (cs.getD (k + 0) 0) + _ = _
      rw [Nat.zero_add]
      rfl
    rw [this] at hp
    rw [Nat.add_assoc]
    exact hp
end
section
variable {b m q sz : Nat} {K V F S W C N : Nat → Int32} {kids : Nat → List Nat} {w dp en : Nat → Nat}
theorem m1_lt {x : Nat} (h : x < 2 ^ 31) : nI x + (-1) < nI x := by
  cases x with
  | zero => decide
  | succ y => rw [pk_m1]; exact nI_lt (by omega) h
/-- a datum is laid whole -/
theorem build_one (hT : TREE b m q K V F S W C N kids w dp) (hC : CTI m K kids en) (hb : b ≤ 200) {j f : Nat} (hj : j < m) {fre kc lc rc tk km lm rm : Nat → Int32} {π : Nat → Nat} (H : HPX sz f 0 fre kc lc rc tk km lm rm π (fun _ => False)) (hf : cel K V kids 13 j ≤ f) :
    ∃ (v f' : Nat) (kc' lc' rc' tk' km' lm' rm' : Nat → Int32) (π' : Nat → Nat), f' + cel K V kids 13 j = f ∧ HPX sz f' 0 fre kc' lc' rc' tk' km' lm' rm' π' (fun _ => False) ∧ (∀ c, US sz f fre c → US sz f' fre c ∧ π' c = π c) ∧ US sz f' fre v ∧
      (∀ post : Int32 → Int32 → (Nat → Int32) → (Nat → Int32) → (Nat → Int32) → Prop, post (nI v) (nI f') kc' lc' rc' → wp_Machine_cellFor 13 sz sz sz sz (nI f) fre kc lc rc (nI m) F K V (nI j) post) ∧
      ∀ (made : Nat → Int32), ∃ made' : Nat → Int32, ∀ (us : Int32) (post : Int32 → Int32 → (Nat → Int32) → (Nat → Int32) → (Nat → Int32) → (Nat → Int32) → (Nat → Int32) → Prop), post (nI (π' v)) (us + nI (cel K V kids 13 j)) km' lm' made' rm' tk' → wp_Model_build (nI sz) us C km lm made N rm S tk W (nI (b + j)) post := by
  have hm := hT.1
  have hg := en_gt hT.tc hC 13 j hj (by omega)
  have hle := en_le hT.tc hC 13 j hj (by omega)
  obtain ⟨v, f', kc', lc', rc', tk', km', lm', rm', π', e1, e2, e3, e4, e5, e6⟩ := build_both hT hC hb 13 j hj (by omega) f 0 fre kc lc rc tk km lm rm π _ H hf
  refine ⟨v, f', kc', lc', rc', tk', km', lm', rm', π', e1, e2, fun c hc => ?_, e4.1, e5, fun made => ?_⟩
  · have := e3.2 c ⟨hc, fun z => z⟩
    exact ⟨this.1.1, this.2⟩
  · obtain ⟨made', m1, m2, m3⟩ := e6 made
    refine ⟨made', fun us post hp => ?_⟩
    refine ⟨13, q_under hT hC hb 13 j hj (by omega) ⟨1 + (en j - j), ?_⟩⟩
    have es : nI (b + (en j - 1)) = nI (b + en j) + (-1) := by
      rw [show b + en j = (b + (en j - 1)) + 1 by omega, pk_m1]
    rw [es]
    refine m3 j 1 us post (Nat.le_refl _) ?_
    refine ⟨fun _ => ⟨vp_in_nI (by omega) (by decide), ?_⟩, fun z => absurd ?_ z⟩
    · rw [nI_clamp (n := b + j) (by omega), m1]
      exact hp
    · exact m1_lt (by omega)
end
section
variable {bk m q sz : Nat} {K V F S W C N : Nat → Int32} {kids : Nat → List Nat} {w dp en : Nat → Nat} {cs : List Nat} {pco fi fx fre : Nat → Int32}
theorem consts_both (hT : TREE (200 * bk) m q K V F S W C N kids w dp) (hC : CTI m K kids en) (hbk : bk < 2) (hcs : ∀ x ∈ cs, x < m) (hl : cs.length ≤ 200) (hco : CL pco 0 cs) (hfi : MC (200 * bk) fi (256 * bk) cs) (hfx : fx bk = nI cs.length) :
    ∀ (r k f : Nat) (kc lc rc tk km lm rm cons cn made : Nat → Int32) (π : Nat → Nat), k + r = cs.length → HPX sz f 0 fre kc lc rc tk km lm rm π (fun _ => False) → rsum (fun i => cel K V kids 13 (cs.getD i 0)) k r ≤ f → CNS sz f fre cons cn π k →
    ∃ (f' : Nat) (kc' lc' rc' tk' km' lm' rm' cons' cn' made' : Nat → Int32) (π' : Nat → Nat), f' + rsum (fun i => cel K V kids 13 (cs.getD i 0)) k r = f ∧ HPX sz f' 0 fre kc' lc' rc' tk' km' lm' rm' π' (fun _ => False) ∧ CNS sz f' fre cons' cn' π' cs.length ∧
    (∀ (cnt1 v2 s e d nx st sp fu co rn : Int32) (gF gK gV ir rw : Nat → Int32) (K69 : Int32 → Int32 → Int32 → Int32 → Int32 → Int32 → Int32 → Int32 → Int32 → Int32 → (Nat → Int32) → Int32 → Int32 → (Nat → Int32) → (Nat → Int32) → (Nat → Int32) → (Nat → Int32) → (Nat → Int32) → (Nat → Int32) → Prop) (post : Int32 → Int32 → Int32 → Int32 → Int32 → Int32 → Int32 → Int32 → Int32 → (Nat → Int32) → Int32 → Int32 → (Nat → Int32) → (Nat → Int32) → (Nat → Int32) → (Nat → Int32) → (Nat → Int32) → (Nat → Int32) → Prop),
      K69 v2 (nI cs.length) s e d nx st sp fu co cons' (nI f') rn fre ir kc' lc' rw rc' → wp_Machine_start_L27 sz sz sz sz sz sz (nI sz) (nI cs.length) pco (nI m) F K V cnt1 gF gK gV K69 post (r + 1) v2 (nI (k + 1)) (nI cs.length) s e d nx st sp fu co cons (nI f) rn fre ir kc lc rw rc) ∧
    (∀ (pr v1 v2 a1 a2 us a4 a5 a6 a7 a8 a9 a10 a11 : Int32) (txt R Q : Nat → Int32) (K222 : Int32 → Int32 → Int32 → Int32 → Int32 → Int32 → Int32 → Int32 → Int32 → Int32 → Int32 → Int32 → Int32 → (Nat → Int32) → (Nat → Int32) → (Nat → Int32) → (Nat → Int32) → (Nat → Int32) → (Nat → Int32) → (Nat → Int32) → (Nat → Int32) → (Nat → Int32) → (Nat → Int32) → (Nat → Int32) → (Nat → Int32) → Prop) (post : Int32 → Int32 → Int32 → Int32 → Int32 → Int32 → Int32 → Int32 → Int32 → Int32 → Int32 → Int32 → (Nat → Int32) → (Nat → Int32) → (Nat → Int32) → (Nat → Int32) → (Nat → Int32) → (Nat → Int32) → (Nat → Int32) → (Nat → Int32) → (Nat → Int32) → (Nat → Int32) → (Nat → Int32) → (Nat → Int32) → Prop),
      K222 v1 v2 a1 a2 (us + nI (rsum (fun i => cel K V kids 13 (cs.getD i 0)) k r)) a4 a5 a6 a7 a8 a9 a10 a11 C cn' km' R lm' made' N Q rm' S tk' W → wp_Model_begin_L173 (nI bk) pr (nI sz) fi fx txt K222 post (r + 1) v1 v2 (nI k) a1 a2 us a4 a5 a6 a7 a8 a9 a10 a11 C cn km R lm made N Q rm S tk W) := by
  have hm := hT.1
  have vb : vp_in (nI bk) 2 := vp_in_nI hbk (by decide)
  have eb : (nI bk).toNatClampNeg = bk := nI_clamp (by omega)
  intro r
  induction r with
  | zero =>
    intro k f kc lc rc tk km lm rm cons cn made π e H hf hN
    refine ⟨f, kc, lc, rc, tk, km, lm, rm, cons, cn, made, π, rfl, H, by rw [← show k = cs.length by omega]; exact hN, fun cnt1 v2 s e d nx st sp fu co rn gF gK gV ir rw K69 post hp => ?_, fun pr v1 v2 a1 a2 us a4 a5 a6 a7 a8 a9 a10 a11 txt R Q K222 post hp => ?_⟩
    · exact ⟨fun _ => hp, fun z => absurd (nI_lt (by omega) (by omega)) z⟩
    · refine ⟨vb, ?_⟩
      rw [eb, hfx]
      have e0 : us + nI 0 = us := Int32.add_zero us
      have hp' : K222 v1 v2 a1 a2 (us + nI 0) a4 a5 a6 a7 a8 a9 a10 a11 C cn km R lm made N Q rm S tk W := hp
      rw [e0] at hp'
      exact ⟨fun _ => hp', fun z => absurd (nI_le (by omega) (by omega)) z⟩
  | succ r ih =>
    intro k f kc lc rc tk km lm rm cons cn made π e H hf hN
    have hxm := hcs _ (getD_mem (l := cs) (k := k) (by omega))
    have hx := hfi.at (k := k) (by omega)
    have hy := hco.at (k := k) (by omega)
    rw [Nat.zero_add] at hy
    have es : rsum (fun i => cel K V kids 13 (cs.getD i 0)) k (r + 1) = cel K V kids 13 (cs.getD k 0) + rsum (fun i => cel K V kids 13 (cs.getD i 0)) (k + 1) r := by
      rw [show r + 1 = 1 + r by omega, rsum_add]
      show 0 + cel K V kids 13 (cs.getD (k + 0) 0) + _ = _
      rw [Nat.zero_add]
      rfl
    rw [es] at hf ⊢
    obtain ⟨v, f1, kc1, lc1, rc1, tk1, km1, lm1, rm1, π1, b1, b2, b3, b4, b5, b6⟩ := build_one hT hC (by omega) hxm H (by omega)
    obtain ⟨made1, b7⟩ := b6 made
    have hv : v < sz := b4.1
    have hs2 := b2.2.1
    have N1 : CNS sz f1 fre (upd cons (k + 1) (nI v)) (upd cn (k + 1) (nI (π1 v))) π1 (k + 1) := by
      refine ⟨fun i hi => ?_, ?_⟩
      · by_cases c : i = k + 1
        · subst c
          exact ⟨v, b4, pk_us, pk_us⟩
        · obtain ⟨x, x1, x2, x3⟩ := hN.1 i (by omega)
          refine ⟨x, (b3 x x1).1, (pk_un c).trans x2, ?_⟩
          rw [pk_un c, (b3 x x1).2]
          exact x3
      · rw [pk_un (by omega)]
        exact hN.2
    obtain ⟨f', kc', lc', rc', tk', km', lm', rm', cons', cn', made', π', i1, i2, i3, i4, i5⟩ := ih (k + 1) f1 kc1 lc1 rc1 tk1 km1 lm1 rm1 (upd cons (k + 1) (nI v)) (upd cn (k + 1) (nI (π1 v))) made1 π1 (by omega) b2 (by omega) N1
    refine ⟨f', kc', lc', rc', tk', km', lm', rm', cons', cn', made', π', by omega, i2, i3, fun cnt1 v2 s e d nx st sp fu co rn gF gK gV ir rw K69 post hp => ?_, fun pr v1 v2 a1 a2 us a4 a5 a6 a7 a8 a9 a10 a11 txt R Q K222 post hp => ?_⟩
    · refine ⟨fun z => absurd z (nI_nlt (by omega) (by omega)), fun _ => ⟨vp_in_nI (by omega) (by decide), ?_⟩⟩
      rw [nI_clamp (n := k + 1) (by omega), hy]
      refine b5 _ ⟨vp_in_nI (by omega) (by decide), ?_⟩
      rw [nI_1]
      exact i4 cnt1 v2 s e d nx st sp fu co rn gF gK gV ir rw K69 post hp
    · refine ⟨vb, ?_⟩
      rw [eb, hfx]
      refine ⟨fun z => absurd z (nI_ge (by omega) (by omega)), fun _ => ?_⟩
      have ea : (256 : Int32) * nI bk + nI k = nI (256 * bk + k) := by
        rw [show (256 : Int32) * nI bk = nI (256 * bk) from pk_mul 256 _, nI_add]
      rw [ea, nI_clamp (n := 256 * bk + k) (by omega), hx]
      refine ⟨vp_in_nI (by omega) (by decide), b7 us _ ?_⟩
      rw [nI_1, nI_clamp (n := k + 1) (by omega)]
      refine ⟨vp_in_nI (by omega) (by decide), i5 pr v1 v2 a1 a2 _ a4 a5 a6 a7 a8 a9 a10 a11 txt R Q K222 post ?_⟩
      rw [Int32.add_assoc, nI_add]
      exact hp
end
/-! the memory when a run begins -/
theorem cnt_zero {p : Nat → Int32} : ∀ n, (∀ c, c < n → p c = 0) → cnt p n = 0
  | 0, _ => rfl
  | n + 1, h => by
    show cnt p n + (if p n = 0 then 0 else 1) = 0
    rw [if_pos (h n (by omega)), cnt_zero n (fun c hc => h c (by omega))]
theorem nd_get {P : List Nat} (p1 : P.Nodup) {i j : Nat} (hi : i < P.length) (hj : j < P.length) (e3 : P.getD i 0 = P.getD j 0) : i = j := by
  rw [List.getD_eq_getElem?_getD, List.getElem?_eq_getElem hi, List.getD_eq_getElem?_getD, List.getElem?_eq_getElem hj] at e3
  have e4 : P[i] = P[j] := e3
  have pw := List.pairwise_iff_getElem.mp p1
  rcases Nat.lt_trichotomy i j with y | y | y
  · exact absurd e4 (pw i j hi hj y)
  · exact y
  · exact absurd e4.symm (pw j i hj hi y)
theorem getD_of_mem {P : List Nat} {c : Nat} (h : c ∈ P) : ∃ i, i < P.length ∧ P.getD i 0 = c := by
  obtain ⟨i, hi, e2⟩ := List.getElem_of_mem h
  refine ⟨i, hi, ?_⟩
  rw [List.getD_eq_getElem?_getD, List.getElem?_eq_getElem hi]
  exact e2
theorem q_clear {sz : Nat} (h24 : 24 ≤ sz) (hs : sz ≤ 200) (fc rn : Int32) (fre ir kc lc rw : Nat → Int32) : ∃ (rn' : Int32) (fre' ir' rw' : Nat → Int32), (∀ i, i < sz - 3 → ∃ c, c < sz ∧ fre' i = nI c) ∧ (∀ i j, i < sz - 3 → j < sz - 3 → fre' i = fre' j → i = j) ∧ (∀ c, US sz (sz - 3) fre' c ↔ c < 3) ∧
    ∀ post : Int32 → Int32 → (Nat → Int32) → (Nat → Int32) → (Nat → Int32) → (Nat → Int32) → (Nat → Int32) → Prop, post (nI (sz - 3)) rn' fre' ir' (upd (upd (upd kc 0 1) 1 1) 2 1) (upd (upd (upd lc 0 14636) 1 20) 2 6) rw' → wp_Memory_clear sz sz sz sz sz (nI sz) fc rn fre ir kc lc rw post := by
  obtain ⟨L, ir', rw', hR, h3, g⟩ := q_beginReach (X := fun c => c < 3) (ir := ir) (rw := rw) (rn := rn) hs h24 (fun c hc => hc)
  obtain ⟨P, fre', p1, p2, p3, p4, p5⟩ := q_free (fre := fre) (fc := fc) hs hR
  have l3 : L.length = 3 := by
    have a1 := nd_len hR.1 (n := 3) (fun x hx => (hR.2.1 x hx).2)
    have a2 := cnt_chi (l := [0, 1, 2]) (n := 3) (by decide) (by decide)
    have a3 := cnt_chi (l := L) (n := 3) hR.1 (fun x hx => (hR.2.1 x hx).2)
    have a4 := cnt_mono (p := chi [0, 1, 2]) (q := chi L) 3 (fun c hc _ => fun z => (chi0.mp z) (h3 c hc))
    rw [a2, a3] at a4
    have : [0, 1, 2].length = 3 := rfl
    omega
  have hP : P.length = sz - 3 := by omega
  have pm : ∀ i, i < sz - 3 → P.getD i 0 < sz := fun i hi => ((p2 _).mp (getD_mem (by omega))).1
  refine ⟨nI L.length, fre', ir', rw', fun i hi => ⟨P.getD i 0, pm i hi, p4 i (by omega)⟩, fun i j hi hj e => ?_, fun c => ⟨fun h => ?_, fun h => ⟨by omega, fun i hi e => ?_⟩⟩, fun post hp => ?_⟩
  · rw [p4 i (by omega), p4 j (by omega)] at e
    have e2 := (nI_eq (by have := pm i hi; omega) (by have := pm j hj; omega)).mp e
    exact nd_get p1 (by omega) (by omega) e2
  · rcases Nat.lt_or_ge c 3 with z | z
    · exact z
    · have hc : c ∈ P := (p2 c).mpr ⟨h.1, fun y => absurd (hR.2.1 c y).2 (by omega)⟩
      obtain ⟨i, i1, i2⟩ := getD_of_mem hc
      exact absurd (by rw [p4 i i1, i2]) (h.2 i (by omega))
  · rw [p4 i (by omega)] at e
    have e2 := (nI_eq (by have := pm i hi; omega) (by omega)).mp e
    have := (p2 c).mp (by rw [← e2]; exact getD_mem (by omega))
    exact this.2 (h3 c h)
  · have v0 : vp_in (nI 0) sz := vp_in_nI (by omega) (by omega)
    have v1 : vp_in (nI 1) sz := vp_in_nI (by omega) (by omega)
    have v2 : vp_in (nI 2) sz := vp_in_nI (by omega) (by omega)
    refine ⟨v0, v0, v1, v1, v2, v2, g _ (p5 _ ?_)⟩
    rw [hP]
    exact hp

/-- the reference clears what was taken -/
theorem q_untake : ∀ (r k : Nat) (tk : Nat → Int32), k + r = 200 → (∀ c, c < k → tk c = 0) → ∃ tk' : Nat → Int32, (∀ c, c < 200 → tk' c = 0) ∧ ∀ (bk pr ce v1 v2 a1 a2 a3 a4 a5 a6 a7 a8 a9 a10 a11 : Int32) (fi fx txt C cn km R lm made N Q rm S W : Nat → Int32) (K132 : Int32 → Int32 → Int32 → Int32 → Int32 → Int32 → Int32 → Int32 → Int32 → Int32 → Int32 → Int32 → Int32 → (Nat → Int32) → (Nat → Int32) → (Nat → Int32) → (Nat → Int32) → (Nat → Int32) → (Nat → Int32) → (Nat → Int32) → (Nat → Int32) → (Nat → Int32) → (Nat → Int32) → (Nat → Int32) → (Nat → Int32) → Prop) (post : Int32 → Int32 → Int32 → Int32 → Int32 → Int32 → Int32 → Int32 → Int32 → Int32 → Int32 → Int32 → (Nat → Int32) → (Nat → Int32) → (Nat → Int32) → (Nat → Int32) → (Nat → Int32) → (Nat → Int32) → (Nat → Int32) → (Nat → Int32) → (Nat → Int32) → (Nat → Int32) → (Nat → Int32) → (Nat → Int32) → Prop), K132 v1 v2 a1 a2 a3 a4 a5 a6 a7 a8 a9 a10 a11 C cn km R lm made N Q rm S tk' W → wp_Model_begin_L110 bk pr ce fi fx txt K132 post (r + 1) v1 v2 (nI k) a1 a2 a3 a4 a5 a6 a7 a8 a9 a10 a11 C cn km R lm made N Q rm S tk W := by
  intro r
  induction r with
  | zero => intro k tk e h; exact ⟨tk, fun c hc => h c (by omega), fun bk pr ce v1 v2 a1 a2 a3 a4 a5 a6 a7 a8 a9 a10 a11 fi fx txt C cn km R lm made N Q rm S W K132 post hp => ⟨fun _ => hp, fun z => absurd (nI_le (a := 200) (by omega) (by omega)) z⟩⟩
  | succ r ih =>
    intro k tk e h
    obtain ⟨tk', t1, t2⟩ := ih (k + 1) (upd tk k 0) (by omega) (fun c hc => by
      by_cases e2 : c = k
      · rw [e2, pk_us]
      · rw [pk_un e2]; exact h c (by omega))
    refine ⟨tk', t1, fun bk pr ce v1 v2 a1 a2 a3 a4 a5 a6 a7 a8 a9 a10 a11 fi fx txt C cn km R lm made N Q rm S W K132 post hp => ⟨fun z => absurd z (nI_ge (a := k) (b := 200) (by omega) (by decide)), fun _ => ⟨vp_in_nI (by omega) (by decide), ?_⟩⟩⟩
    rw [nI_1, nI_clamp (n := k) (by omega)]
    exact t2 bk pr ce v1 v2 a1 a2 a3 a4 a5 a6 a7 a8 a9 a10 a11 fi fx txt C cn km R lm made N Q rm S W K132 post hp
/-- nil, t and f alone -/
theorem hp_first {sz : Nat} (h24 : 24 ≤ sz) (hs : sz ≤ 200) {fre kc lc rc tk km lm rm : Nat → Int32} (f1 : ∀ i, i < sz - 3 → ∃ c, c < sz ∧ fre i = nI c) (f2 : ∀ i j, i < sz - 3 → j < sz - 3 → fre i = fre j → i = j) (f3 : ∀ c, US sz (sz - 3) fre c ↔ c < 3) (ht : ∀ c, c < 200 → tk c = 0) :
    HPX sz (sz - 3) 0 fre (upd (upd (upd kc 0 1) 1 1) 2 1) (upd (upd (upd lc 0 14636) 1 20) 2 6) rc (upd (upd (upd tk 0 1) 1 1) 2 1) (upd (upd (upd km 0 2) 1 2) 2 2) (upd (upd (upd lm 0 10461) 1 20) 2 6) (upd (upd (upd rm 0 0) 1 0) 2 0) id (fun _ => False) := by
  have M : ∀ c, MPD sz (sz - 3) fre (fun _ => False) c ↔ c < 3 := fun c => ⟨fun h => (f3 c).mp h.1, fun h => ⟨(f3 c).mpr h, fun z => z⟩⟩
  have u1 : cnt (upd tk 0 1) sz = cnt tk sz + 1 := cnt_upd (by decide) (ht 0 (by omega)) sz (by omega)
  have u2 : cnt (upd (upd tk 0 1) 1 1) sz = cnt (upd tk 0 1) sz + 1 := cnt_upd (by decide) (by rw [pk_un (by decide)]; exact ht 1 (by omega)) sz (by omega)
  have u3 : cnt (upd (upd (upd tk 0 1) 1 1) 2 1) sz = cnt (upd (upd tk 0 1) 1 1) sz + 1 := cnt_upd (by decide) (by rw [pk_un (by decide), pk_un (by decide)]; exact ht 2 (by omega)) sz (by omega)
  have u0 : cnt tk sz = 0 := cnt_zero sz (fun c hc => ht c (by omega))
  have up : ∀ (g : Nat → Int32) (x y z : Int32), (upd (upd (upd g 0 x) 1 y) 2 z) 0 = x ∧ (upd (upd (upd g 0 x) 1 y) 2 z) 1 = y ∧ (upd (upd (upd g 0 x) 1 y) 2 z) 2 = z := fun g x y z => ⟨by rw [pk_un (by decide), pk_un (by decide), pk_us], by rw [pk_un (by decide), pk_us], pk_us⟩
  have three : ∀ c, c < 3 → c = 0 ∨ c = 1 ∨ c = 2 := fun c hc => by omega
  have k1 : ∀ c, c < 3 → (upd (upd (upd kc 0 1) 1 1) 2 1) c = 1 := fun c hc => by
    rcases three c hc with rfl | rfl | rfl
    · exact (up _ _ _ _).1
    · exact (up _ _ _ _).2.1
    · exact (up _ _ _ _).2.2
  refine ⟨h24, hs, by omega, f1, f2, fun c z => z.elim, fun c hc => ?_, fun c c' _ _ e => e, by omega, fun c hc => ⟨(M c).mpr hc, rfl, k1 c hc⟩, ⟨fun _ => 0, fun c b hc hb hk hr => ?_⟩, fun c hc => by rw [k1 c ((f3 c).mp hc)]; decide⟩
  · have h3 := (M c).mp hc
    refine ⟨by show c < sz; omega, ?_, Or.inr (Or.inl ?_)⟩
    · show ¬ (upd (upd (upd tk 0 1) 1 1) 2 1) c = 0
      rcases three c h3 with rfl | rfl | rfl
      · rw [(up _ _ _ _).1]; decide
      · rw [(up _ _ _ _).2.1]; decide
      · rw [(up _ _ _ _).2.2]; decide
    · rcases three c h3 with rfl | rfl | rfl
      · exact ⟨(up _ _ _ _).1, (up _ _ _ _).1, by show nameR ((upd (upd (upd lc 0 14636) 1 20) 2 6) 0) ((upd (upd (upd lm 0 10461) 1 20) 2 6) 0); rw [(up _ _ _ _).1, (up _ _ _ _).1]; exact last_names.1⟩
      · exact ⟨(up _ _ _ _).2.1, (up _ _ _ _).2.1, by show nameR ((upd (upd (upd lc 0 14636) 1 20) 2 6) 1) ((upd (upd (upd lm 0 10461) 1 20) 2 6) 1); rw [(up _ _ _ _).2.1, (up _ _ _ _).2.1]; exact last_names.2.1⟩
      · exact ⟨(up _ _ _ _).2.2, (up _ _ _ _).2.2, by show nameR ((upd (upd (upd lc 0 14636) 1 20) 2 6) 2) ((upd (upd (upd lm 0 10461) 1 20) 2 6) 2); rw [(up _ _ _ _).2.2, (up _ _ _ _).2.2]; exact last_names.2.2⟩
  · rw [k1 c ((f3 c).mp hc)] at hk
    exact absurd hk (by decide)
/-- the run that both hold; PN: what stands printed when it is done -/
def RUN (bk sz : Nat) (psz : Int32) (pwo op x1 x2 fx : Nat → Int32) (clc cS cE cD cX cT cP cF cG : Int32) (cons : Nat → Int32) (cfc : Int32) (fre kc lc rc : Nat → Int32) (mU mT mF mP mX mS mE mD mG : Int32) (cn km lm rm tk : Nat → Int32) (PN : Prop) : Prop :=
  (cT = 0 ∧ mT = 0) ∨ ∃ (cd : Nat → Nat × Nat × Nat) (n nco f s e d pc st : Nat) (π : Nat → Nat), 1 ≤ st ∧ st ≤ 9 ∧ nco ≤ 200 ∧ fx bk = nI nco ∧ COD cd n bk psz pwo op x1 x2 ∧ MST cd n nco sz fre cons cn f s e d pc st kc lc rc tk km lm rm π ∧
    (clc = nI nco ∧ cS = nI s ∧ cE = nI e ∧ cD = nI d ∧ cX = nI pc ∧ cT = nI st ∧ cfc = nI f) ∧ (mU = nI (sz - f) ∧ mT = nI st ∧ mX = nI pc ∧ mS = nI (π s) ∧ mE = nI (π e) ∧ mD = nI (π d)) ∧ cP = mP ∧ cF = mF ∧ cG = mG ∧ (st = 2 → PN)

def mlay (i_bank i_program i_cells : Int32) (f_fixed f_fixeds f_text : Nat → Int32) (post : Int32 → Int32 → Int32 → Int32 → Int32 → Int32 → Int32 → Int32 → Int32 → Int32 → Int32 → Int32 → (Nat → Int32) → (Nat → Int32) → (Nat → Int32) → (Nat → Int32) → (Nat → Int32) → (Nat → Int32) → (Nat → Int32) → (Nat → Int32) → (Nat → Int32) → (Nat → Int32) → (Nat → Int32) → (Nat → Int32) → Prop) : Int32 → Int32 → Int32 → Int32 → Int32 → Int32 → Int32 → Int32 → Int32 → Int32 → Int32 → Int32 → Int32 → (Nat → Int32) → (Nat → Int32) → (Nat → Int32) → (Nat → Int32) → (Nat → Int32) → (Nat → Int32) → (Nat → Int32) → (Nat → Int32) → (Nat → Int32) → (Nat → Int32) → (Nat → Int32) → (Nat → Int32) → Prop := fun v1 v2 i_size i_nodes i_used i_status i_fuel i_spent i_pc i_s i_e i_d i_rounds f_child f_constant f_kind f_latest f_left f_made f_next f_open f_right f_sort f_taken f_val => wp_Model_make i_cells (0 : Int32) f_kind f_left f_right f_taken (2 : Int32) (10461 : Int32) (0 : Int32) (fun r_21 i_used_22 f_kind_23 f_left_24 f_right_25 f_taken_26 => vp_in (0 : Int32) 257 ∧ (wp_Model_make i_cells i_used_22 f_kind_23 f_left_24 f_right_25 f_taken_26 (2 : Int32) (20 : Int32) (0 : Int32) (fun r_28 i_used_29 f_kind_30 f_left_31 f_right_32 f_taken_33 => wp_Model_make i_cells i_used_29 f_kind_30 f_left_31 f_right_32 f_taken_33 (2 : Int32) (6 : Int32) (0 : Int32) (fun r_34 i_used_35 f_kind_36 f_left_37 f_right_38 f_taken_39 => ∃ fu173 : Nat, wp_Model_begin_L173 i_bank i_program i_cells f_fixed f_fixeds f_text (fun v1 v2 i_size i_nodes i_used i_status i_fuel i_spent i_pc i_s i_e i_d i_rounds f_child f_constant f_kind f_latest f_left f_made f_next f_open f_right f_sort f_taken f_val => wp_Model_build i_cells i_used f_child f_kind f_left f_made f_next f_right f_sort f_taken f_val v2 (fun r_51 i_used_52 f_kind_53 f_left_54 f_made_55 f_right_56 f_taken_57 => wp_Model_make i_cells i_used_52 f_kind_53 f_left_54 f_right_56 f_taken_57 (3 : Int32) r_51 (0 : Int32) (fun r_58 i_used_59 f_kind_60 f_left_61 f_right_62 f_taken_63 => wp_Model_make i_cells i_used_59 f_kind_60 f_left_61 f_right_62 f_taken_63 (3 : Int32) r_58 (0 : Int32) (fun r_64 i_used_65 f_kind_66 f_left_67 f_right_68 f_taken_69 => post i_used_65 (0 : Int32) i_nodes i_used_65 (1 : Int32) v1 (0 : Int32) (0 : Int32) r_64 (0 : Int32) (0 : Int32) (0 : Int32) f_child f_constant f_kind_66 f_latest f_left_67 f_made_55 f_next f_open f_right_68 f_sort f_taken_69 f_val)))) post fu173 v1 v2 (0 : Int32) i_size i_nodes i_used_35 i_status i_fuel i_spent i_pc i_s i_e i_d i_rounds f_child (upd f_constant (0 : Int32).toNatClampNeg r_21) f_kind_36 f_latest f_left_37 f_made f_next f_open f_right_38 f_sort f_taken_39 f_val))))
/-- a run is laid: nil, t, f, the constants, the argument -/
theorem laid {bk m q ma qa sz : Nat} {K V F S W C N aK aV aF : Nat → Int32} {kids kida : Nat → List Nat} {w dp en wa da ea : Nat → Nat} {r : List (Nat × Nat × Nat) × List Nat} {pco fi fx op x1 x2 pwo : Nat → Int32} {psz : Int32} (h24 : 24 ≤ sz) (hs : sz ≤ 200)
    (hT : TREE (200 * bk) m q K V F S W C N kids w dp) (hC : CTI m K kids en) (hbk : bk < 2) (hl : r.2.length ≤ 200) (hl1 : r.1.length ≤ 401) (hgood : GOOD (fun a => r.1.getD a (0, 0, 0)) r.1.length r.2.length 0 1 0 [] false false) (hcs : ∀ x ∈ r.2, x < m) (hco : CL pco 0 r.2) (hfi : MC (200 * bk) fi (256 * bk) r.2) (hfx : fx bk = nI r.2.length) (hps : psz = nI r.1.length) (hwl : WL pwo 0 r.1) (hml : ML op x1 x2 (512 * bk) r.1)
    (hA : TREE (200 * (1 - bk)) ma qa aK aV aF S W C N kida wa da) (hCA : CTI ma aK kida ea) (hma : 0 < ma)
    (hsum : 5 + cel aK aV kida 13 0 + rsum (fun i => cel K V kids 13 (r.2.getD i 0)) 0 r.2.length ≤ sz) (fc rn0 x : Int32) (fre ir kc lc rw rc tk km lm rm cons cn made : Nat → Int32) :
    ∃ (rn' mS xS cfc' : Int32) (cons' fre' ir' kc' lc' rw' rc' tk' km' lm' rm' cn' made' : Nat → Int32), (∀ PN, RUN bk sz psz pwo op x1 x2 fx (nI r.2.length) xS 0 0 0 1 0 x 0 cons' cfc' fre' kc' lc' rc' (nI (5 + cel aK aV kida 13 0 + rsum (fun i => cel K V kids 13 (r.2.getD i 0)) 0 r.2.length)) 1 x 0 0 mS 0 0 0 cn' km' lm' rm' tk' PN) ∧
      (∀ (lc0 xs0 xe0 xd0 xx0 xt0 xp0 xf0 xg0 : Int32) (post : Int32 → Int32 → Int32 → Int32 → Int32 → Int32 → Int32 → Int32 → Int32 → (Nat → Int32) → Int32 → Int32 → (Nat → Int32) → (Nat → Int32) → (Nat → Int32) → (Nat → Int32) → (Nat → Int32) → (Nat → Int32) → Prop), post (nI r.2.length) xS 0 0 0 1 0 x 0 cons' cfc' rn' fre' ir' kc' lc' rw' rc' → wp_Machine_start sz sz sz sz sz sz lc0 xs0 xe0 xd0 xx0 xt0 xp0 xf0 xg0 cons (nI sz) fc rn0 fre ir kc lc rw rc (nI r.2.length) pco (nI m) F K V (nI ma) aF aK aV x post) ∧
      ∀ (pr siz nd a3 a4 a5 a6 a7 a8 a9 a10 a11 : Int32) (txt R Q : Nat → Int32) (post : Int32 → Int32 → Int32 → Int32 → Int32 → Int32 → Int32 → Int32 → Int32 → Int32 → Int32 → Int32 → (Nat → Int32) → (Nat → Int32) → (Nat → Int32) → (Nat → Int32) → (Nat → Int32) → (Nat → Int32) → (Nat → Int32) → (Nat → Int32) → (Nat → Int32) → (Nat → Int32) → (Nat → Int32) → (Nat → Int32) → Prop), post (nI (5 + cel aK aV kida 13 0 + rsum (fun i => cel K V kids 13 (r.2.getD i 0)) 0 r.2.length)) 0 nd (nI (5 + cel aK aV kida 13 0 + rsum (fun i => cel K V kids 13 (r.2.getD i 0)) 0 r.2.length)) 1 x 0 0 mS 0 0 0 C cn' km' R lm' made' N Q rm' S tk' W → wp_Model_begin_L110 (nI bk) pr (nI sz) fi fx txt (mlay (nI bk) pr (nI sz) fi fx txt post) post 201 x (nI (200 * (1 - bk))) 0 siz nd a3 a4 a5 a6 a7 a8 a9 a10 a11 C cn km R lm made N Q rm S tk W := by
  obtain ⟨rn', fre', ir', rw', f1, f2, f3, f4⟩ := q_clear h24 hs fc rn0 fre ir kc lc rw
  obtain ⟨tk0, t1, t2⟩ := q_untake 200 0 tk (by omega) (fun c hc => absurd hc (Nat.not_lt_zero _))
  have H0 := hp_first (kc := kc) (lc := lc) (rc := rc) (km := km) (lm := lm) (rm := rm) h24 hs f1 f2 f3 t1
  have N0 : CNS sz (sz - 3) fre' (upd cons 0 0) (upd cn 0 (nI 0)) id 0 := ⟨fun k hk => ⟨0, (f3 0).mpr (by omega), by rw [show k = 0 by omega, pk_us]; rfl, by rw [show k = 0 by omega, pk_us]; rfl⟩, pk_us⟩
  obtain ⟨g1, kc1, lc1, rc1, tk1, km1, lm1, rm1, cons1, cn1, made1, π1, b1, b2, b3, b4, b5⟩ := consts_both hT hC hbk hcs hl hco hfi hfx r.2.length 0 (sz - 3) _ _ _ _ _ _ _ (upd cons 0 0) (upd cn 0 (nI 0)) made id (Nat.zero_add _) H0 (by omega) N0
  obtain ⟨v, g2, kc2, lc2, rc2, tk2, km2, lm2, rm2, π2, c1, c2, c3, c4, c5, c6⟩ := build_one hA hCA (by omega) hma b2 (by omega)
  obtain ⟨made2, c7⟩ := c6 made1
  have hT2 : ∃ g3, g2 = g3 + 1 + 1 := ⟨g2 - 2, by omega⟩
  obtain ⟨g3, hg3⟩ := hT2
  subst hg3
  have H2 : HP sz (g3 + 1 + 1) fre' kc2 lc2 rc2 tk2 km2 lm2 rm2 π2 (fun a => GOOD (fun a => r.1.getD a (0, 0, 0)) r.1.length r.2.length a 0 0 [] true false) := c2.done
  obtain ⟨p, kc3, lc3, rc3, tk3, km3, lm3, rm3, π3, d1, d2, d3, d4, d5, d6, d7, d8, d9⟩ := H2.pair c4 (H2.nil (c := 0) (by omega)).1
  obtain ⟨s, kc4, lc4, rc4, tk4, km4, lm4, rm4, π4, e1, e2, e3, e4, e5, e6, e7, e8, e9⟩ := d1.pair d3 (d1.nil (c := 0) (by omega)).1
  have U0 := e1.nil (c := 0) (by omega)
  have all2 : ∀ c, US sz (g3 + 1 + 1) fre' c → PL kc2 lc2 rc2 c := fun c hc y hy => c2.2.2.2.2.2.2.2.2.2.2.2 y (hy (fun y => US sz (g3 + 1 + 1) fre' y) (fun r hr => by rw [hr]; exact hc) (fun u v hu he => H2.edg hu he))
  have ph2 : PH (US sz (g3 + 1 + 1) fre') kc2 lc2 rc2 := fun c a hc ha z => all2 a (H2.edg hc ⟨ha, by
    rcases z with ⟨k, l⟩ | ⟨k, l⟩
    · exact Or.inl ⟨k, Or.inl l⟩
    · exact Or.inr ⟨Or.inl k, l⟩⟩)
  have pl2 : PL kc2 lc2 rc2 0 := PL.atom (Or.inr (H2.nil (c := 0) (by omega)).2.2)
  have pl0 : PL kc3 lc3 rc3 0 := PL.atom (Or.inr (d1.nil (c := 0) (by omega)).2.2)
  have ph3 := PH.pair H2 d2 d3 d4 d5 d6 d7 c4 (H2.nil (c := 0) (by omega)).1 ph2 (all2 v c4)
  have ph4 := PH.pair d1 e2 e3 e4 e5 e6 e7 d3 (d1.nil (c := 0) (by omega)).1 ph3.1 (ph3.2 pl2)
  have pcs : ∀ k c, k ≤ r.2.length → c < 200 → cons1 k = nI c → PL kc4 lc4 rc4 c := fun k c hk hc e => by
    obtain ⟨y, y1, y2, y3⟩ := b3.1 k hk
    have q1 := c3 y y1
    have l1 := H2.lt q1.1
    rw [← (nI_eq (by omega) (by omega)).mp (y2.symm.trans e)]
    exact PL.ext H2 (d2.trans e2) q1.1 (all2 y q1.1)
  have z2 : π2 0 = 0 := (H2.nil (c := 0) (by omega)).2.1
  have z3 : π3 0 = 0 := (d1.nil (c := 0) (by omega)).2.1
  refine ⟨rn', nI (π4 s), nI s, nI g3, cons1, fre', ir', kc4, lc4, rw', rc4, tk4, km4, lm4, rm4, cn1, made2, fun PN => Or.inr ⟨fun a => r.1.getD a (0, 0, 0), r.1.length, r.2.length, g3, s, 0, 0, 0, 1, π4, by omega, by omega, hl, hfx, ⟨hl1, hps, fun a ha => ?_⟩, ⟨e1, e3, U0.1, U0.1, ⟨fun k hk => ?_, b3.2⟩, fun _ => ⟨⟨fun _ => False, 1, 0, [], false, false, 1, hgood, ⟨e3, e5, 0, by omega, e7, trivial⟩, trivial, trivial, fun z => absurd z (by decide), ph4.1, ph4.2 pl0, PL.atom (Or.inr U0.2.2)⟩, pcs⟩, fun z => absurd z (by decide), NC.mk (by rw [U0.2.2]; decide) (fun a ha => by
    rw [RG, U0.2.2] at ha
    exact absurd ha.2.1 (by decide))⟩, ⟨rfl, rfl, rfl, rfl, rfl, rfl, rfl⟩, ⟨by congr 1; omega, rfl, rfl, rfl, by rw [U0.2.1]; rfl, by rw [U0.2.1]; rfl⟩, rfl, rfl, rfl, fun z => absurd z (by decide)⟩, fun lc0 xs0 xe0 xd0 xx0 xt0 xp0 xf0 xg0 post hp => ?_, fun pr siz nd a3 a4 a5 a6 a7 a8 a9 a10 a11 txt R Q post hp => ?_⟩
  · have l4 := hwl.at ha
    rw [Nat.zero_add] at l4
    exact ⟨l4, hml.at ha⟩
  · obtain ⟨y, y1, y2, y3⟩ := b3.1 k hk
    have q1 := c3 y y1
    have q2 := d2 y q1.1
    have q3 := e2 y q2.1
    refine ⟨y, q3.1, y2, ?_⟩
    rw [q3.2.1, q2.2.1, q1.2]
    exact y3
  · refine f4 _ ⟨vp_in_nI (n := 0) (by decide) (by decide), r.2.length + 1, b4 (nI ma) x _ _ _ _ _ _ _ _ rn' aF aK aV ir' rw' _ post (c5 _ (d8 _ (e8 _ hp)))⟩
  · refine t2 (nI bk) pr (nI sz) x _ siz nd a3 a4 a5 a6 a7 a8 a9 a10 a11 fi fx txt C cn km R lm made N Q rm S W _ post ?_
    have n0 : ∀ c', c' < 0 → tk0 c' ≠ 0 := fun c hc => absurd hc (Nat.not_lt_zero _)
    refine q_make hs (c := 0) (by omega) (t1 0 (by omega)) n0 ⟨vp_in_nI (n := 0) (by decide) (by decide), ?_⟩
    refine q_make hs (c := 1) (by omega) (by rw [pk_un (by decide)]; exact t1 1 (by omega)) (fun c hc => ?_) ?_
    · rw [show c = 0 by omega, pk_us]; decide
    refine q_make hs (c := 2) (by omega) (by rw [pk_un (by decide), pk_un (by decide)]; exact t1 2 (by omega)) (fun c hc => ?_) ?_
    · rcases (show c = 0 ∨ c = 1 by omega) with rfl | rfl
      · rw [pk_un (by decide), pk_us]; decide
      · rw [pk_us]; decide
    refine ⟨r.2.length + 1, b5 pr x _ siz nd _ a4 a5 a6 a7 a8 a9 a10 a11 txt R Q _ post ?_⟩
    have c8 := c7 (((0 : Int32) + 1 + 1 + 1) + nI (rsum (fun i => cel K V kids 13 (r.2.getD i 0)) 0 r.2.length))
    rw [Nat.add_zero] at c8
    refine c8 _ ?_
    have d10 := d9 (((0 : Int32) + 1 + 1 + 1) + nI (rsum (fun i => cel K V kids 13 (r.2.getD i 0)) 0 r.2.length) + nI (cel aK aV kida 13 0))
    have e10 := e9 (((0 : Int32) + 1 + 1 + 1) + nI (rsum (fun i => cel K V kids 13 (r.2.getD i 0)) 0 r.2.length) + nI (cel aK aV kida 13 0) + 1)
    rw [z2] at d10
    rw [z3] at e10
    refine d10 _ (e10 _ ?_)
    have eu : ((0 : Int32) + 1 + 1 + 1) + nI (rsum (fun i => cel K V kids 13 (r.2.getD i 0)) 0 r.2.length) + nI (cel aK aV kida 13 0) + 1 + 1 = nI (5 + cel aK aV kida 13 0 + rsum (fun i => cel K V kids 13 (r.2.getD i 0)) 0 r.2.length) := by
      rw [show ((0 : Int32) + 1 + 1 + 1) = nI 3 from by decide, nI_add, nI_add, nI_1, nI_1]
      congr 1
      omega
    rw [eu]
    exact hp
theorem rsum_le {g : Nat → Nat} {lo B : Nat} : ∀ n, (∀ i, i < n → g (lo + i) ≤ B) → rsum g lo n ≤ B * n
  | 0, _ => Nat.zero_le _
  | n + 1, h => by
    show rsum g lo n + g (lo + n) ≤ B * (n + 1)
    have := rsum_le n (fun i hi => h i (by omega))
    have := h n (by omega)
    rw [Nat.mul_succ]
    omega
/-! begin, both -/
theorem begin_both {HQ : Prop} (hQ : HQ) {n bk sz : Nat} {psz plc pcnt pr acnt aoc clc cS cE cD cX cT cP cF cG cfc crn nd mU mT mF mP mX mS mE mD mG x : Int32} {pco pF pK pV pwo ct aF aK aP aO aV cons fre ir kc lc rw rc C cn fi fx li km R lm made N Q rm S tk mt W op x1 x2 : Nat → Int32}
    {PM : Int32 → Int32 → Int32 → Int32 → (Nat → Int32) → (Nat → Int32) → (Nat → Int32) → (Nat → Int32) → (Nat → Int32) → Int32 → Int32 → Int32 → Int32 → Int32 → Int32 → Int32 → Int32 → Int32 → (Nat → Int32) → Int32 → Int32 → (Nat → Int32) → (Nat → Int32) → (Nat → Int32) → (Nat → Int32) → (Nat → Int32) → (Nat → Int32) → Int32 → Int32 → Int32 → Int32 → Int32 → Int32 → Int32 → Int32 → Int32 → Int32 → Int32 → Int32 → (Nat → Int32) → (Nat → Int32) → (Nat → Int32) → (Nat → Int32) → (Nat → Int32) → (Nat → Int32) → (Nat → Int32) → (Nat → Int32) → (Nat → Int32) → (Nat → Int32) → (Nat → Int32) → (Nat → Int32) → Prop}
    (hn : n ≤ 200) (hbk : bk < 2) (h24 : 24 ≤ sz) (hs : sz ≤ 200) (het : ∀ k, k < n → ct k = mt k) (hP : PRG bk psz plc pco pcnt pF pK pV pwo pr S W C N fi fx li op x1 x2)
    (hA : ∀ (r acnt' aoc' nd' : Int32) (aF' aK' aP' aO' aV' C' R' N' Q' S' W' : Nat → Int32), PRG bk psz plc pco pcnt pF pK pV pwo pr S' W' C' N' fi fx li op x1 x2 →
      PM r (nI n) acnt' aoc' aF' aK' aP' aO' aV' clc cS cE cD cX cT cP cF cG cons cfc crn fre ir kc lc rw rc r (nI n) nd' mU mT mF mP mX mS mE mD mG C' cn km R' lm made N' Q' rm S' tk W')
    (hB : ∀ (r acnt' aoc' clc' cS' cfc' crn' nd' mU' mS' : Int32) (aF' aK' aP' aO' aV' cons' fre' ir' kc' lc' rw' rc' C' cn' km' R' lm' made' N' Q' rm' S' tk' W' : Nat → Int32), PRG bk psz plc pco pcnt pF pK pV pwo pr S' W' C' N' fi fx li op x1 x2 →
      (∀ PN, RUN bk sz psz pwo op x1 x2 fx clc' cS' 0 0 0 1 0 x 0 cons' cfc' fre' kc' lc' rc' mU' 1 x 0 0 mS' 0 0 0 cn' km' lm' rm' tk' PN) →
      PM r 0 acnt' aoc' aF' aK' aP' aO' aV' clc' cS' 0 0 0 1 0 x 0 cons' cfc' crn' fre' ir' kc' lc' rw' rc' r 0 nd' mU' 1 x 0 0 mS' 0 0 0 C' cn' km' R' lm' made' N' Q' rm' S' tk' W') :
    wp_Secd_begin sz sz sz sz sz sz (nI n) acnt aoc aF aK aP aO aV clc cS cE cD cX cT cP cF cG cons (nI sz) cfc crn fre ir kc lc rw rc psz plc pco pcnt pF pK pV ct x (fun a1 a2 a3 a4 a5 a6 a7 a8 a9 a10 a11 a12 a13 a14 a15 a16 a17 a18 a19 a20 a21 a22 a23 a24 a25 a26 a27 => HQ ∧ wp_Model_begin (nI n) (nI bk) pr nd (nI sz) mU mT mF mP mX mS mE mD mG C cn fi fx km R lm made N Q rm S tk mt W x (PM a1 a2 a3 a4 a5 a6 a7 a8 a9 a10 a11 a12 a13 a14 a15 a16 a17 a18 a19 a20 a21 a22 a23 a24 a25 a26 a27)) := by
  obtain ⟨hb1, hb2⟩ := bank_to hbk
  unfold wp_Secd_begin wp_Model_begin
  rcases hP with ⟨h1, h2⟩ | ⟨h0, m, q, K, V, kids, w, dp, r, g1, g2, ⟨g3, en, g3b⟩, g4, g5, g6, g7, g8, g9, g10, g11, g12, g13, g14, g15, g16⟩
  · subst h1 h2
    exact ⟨fun _ => ⟨hQ, fun _ => hA _ _ _ _ _ _ _ _ _ _ _ _ _ _ _ (Or.inl ⟨rfl, rfl⟩), fun z => absurd rfl z⟩, fun z => absurd rfl z⟩
  · have hP0 : PRG bk psz plc pco pcnt pF pK pV pwo pr S W C N fi fx li op x1 x2 := Or.inr ⟨h0, m, q, K, V, kids, w, dp, r, g1, g2, ⟨g3, en, g3b⟩, g4, g5, g6, g7, g8, g9, g10, g11, g12, g13, g14, g15, g16⟩
    have tcK : TC m K V pF kids w dp := (g3.to (K' := K) (V' := V) (F' := pF) (fun k hk => ⟨(g4 k hk).1, (g4 k hk).2, rfl⟩) (fun _ _ => ⟨rfl, rfl, rfl, rfl⟩)).tc
    obtain ⟨hcs, hlen⟩ := prog_facts tcK g1 g6
    have pz : ¬ psz = 0 := by rw [g9]; exact nI_ne0 (by omega) (by omega)
    have prz : ¬ pr = 0 := by rw [h0]; decide
    refine ⟨fun z => absurd z pz, fun _ => ⟨fun c => ⟨hQ, fun z => absurd z prz, fun _ => ⟨fun _ => hA _ _ _ _ _ _ _ _ _ _ _ _ _ _ _ hP0, fun z => absurd c z⟩⟩, fun c => ⟨fun c2 => ?_, fun c2 => ⟨hQ, fun z => absurd z prz, fun _ => ⟨fun z => absurd z c, fun _ => ⟨fun z => absurd z c2, fun _ => hA _ _ _ _ _ _ _ _ _ _ _ _ _ _ _ hP0⟩⟩⟩⟩⟩⟩
    rcases read_both (ct := ct) (mt := mt) (bank := nI bk) hn (b := 200 * (1 - bk)) (by omega) hb2 het acnt aoc nd aK aV aF aO aP S W C N Q R with ⟨ma, K', V', F', O', P', S', W', C', N', Q', R', hm0, hRX, ho, gc, gm⟩ | ⟨u1, u2, u3, K', V', F', O', P', S', W', C', N', Q', R', ho, gc, gm⟩
    · have hP1 := hP0.keep hbk ho KEPT.refl
      obtain ⟨kida, wa, da, hTa⟩ := tree_of hRX
      obtain ⟨ea, hea⟩ := cont_of hRX hm0 hTa
      have g3' : TREE (200 * bk) m q pK pV pF S' W' C' N' kids w dp := g3.to (fun _ _ => ⟨rfl, rfl, rfl⟩) (fun k hk => ho (200 * bk + k) (by
        have := g3.1
        rcases (show bk = 0 ∨ bk = 1 by omega) with rfl | rfl
        · left; omega
        · right; omega))
      have hma := hTa.1
      have ca := (cel_sum hTa.tc hea 13 0 hm0 (by omega)).2
      have wa0 := (hTa.2 0 hm0).2.1
      have sb : rsum (fun i => cel pK pV kids 13 (r.2.getD i 0)) 0 r.2.length ≤ 400 * r.2.length := rsum_le _ (fun i hi => by
        have hx := hcs _ (getD_mem (l := r.2) (k := 0 + i) (by omega))
        have c1 := (cel_sum g3.tc g3b 13 _ hx (by omega)).2
        have c3 := (g3.2 _ hx).2.1
        show cel pK pV kids 13 (r.2.getD (0 + i) 0) ≤ 400
        omega)
      refine gc _ ⟨fun z => absurd z (by decide), fun _ => ?_⟩
      refine q_cellsOf2 hTa.tc hea (fun j hj => by have := (hTa.2 j hj).2.1; omega) 13 0 _ hm0 (by omega) ⟨r.2.length + 1, ?_⟩
      have e5 : (5 : Int32) + nI (cel K' V' kida 13 0) = nI (5 + cel K' V' kida 13 0) := nI_add 5 _
      rw [e5, g5, g10]
      refine need_class g3' g3b g2 hcs g8 g12 r.2.length 0 _ (Nat.zero_add _) (by omega) ?_
      have hmod : ∀ (post : Int32 → Int32 → Int32 → Int32 → Int32 → Int32 → Int32 → Int32 → Int32 → Int32 → Int32 → Int32 → (Nat → Int32) → (Nat → Int32) → (Nat → Int32) → (Nat → Int32) → (Nat → Int32) → (Nat → Int32) → (Nat → Int32) → (Nat → Int32) → (Nat → Int32) → (Nat → Int32) → (Nat → Int32) → (Nat → Int32) → Prop) (K96 : Int32 → Int32 → Int32 → Int32 → Int32 → Int32 → Int32 → Int32 → Int32 → Int32 → Int32 → Int32 → Int32 → Int32 → (Nat → Int32) → (Nat → Int32) → (Nat → Int32) → (Nat → Int32) → (Nat → Int32) → (Nat → Int32) → (Nat → Int32) → (Nat → Int32) → (Nat → Int32) → (Nat → Int32) → (Nat → Int32) → (Nat → Int32) → Prop), K96 x (nI (200 * (1 - bk))) (nI (5 + cel K' V' kida 13 0 + rsum (fun i => cel pK pV kids 13 (r.2.getD i 0)) 0 r.2.length)) (nI n) (nI ma) mU mT mF mP mX mS mE mD mG C' cn km R' lm made N' Q' rm S' tk W' → wp_Model_bulk C' N' S' W' ((200 : Int32) * ((1 : Int32) - nI bk)) (fun r_13 => ∃ fu53 : Nat, wp_Model_begin_L53 (nI bk) pr (nI sz) fi fx mt K96 post fu53 x ((200 : Int32) * ((1 : Int32) - nI bk)) ((5 : Int32) + r_13) 0 (nI n) (nI ma) mU mT mF mP mX mS mE mD mG C' cn km R' lm made N' Q' rm S' tk W') := fun post K96 hp => by
        rw [hb2]
        have := q_bulk hTa hea (b := 200 * (1 - bk)) (by omega) hn (j := 0) hm0 (post := fun r_13 => ∃ fu53 : Nat, wp_Model_begin_L53 (nI bk) pr (nI sz) fi fx mt K96 post fu53 x (nI (200 * (1 - bk))) ((5 : Int32) + r_13) 0 (nI n) (nI ma) mU mT mF mP mX mS mE mD mG C' cn km R' lm made N' Q' rm S' tk W') ⟨r.2.length + 1, by
          rw [e5]
          exact need_model g3' g3b hbk g2 hcs g8 g16 g14 r.2.length 0 _ (Nat.zero_add _) hp⟩
        rw [Nat.add_zero] at this
        exact this
      by_cases hsz : 5 + cel K' V' kida 13 0 + rsum (fun i => cel pK pV kids 13 (r.2.getD i 0)) 0 r.2.length ≤ sz
      · have hle := nI_le hsz (by omega)
        have good := prog_good tcK g1 g6 (by omega) g8 (cd := fun a => r.1.getD a (0, 0, 0)) (fun i hi => by rw [Nat.zero_add])
        obtain ⟨rn', mS', xS', cfc', cons', fre', ir', kc', lc', rw', rc', tk', km', lm', rm', cn', made', l1, l2, l3⟩ := laid h24 hs g3' g3b hbk g8 g7 good hcs g12 g16 g14 g9 g11 g15 hTa hea hm0 hsz cfc crn x fre ir kc lc rw rc tk km lm rm cons cn made
        refine ⟨fun _ => l2 clc cS cE cD cX cT cP cF cG _ ⟨hQ, fun z => absurd z prz, fun _ => ⟨fun z => absurd z c, fun _ => ⟨fun _ => gm _ ⟨fun z => absurd z (by decide), fun _ => hmod _ _ ⟨fun _ => ⟨201, l3 pr (nI n) (nI ma) mU mT mF mP mX mS mE mD mG mt R' Q' _ ?_⟩, fun z => absurd hle z⟩⟩, fun z => absurd c2 z⟩⟩⟩, fun z => absurd hle z⟩
        exact hB _ _ _ _ _ _ _ _ _ _ _ _ _ _ _ _ _ _ _ _ _ _ _ _ _ _ _ _ _ _ _ _ _ _ hP1 l1
      · have nle := nI_ge (a := sz) (b := 5 + cel K' V' kida 13 0 + rsum (fun i => cel pK pV kids 13 (r.2.getD i 0)) 0 r.2.length) (by omega) (by omega)
        refine ⟨fun z => absurd z nle, fun _ => ⟨hQ, fun z => absurd z prz, fun _ => ⟨fun z => absurd z c, fun _ => ⟨fun _ => gm _ ⟨fun z => absurd z (by decide), fun _ => hmod _ _ ⟨fun z => absurd z nle, fun _ => ?_⟩⟩, fun z => absurd c2 z⟩⟩⟩⟩
        exact hA _ _ _ _ _ _ _ _ _ _ _ _ _ _ _ hP1
    · refine gc _ ⟨fun _ => ⟨hQ, fun z => absurd z prz, fun _ => ⟨fun z => absurd z c, fun _ => ⟨fun _ => gm _ ⟨fun _ => ?_, fun z => absurd rfl z⟩, fun z => absurd c2 z⟩⟩⟩, fun z => absurd rfl z⟩
      exact hA _ _ _ _ _ _ _ _ _ _ _ _ _ _ _ (hP0.keep hbk ho KEPT.refl)
/-! what is asked of a run, both -/
section
variable {sz f : Nat} {fre kc lc rc tk km lm rm : Nat → Int32} {π : Nat → Nat} {G : Nat → Prop}
/-- pairs along the rights -/
theorem pairs_both (H : HP sz f fre kc lc rc tk km lm rm π G) {rk : Nat → Nat} (hrk : ∀ c b, US sz f fre c → b < 200 → (kc c = 2 ∨ kc c = 4) → rc c = nI b → rk b < rk c ∧ US sz f fre b) : ∀ (r c : Nat) (V : List Nat), rk c < r → US sz f fre c → V.Nodup → (∀ x ∈ V, kc x = 2 ∧ x < sz ∧ rk c < rk x) →
    ∃ t : Nat, (∀ post : Int32 → Prop, post (nI t) → wp_Memory_pairsFrom_L4 sz sz (nI sz) kc rc post r (nI V.length) (nI c)) ∧ ∀ (st s e d : Int32) (v : Nat) (post : Int32 → Prop), v < 2 → post (nI t) → wp_Model_depth_L48 st s e d km rm post r (nI v) (nI V.length) (nI (π c)) := by
  intro r
  induction r with
  | zero => intro c V h; exact absurd h (Nat.not_lt_zero _)
  | succ r ih =>
    intro c V hr Uc nd hV
    obtain ⟨l1, l2, l3⟩ := H.lt Uc
    have vlen : V.length + 1 ≤ sz := by
      have k0 := (H.nil (c := 0) (by omega)).2.2
      have : (0 :: V).Nodup := List.nodup_cons.mpr ⟨fun z => by
        have := (hV 0 z).1
        rw [k0] at this
        exact absurd this (by decide), nd⟩
      exact nd_len this (fun x hx => by
        rcases List.mem_cons.mp hx with z | z
        · rw [z]; omega
        · exact (hV x z).2.1)
    have vc : vp_in (nI (π c)) 200 := vp_in_nI (by omega) (by decide)
    have ec : (nI (π c)).toNatClampNeg = π c := nI_clamp (by omega)
    have nle : ¬ nI sz ≤ nI V.length := nI_ge (by omega) (by omega)
    by_cases hk : kc c = 2
    · obtain ⟨mk, a, b, p1, p2, p3, p4, p5, p6⟩ := H.pr Uc hk
      have lb := H.lt p6
      obtain ⟨rl, -⟩ := hrk c b Uc (by omega) (Or.inl hk) p2
      obtain ⟨t, t1, t2⟩ := ih b (c :: V) (by omega) p6 (List.nodup_cons.mpr ⟨fun z => absurd (hV c z).2.2 (by omega), nd⟩) (fun x hx => by
        rcases List.mem_cons.mp hx with z | z
        · rw [z]; exact ⟨hk, l1, rl⟩
        · exact ⟨(hV x z).1, (hV x z).2.1, by have := (hV x z).2.2; omega⟩)
      refine ⟨t, fun post hp => ⟨fun z => absurd z nle, fun _ => H.isPair Uc (fun _ => ⟨fun z => absurd z (by decide), fun _ => ⟨vp_in_nI l1 (by omega), ?_⟩⟩) (fun z => absurd hk z)⟩, fun st s e d v post hv hp => ⟨vc, fun _ => ⟨fun _ => ⟨vc, ?_⟩, fun z => absurd (nI_lt (b := 2) hv (by decide)) z⟩, fun z => ?_⟩⟩
      · rw [nI_clamp (n := c) (by omega), p2, nI_1]
        exact t1 post hp
      · rw [ec, p4, nI_1]
        exact t2 st s e d v post hv hp
      · rw [ec] at z
        exact absurd mk z
    · have mk : ¬ km (π c) = 3 := fun z => by
        obtain ⟨k, k1, k2, k3⟩ := H.kind Uc
        have : k + 1 = 3 := (nI_eq (b := 3) (by omega) (by decide)).mp (k3.symm.trans z)
        exact hk (by rw [k2, show k = 2 by omega]; rfl)
      refine ⟨V.length, fun post hp => ⟨fun z => absurd z nle, fun _ => H.isPair Uc (fun z => absurd z hk) (fun _ => ⟨fun _ => hp, fun z => absurd rfl z⟩)⟩, fun st s e d v post hv hp => ⟨vc, fun z => ?_, fun _ => ⟨fun z => ?_, fun _ => hp⟩⟩⟩
      · rw [ec] at z; exact absurd z mk
      · exact absurd ((nI_eq (b := 2) (by omega) (by decide)).mp z) (by omega)
/-- marks along the rights -/
theorem marks_both (H : HP sz f fre kc lc rc tk km lm rm π G) {rk : Nat → Nat} (hrk : ∀ c b, US sz f fre c → b < 200 → (kc c = 2 ∨ kc c = 4) → rc c = nI b → rk b < rk c ∧ US sz f fre b) : ∀ (r c n : Nat) (V : List Nat), rk c < r → US sz f fre c → NC kc rc c → V.Nodup → n ≤ V.length → (∀ x ∈ V, (kc x = 2 ∨ kc x = 4) ∧ x < sz ∧ rk c < rk x) →
    ∃ t : Nat, (∀ post : Int32 → Prop, post (nI t) → wp_Memory_marksFrom_L7 sz sz (nI sz) kc rc post r (nI n) (nI c) (nI V.length)) ∧ ∀ (st s e d : Int32) (post : Int32 → Prop), post (nI t) → wp_Model_depth_L48 st s e d km rm post r 2 (nI n) (nI (π c)) := by
  intro r
  induction r with
  | zero => intro c n V h; exact absurd h (Nat.not_lt_zero _)
  | succ r ih =>
    intro c n V hr Uc hnc nd hn hV
    obtain ⟨l1, l2, l3⟩ := H.lt Uc
    have vlen : V.length + 1 ≤ sz := by
      have k0 := (H.nil (c := 0) (by omega)).2.2
      have : (0 :: V).Nodup := List.nodup_cons.mpr ⟨fun z => by
        have := (hV 0 z).1
        rw [k0] at this
        exact absurd this (by decide), nd⟩
      exact nd_len this (fun x hx => by
        rcases List.mem_cons.mp hx with z | z
        · rw [z]; omega
        · exact (hV x z).2.1)
    have vc : vp_in (nI (π c)) 200 := vp_in_nI (by omega) (by decide)
    have ec : (nI (π c)).toNatClampNeg = π c := nI_clamp (by omega)
    have vcs : vp_in (nI c) sz := vp_in_nI l1 (by omega)
    have ecs : (nI c).toNatClampNeg = c := nI_clamp (by omega)
    have nle : ¬ nI sz ≤ nI V.length := nI_ge (by omega) (by omega)
    have n3 := hnc.no
    by_cases hk : kc c = 2
    · obtain ⟨mk, a, b, p1, p2, p3, p4, p5, p6⟩ := H.pr Uc hk
      have lb := H.lt p6
      have n5 : ¬ km (π c) = 5 := by rw [mk]; decide
      obtain ⟨rl, -⟩ := hrk c b Uc (by omega) (Or.inl hk) p2
      obtain ⟨t, t1, t2⟩ := ih b n (c :: V) (by omega) p6 (hnc.edg ⟨by omega, Or.inl hk, p2⟩) (List.nodup_cons.mpr ⟨fun z => absurd (hV c z).2.2 (by omega), nd⟩) (by show n ≤ V.length + 1; omega) (fun x hx => by
        rcases List.mem_cons.mp hx with z | z
        · rw [z]; exact ⟨Or.inl hk, l1, rl⟩
        · exact ⟨(hV x z).1, (hV x z).2.1, by have := (hV x z).2.2; omega⟩)
      refine ⟨t, fun post hp => ⟨fun z => absurd z nle, fun _ => H.isPair Uc (fun _ => ⟨fun z => absurd z (by decide), fun _ => H.isPair Uc (fun _ => ⟨fun z => absurd z (by decide), fun _ => ⟨vcs, ?_⟩⟩) (fun z => absurd hk z)⟩) (fun z => absurd hk z)⟩, fun st s e d post hp => ?_⟩
      · rw [ecs, p2, nI_1]
        exact t1 post hp
      · have h2 := t2 st s e d post hp
        unfold wp_Model_depth_L48 wp_Model_depth_J73 wp_Model_depth_J95
        rw [ec, p4]
        exact ⟨vc, fun _ => ⟨fun z => absurd z (by decide), fun _ => ⟨vc, fun z => absurd z n5, fun _ => ⟨vc, h2⟩⟩⟩, fun z => absurd mk z⟩
    · by_cases h4 : kc c = 4
      · obtain ⟨mk, a, b, p0, p1, p2, p3, p4, p5⟩ := H.mk Uc h4
        have lb := H.lt p5
        have m3 : ¬ km (π c) = 3 := by rw [mk]; decide
        obtain ⟨rl, -⟩ := hrk c b Uc (by omega) (Or.inr h4) p3
        obtain ⟨t, t1, t2⟩ := ih b (n + 1) (c :: V) (by omega) p5 (hnc.edg ⟨by omega, Or.inr h4, p3⟩) (List.nodup_cons.mpr ⟨fun z => absurd (hV c z).2.2 (by omega), nd⟩) (by show n + 1 ≤ V.length + 1; omega) (fun x hx => by
          rcases List.mem_cons.mp hx with z | z
          · rw [z]; exact ⟨Or.inr h4, l1, rl⟩
          · exact ⟨(hV x z).1, (hV x z).2.1, by have := (hV x z).2.2; omega⟩)
        refine ⟨t, fun post hp => ⟨fun z => absurd z nle, fun _ => H.isPair Uc (fun z => absurd z hk) (fun _ => ⟨fun _ => ⟨vcs, ?_⟩, fun z => absurd rfl z⟩)⟩, fun st s e d post hp => ?_⟩
        · rw [ecs]
          refine ⟨fun z => absurd z n3, fun _ => ⟨vcs, fun _ => ⟨fun z => absurd z (by decide), fun _ => H.isPair Uc (fun z => absurd z hk) (fun _ => ⟨fun _ => ⟨vcs, ?_⟩, fun z => absurd rfl z⟩)⟩, fun z => absurd h4 z⟩⟩
          rw [ecs, p3, nI_1, nI_1]
          exact t1 post hp
        · have h2 := t2 st s e d post hp
          unfold wp_Model_depth_L48 wp_Model_depth_J73 wp_Model_depth_J88 wp_Model_depth_J95
          rw [ec, p4, nI_1]
          exact ⟨vc, fun z => absurd z m3, fun _ => ⟨fun _ => ⟨vc, fun _ => ⟨fun z => absurd z (by decide), fun _ => ⟨vc, fun _ => ⟨vc, h2⟩, fun z => absurd mk z⟩⟩, fun z => absurd mk z⟩, fun z => absurd rfl z⟩⟩
      · have mk : ¬ km (π c) = 3 ∧ ¬ km (π c) = 5 := by
          obtain ⟨k, k1, k2, k3⟩ := H.kind Uc
          refine ⟨fun z => ?_, fun z => ?_⟩
          · have : k + 1 = 3 := (nI_eq (b := 3) (by omega) (by decide)).mp (k3.symm.trans z)
            exact hk (by rw [k2, show k = 2 by omega]; rfl)
          · have : k + 1 = 5 := (nI_eq (b := 5) (by omega) (by decide)).mp (k3.symm.trans z)
            exact h4 (by rw [k2, show k = 4 by omega]; rfl)
        refine ⟨n, fun post hp => ⟨fun z => absurd z nle, fun _ => H.isPair Uc (fun z => absurd z hk) (fun _ => ⟨fun _ => ⟨vcs, ?_⟩, fun z => absurd rfl z⟩)⟩, fun st s e d post hp => ?_⟩
        · rw [ecs]
          exact ⟨fun z => absurd z n3, fun _ => ⟨vcs, fun z => absurd z h4, fun _ => ⟨fun _ => hp, fun z => absurd rfl z⟩⟩⟩
        · unfold wp_Model_depth_L48
          rw [ec]
          exact ⟨vc, fun z => absurd z mk.1, fun _ => ⟨fun _ => ⟨vc, fun z => absurd z mk.2, fun _ => hp⟩, fun z => absurd rfl z⟩⟩
end
section
variable {bk sz : Nat} {psz clc cS cE cD cX cT cP cF cG cfc mU mT mF mP mX mS mE mD mG : Int32} {pwo op x1 x2 fx cons fre kc lc rc cn km lm rm tk : Nat → Int32} {PN : Prop}
theorem depth_both {HQ : Prop} (hQ : HQ) (R : RUN bk sz psz pwo op x1 x2 fx clc cS cE cD cX cT cP cF cG cons cfc fre kc lc rc mU mT mF mP mX mS mE mD mG cn km lm rm tk PN) {x : Int32} {PM : Int32 → Int32 → Prop} (hJ : ∀ r, PM r r) : wp_Secd_depth sz sz cS cE cD cT (nI sz) kc rc x (fun r => HQ ∧ wp_Model_depth mT mS mE mD km rm x (PM r)) := by
  unfold wp_Secd_depth wp_Machine_hasNoRun wp_Model_depth
  rcases R with ⟨h1, h2⟩ | ⟨cd, n, nco, f, s, e, d, pc, st, π, s1, s2, s3, s4, s5, ⟨H, Us, Ue, Ud, hcn, hT, hT2, hnc⟩, ⟨r1, r2, r3, r4, r5, r6, r7⟩, ⟨m1, m2, m3, m4, m5, m6⟩, -⟩
  · rw [h1, h2]
    exact ⟨fun _ => ⟨fun z => absurd z (by decide), fun _ => ⟨hQ, fun _ => hJ _, fun z => absurd rfl z⟩⟩, fun z => absurd rfl z⟩
  · subst r2 r3 r4 r6 m2 m4 m5 m6
    have nst : ¬ nI st = 0 := nI_ne0 (by omega) (by omega)
    obtain ⟨rk, hrk⟩ := H.2.2.2.2.2.2.2.2.2
    refine ⟨fun z => absurd z nst, fun _ => ⟨fun _ => ⟨fun z => ?_, fun z0 => ⟨fun z => ?_, fun z1 => ⟨fun z => ?_, fun z2 => ?_⟩⟩⟩, fun z => absurd rfl z⟩⟩
    · subst z
      obtain ⟨t, t1, t2⟩ := pairs_both H hrk (rk s + 1) s [] (by omega) Us List.nodup_nil (fun x hx => (List.not_mem_nil hx).elim)
      exact ⟨_, t1 _ ⟨hQ, fun z => absurd z nst, fun _ => ⟨fun z => absurd z (by decide), fun _ => ⟨fun _ => ⟨fun _ => ⟨_, t2 _ _ _ _ 0 _ (by omega) (hJ _)⟩, fun z => absurd rfl z⟩, fun z => absurd (by decide) z⟩⟩⟩⟩
    · subst z
      obtain ⟨t, t1, t2⟩ := pairs_both H hrk (rk e + 1) e [] (by omega) Ue List.nodup_nil (fun x hx => (List.not_mem_nil hx).elim)
      exact ⟨_, t1 _ ⟨hQ, fun z => absurd z nst, fun _ => ⟨fun z => absurd z (by decide), fun _ => ⟨fun _ => ⟨fun z => absurd z (by decide), fun _ => ⟨fun _ => ⟨_, t2 _ _ _ _ 1 _ (by omega) (hJ _)⟩, fun z => absurd rfl z⟩⟩, fun z => absurd (by decide) z⟩⟩⟩⟩
    · subst z
      obtain ⟨t, t1, t2⟩ := marks_both H hrk (rk d + 1) d 0 [] (by omega) Ud hnc List.nodup_nil (by omega) (fun x hx => (List.not_mem_nil hx).elim)
      exact ⟨_, t1 _ ⟨hQ, fun z => absurd z nst, fun _ => ⟨fun z => absurd z (by decide), fun _ => ⟨fun _ => ⟨fun z => absurd z (by decide), fun _ => ⟨fun z => absurd z (by decide), fun _ => ⟨_, t2 _ _ _ _ _ (hJ _)⟩⟩⟩, fun z => absurd (by decide) z⟩⟩⟩⟩
    · refine ⟨hQ, fun z => absurd z nst, fun _ => ⟨fun _ => hJ _, fun c => ⟨fun c2 => ?_, fun _ => hJ _⟩⟩⟩
      obtain ⟨j, j1, j2⟩ := nI_of2 (n := 2) rfl c c2
      exfalso
      rcases (show j = 0 ∨ j = 1 ∨ j = 2 by omega) with rfl | rfl | rfl
      · exact z0 j2
      · exact z1 j2
      · exact z2 j2
theorem live_both (R : RUN bk sz psz pwo op x1 x2 fx clc cS cE cD cX cT cP cF cG cons cfc fre kc lc rc mU mT mF mP mX mS mE mD mG cn km lm rm tk PN) (hbk : bk < 2) {rn : Int32} {ir rw w : Nat → Int32} {PM : Int32 → Int32 → (Nat → Int32) → (Nat → Int32) → Int32 → (Nat → Int32) → Prop} (hJ : ∀ r rn' ir' rw' w', PM r rn' ir' rw' r w') : wp_Secd_live sz sz sz sz sz clc cS cE cD cT cons (nI sz) rn ir kc lc rw rc (fun a1 a2 a3 a4 => wp_Model_live (nI bk) (nI sz) mT mS mE mD cn fx km lm w rm (PM a1 a2 a3 a4)) := by
  unfold wp_Secd_live wp_Machine_hasNoRun wp_Model_live
  rcases R with ⟨h1, h2⟩ | ⟨cd, n, nco, f, s, e, d, pc, st, π, s1, s2, s3, s4, s5, ⟨H, Us, Ue, Ud, hcn, hT, hT2, hnc⟩, ⟨r1, r2, r3, r4, r5, r6, r7⟩, ⟨m1, m2, m3, m4, m5, m6⟩, -⟩
  · rw [h1, h2]
    exact ⟨fun _ => ⟨fun z => absurd z (by decide), fun _ => ⟨fun _ => hJ _ _ _ _ _, fun z => absurd rfl z⟩⟩, fun z => absurd rfl z⟩
  · subst r1 r2 r3 r4 r6 m2 m4 m5 m6
    have nst : ¬ nI st = 0 := nI_ne0 (by omega) (by omega)
    have hU := H.rchU Us Ue Ud hcn.1
    obtain ⟨L, ir', rw', q1, q2, q3, q4⟩ := q_reachLive H Us Ue Ud s3 hcn.1 rn ir rw
    obtain ⟨w', w1, w2, w3⟩ := q_mreach H Us Ue Ud s3 hcn.1 hcn.2 hbk s4 w
    have LX : ∀ c, c ∈ L ↔ RCH kc lc rc (ROOT cons nco s e d) c := fun c => ⟨fun z => (q1.2.1 c z).2, fun z => z (fun c => c ∈ L) q2 (fun c a hc ha => q3 c hc a ha)⟩
    have ce := live_count H hU q1.1 LX w1
    refine ⟨fun z => absurd z nst, fun _ => ⟨fun _ => q4 _ ⟨fun z => absurd z nst, fun _ => w3 _ ?_⟩, fun z => absurd rfl z⟩⟩
    rw [ce]
    exact hJ _ _ _ _ _
theorem cycles_both (R : RUN bk sz psz pwo op x1 x2 fx clc cS cE cD cX cT cP cF cG cons cfc fre kc lc rc mU mT mF mP mX mS mE mD mG cn km lm rm tk PN) (hs : sz ≤ 200) {PM : Int32 → Int32 → Prop} (hJ : ∀ r, PM r r) :
    wp_Secd_status cT (fun r => wp_Model_status mT (PM r)) ∧ wp_Secd_cycles cT cP (fun r => wp_Model_cycles mT mP (PM r)) ∧ wp_Secd_address cX cT (fun r => wp_Model_address mT mX (PM r)) ∧ wp_Secd_used cT (nI sz) cfc (fun r => wp_Model_used mU mT (PM r)) ∧ wp_Secd_collections cT cG (fun r => wp_Model_collections mT mG (PM r)) := by
  unfold wp_Secd_status wp_Model_status wp_Secd_cycles wp_Machine_hasNoRun wp_Model_cycles wp_Secd_address wp_Model_address wp_Secd_used wp_Model_used wp_Secd_collections wp_Model_collections wp_Machine_hasNoRun
  rcases R with ⟨h1, h2⟩ | ⟨cd, n, nco, f, s, e, d, pc, st, π, s1, s2, s3, s4, s5, ⟨H, -⟩, ⟨r1, r2, r3, r4, r5, r6, r7⟩, ⟨m1, m2, m3, m4, m5, m6⟩, e1, e2, e3, -⟩
  · rw [h1, h2]
    have no : ∀ z : Int32, ((0 : Int32) = 0 → (((1 : Int32) = 0 → ((0 : Int32) = 0 → PM z (-1)) ∧ (¬ (0 : Int32) = 0 → PM z z)) ∧ (¬ (1 : Int32) = 0 → True))) := fun z _ => ⟨fun y => absurd y (by decide), fun _ => trivial⟩
    exact ⟨hJ _, ⟨fun _ => ⟨fun z => absurd z (by decide), fun _ => ⟨fun _ => hJ _, fun z => absurd rfl z⟩⟩, fun z => absurd rfl z⟩, ⟨fun _ => ⟨fun z => absurd z (by decide), fun _ => ⟨fun _ => hJ _, fun z => absurd rfl z⟩⟩, fun z => absurd rfl z⟩, ⟨fun _ => ⟨fun z => absurd z (by decide), fun _ => ⟨fun _ => hJ _, fun z => absurd rfl z⟩⟩, fun z => absurd rfl z⟩, ⟨fun _ => ⟨fun z => absurd z (by decide), fun _ => ⟨fun _ => hJ _, fun z => absurd rfl z⟩⟩, fun z => absurd rfl z⟩⟩
  · subst r5 r6 r7 m1 m2 m3 e1 e3
    have nst : ¬ nI st = 0 := nI_ne0 (by omega) (by omega)
    have lf := H.2.2.1
    have sub : nI sz - nI f = nI (sz - f) := pk_sub (by omega)
    rw [sub]
    exact ⟨hJ _, ⟨fun z => absurd z nst, fun _ => ⟨fun _ => ⟨fun z => absurd z nst, fun _ => hJ _⟩, fun z => absurd rfl z⟩⟩, ⟨fun z => absurd z nst, fun _ => ⟨fun _ => ⟨fun z => absurd z nst, fun _ => hJ _⟩, fun z => absurd rfl z⟩⟩, ⟨fun z => absurd z nst, fun _ => ⟨fun _ => ⟨fun z => absurd z nst, fun _ => hJ _⟩, fun z => absurd rfl z⟩⟩, ⟨fun z => absurd z nst, fun _ => ⟨fun _ => ⟨fun z => absurd z nst, fun _ => hJ _⟩, fun z => absurd rfl z⟩⟩⟩
end
