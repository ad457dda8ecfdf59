/-! one step of a run, both -/
def MST (cd : Nat → Nat × Nat × Nat) (n nco sz : Nat) (fre cons cn : Nat → Int32) (f s e d pc st : Nat) (kc lc rc tk km lm rm : Nat → Int32) (π : Nat → Nat) : Prop := HP sz f fre kc lc rc tk km lm rm π (fun a => GOOD cd n nco a 0 0 [] true false) ∧ US sz f fre s ∧ US sz f fre e ∧ US sz f fre d ∧ CNS sz f fre cons cn π nco ∧ (st = 1 → TYP cd n nco (US sz f fre) kc lc rc s e d pc ∧ ∀ k c, k ≤ nco → c < 200 → cons k = nI c → PL kc lc rc c) ∧ (st = 2 → PL kc lc rc s ∧ kc s = 2) ∧ NC kc rc d
/-- the program's lines on both sides -/
def COD (cd : Nat → Nat × Nat × Nat) (n bk : Nat) (psz : Int32) (pwo op x1 x2 : Nat → Int32) : Prop := n ≤ 401 ∧ psz = nI n ∧ ∀ a, a < n → pwo a = wd (cd a) ∧ op (512 * bk + a) = nI (cd a).1 ∧ x1 (512 * bk + a) = nI (cd a).2.1 ∧ x2 (512 * bk + a) = nI (cd a).2.2
def cyc (o x y : Nat) : Int32 := if o = 0 then (cycL.getD 0 0 + nI x) + nI y else cycL.getD o 0
theorem tables_20 : ∀ o, o ≤ 20 → celL.getD o 0 = nI (takesN.getD o 0) ∧ takesN.getD o 0 ≤ 4 := by decide
theorem q_cycles {o x y : Nat} {post : Int32 → Prop} (ho : o ≤ 20) (hx : x < 512) (hy : y < 512) (hp : post (cyc o x y)) : wp_Op_cyclesOf (wd (o, x, y)) post := by
  unfold wp_Op_cyclesOf
  refine word_op ho hx hy ⟨fun z => ?_, fun z => ?_⟩
  · have e : o = 0 := (nI_eq (b := 0) (by omega) (by decide)).mp z
    unfold cyc at hp
    rw [if_pos e] at hp
    exact ⟨(vp_in_nI (n := 0) (by decide) (by decide) : vp_in (nI 0) 21), word_first ho hx hy (word_second ho hx hy hp)⟩
  · have e : ¬ o = 0 := fun z2 => z (by rw [z2]; rfl)
    unfold cyc at hp
    rw [if_neg e] at hp
    rw [nI_clamp (n := o) (by omega)]
    exact ⟨vp_in_nI (by omega) (by decide), hp⟩
theorem q_cellsOf {o x y : Nat} {post : Int32 → Prop} (ho : o ≤ 20) (hx : x < 512) (hy : y < 512) (hp : post (nI (takesN.getD o 0))) : wp_Op_cellsOf (wd (o, x, y)) post := by
  unfold wp_Op_cellsOf
  refine word_op ho hx hy ?_
  rw [nI_clamp (n := o) (by omega), (tables_20 o ho).1]
  exact ⟨vp_in_nI (by omega) (by decide), hp⟩
section
variable {cd : Nat → Nat × Nat × Nat} {n nco sz f bk : Nat} {fre kc lc rc tk km lm rm cons cn fx op x1 x2 pwo costs takes : Nat → Int32} {π : Nat → Nat} {s e d pc : Nat} {psz : Int32}
theorem after_room (M : MST cd n nco sz fre cons cn f s e d pc 1 kc lc rc tk km lm rm π) (hC : COD cd n bk psz pwo op x1 x2) (hbk : bk < 2) (hnco : nco ≤ 200) (hco : ∀ k, k < 21 → costs k = cycL.getD k 0) (hroom : takesN.getD (cd pc).1 0 ≤ f) (sp fuel co : Int32) :
    ∃ (st' f' s' e' d' pc' : Nat) (sp' : Int32) (kc' lc' rc' tk' km' lm' rm' : Nat → Int32) (π' : Nat → Nat), 1 ≤ st' ∧ st' ≤ 9 ∧ MST cd n nco sz fre cons cn f' s' e' d' pc' st' kc' lc' rc' tk' km' lm' rm' π' ∧
      (∀ post : Int32 → Int32 → Int32 → Int32 → Int32 → Int32 → Int32 → (Nat → Int32) → (Nat → Int32) → (Nat → Int32) → Prop, post (nI s') (nI e') (nI d') (nI pc') (nI st') sp' (nI f') kc' lc' rc' → wp_Op_cyclesOf (wd (cd pc)) (fun r_13 => wp_Machine_execute sz sz sz sz (nI nco) (nI s) (nI e) (nI d) (nI pc + 1) 1 cons (nI f) fre kc lc rc (wd (cd pc)) (fun i_s_14 i_e_15 i_d_16 i_next_17 i_state_18 fc_19 kc_20 lc_21 rc_22 => ((i_state_18 = (1 : Int32) → (post i_s_14 i_e_15 i_d_16 i_next_17 i_state_18 (sp + r_13) fc_19 kc_20 lc_21 rc_22)) ∧ (¬ i_state_18 = (1 : Int32) → (post i_s_14 i_e_15 i_d_16 (nI pc) i_state_18 (sp + r_13) fc_19 kc_20 lc_21 rc_22)))))) ∧
      (∀ (B25 : Int32 → Int32 → Int32 → Int32 → Int32 → Int32 → Int32 → Int32 → Int32 → Int32 → Int32 → (Nat → Int32) → (Nat → Int32) → (Nat → Int32) → (Nat → Int32) → (Nat → Int32) → Prop) (post : Int32 → Int32 → Int32 → Int32 → Int32 → Int32 → Int32 → Int32 → Int32 → (Nat → Int32) → (Nat → Int32) → (Nat → Int32) → (Nat → Int32) → (Nat → Int32) → Prop) (v1 v2 v3 : Int32) (w : Nat → Int32), B25 v1 (v2 + 1) (v3 + 1) (nI (sz - f')) (nI st') sp' (nI pc') (nI (π' s')) (nI (π' e')) (nI (π' d')) co km' lm' w rm' tk' → wp_Model_run_J104 (nI bk) (nI sz) fuel cn costs fx op takes x1 x2 B25 post v1 v2 v3 (nI (512 * bk + pc)) (nI (takesN.getD (cd pc).1 0)) (nI (sz - f)) 1 sp (nI pc) (nI (π s)) (nI (π e)) (nI (π d)) co km lm w rm tk) := by
  obtain ⟨H, Us, Ue, Ud, hcn, hT, hT2, hnc⟩ := M
  obtain ⟨c1, c2, c3⟩ := hC
  obtain ⟨T, hpl⟩ := hT rfl
  have hg := T
  obtain ⟨ρ, h, q, js, fn, rap, kk, g, -⟩ := hg
  obtain ⟨g1, g2, g3, g4, -⟩ := g.elim
  obtain ⟨w1, w2, w3, w4⟩ := c3 pc g1
  have lsz := H.2.1
  have lf := H.2.2.1
  obtain ⟨st', f', s', e', d', pc', nx, kc', lc', rc', tk', km', lm', rm', π', q1, q2, q3, q4, q5, q5n, q6, q7, q8, q9, q10, q11, q12⟩ := exec_both (cons := cons) (cn := cn) H Us Ue Ud T (by omega) hnco (fun a => Iff.rfl) hcn.1 hpl hroom
  refine ⟨st', f', s', e', d', pc', sp + cyc (cd pc).1 (cd pc).2.1 (cd pc).2.2, kc', lc', rc', tk', km', lm', rm', π', q7, q8, ⟨q1, q2, q3, q4, ⟨fun k hk => ?_, hcn.2⟩, fun z => ⟨(q9 z).2, fun k c hk hc e => ?_⟩, fun z => ⟨(q10 (by omega)).2.1, (q10 (by omega)).2.2 z⟩, q5n hnc⟩, fun post hp => ?_, fun B25 post v1 v2 v3 w hp => ?_⟩
  · obtain ⟨c, k1, k2, k3⟩ := hcn.1 k hk
    exact ⟨c, (q5 c k1).1, k2, by rw [k3, (q5 c k1).2.1]⟩
  · obtain ⟨c0, k1, k2, k3⟩ := hcn.1 k hk
    have l0 := H.lt k1
    have e0 : c0 = c := (nI_eq (by omega) (by omega)).mp (k2.symm.trans e)
    rw [← e0]
    exact (q5 c0 k1).2.2 (hpl k c0 hk (by omega) k2)
  · refine q_cycles g2 g3 g4 ?_
    rw [nI_1]
    refine q11 _ ⟨fun z => ?_, fun z => ?_⟩
    · have e1 : st' = 1 := (nI_eq (b := 1) (by omega) (by decide)).mp z
      rw [(q9 e1).1]
      exact hp
    · have e1 : ¬ st' = 1 := fun y => z (by rw [y]; rfl)
      rw [(q10 e1).1] at hp
      exact hp
  · have va : vp_in (nI (512 * bk + pc)) 1024 := vp_in_nI (by omega) (by decide)
    have vo : vp_in (nI (cd pc).1) 21 := vp_in_nI (by omega) (by decide)
    have sub : nI sz - nI (sz - f) = nI f := by rw [pk_sub (by omega), show sz - (sz - f) = f by omega]
    unfold wp_Model_run_J104 wp_Model_run_J173 wp_Model_run_J209
    rw [nI_clamp (n := 512 * bk + pc) (by omega), w2, w3, w4, sub, nI_clamp (n := (cd pc).1) (by omega), hco _ (by omega)]
    have fin : ∀ y0 : Int32, sp + cycL.getD (cd pc).1 0 + y0 = sp + cyc (cd pc).1 (cd pc).2.1 (cd pc).2.2 → wp_Model_step (nI sz) (nI (sz - f)) (nI pc) (nI (π s)) (nI (π e)) (nI (π d)) cn km lm rm tk (nI (cd pc).1) (nI (cd pc).2.1) (nI (cd pc).2.2) (fun r_7 used_8 i_pc_9 i_s_10 i_e_11 i_d_12 km_13 lm_14 rm_15 tk_16 => B25 v1 (v2 + (1 : Int32)) (v3 + (1 : Int32)) used_8 r_7 (sp + cycL.getD (cd pc).1 0 + y0) i_pc_9 i_s_10 i_e_11 i_d_12 co km_13 lm_14 w rm_15 tk_16) := fun y0 hy => by
      rw [hy]
      exact q12 _ hp
    refine ⟨fun _ => ⟨va, vo, va, fun z => ⟨va, va, va, va, va, fin _ ?_⟩, fun z => ⟨va, va, va, fin _ ?_⟩⟩, fun z => absurd (nI_le hroom (by omega)) z⟩
    · have e0 : (cd pc).1 = 0 := (nI_eq (b := 0) (by omega) (by decide)).mp z
      unfold cyc
      rw [if_pos e0, e0, Int32.add_assoc, Int32.add_assoc]
    · have e0 : ¬ (cd pc).1 = 0 := fun y => z (by rw [y]; rfl)
      unfold cyc
      rw [if_neg e0, Int32.add_zero]
theorem step_both (M : MST cd n nco sz fre cons cn f s e d pc 1 kc lc rc tk km lm rm π) (hC : COD cd n bk psz pwo op x1 x2) (hbk : bk < 2) (hnco : nco ≤ 200) (hfx : fx bk = nI nco) (hco : ∀ k, k < 21 → costs k = cycL.getD k 0) (hta : ∀ k, k < 21 → takes k = celL.getD k 0) (sp fuel co rn : Int32) (ir rw w : Nat → Int32) :
    ∃ (dn st' f' s' e' d' pc' : Nat) (sp' co' rn' : Int32) (fre' ir' rw' kc' lc' rc' tk' km' lm' rm' w' : Nat → Int32) (π' : Nat → Nat), dn ≤ 1 ∧ 1 ≤ st' ∧ st' ≤ 9 ∧ (st' = 2 → dn = 1) ∧ MST cd n nco sz fre' cons cn f' s' e' d' pc' st' kc' lc' rc' tk' km' lm' rm' π' ∧
      (∀ post : Int32 → Int32 → Int32 → Int32 → Int32 → Int32 → Int32 → Int32 → Int32 → Int32 → (Nat → Int32) → (Nat → Int32) → (Nat → Int32) → (Nat → Int32) → (Nat → Int32) → (Nat → Int32) → Prop, post (nI dn) (nI s') (nI e') (nI d') (nI pc') (nI st') sp' co' (nI f') rn' fre' ir' kc' lc' rw' rc' → wp_Machine_step sz sz sz sz sz sz (nI nco) (nI s) (nI e) (nI d) (nI pc) 1 sp fuel co cons (nI sz) (nI f) rn fre ir kc lc rw rc psz pwo post) ∧
      (∀ (fu : Nat) (v1 v2 v3 : Int32) (post : Int32 → Int32 → Int32 → Int32 → Int32 → Int32 → Int32 → Int32 → Int32 → (Nat → Int32) → (Nat → Int32) → (Nat → Int32) → (Nat → Int32) → (Nat → Int32) → Prop), ¬ v1 ≤ v3 → wp_Model_run_L25 (nI bk) (nI sz) fuel cn costs fx op takes x1 x2 post fu v1 (v2 + nI dn) (v3 + 1) (nI (sz - f')) (nI st') sp' (nI pc') (nI (π' s')) (nI (π' e')) (nI (π' d')) co' km' lm' w' rm' tk' → wp_Model_run_L25 (nI bk) (nI sz) fuel cn costs fx op takes x1 x2 post (fu + 1) v1 v2 v3 (nI (sz - f)) 1 sp (nI pc) (nI (π s)) (nI (π e)) (nI (π d)) co km lm w rm tk) := by
  have M0 := M
  obtain ⟨H, Us, Ue, Ud, hcn, hT, hT2, hnc⟩ := M
  obtain ⟨T, hpl⟩ := hT rfl
  have hg := T
  obtain ⟨ρ, h, q, js, fn, rap, kk, g, -⟩ := hg
  obtain ⟨g1, g2, g3, g4, -⟩ := g.elim
  obtain ⟨c1, c2, c3⟩ := hC
  obtain ⟨w1, w2, w3, w4⟩ := c3 pc g1
  have lsz := H.2.1
  have lf := H.2.2.1
  obtain ⟨tb1, tb2⟩ := tables_20 _ g2
  have ea : (512 : Int32) * nI bk + nI pc = nI (512 * bk + pc) := by
    rw [show (512 : Int32) * nI bk = nI (512 * bk) from pk_mul 512 _, nI_add]
  have va : vp_in (nI (512 * bk + pc)) 1024 := vp_in_nI (by omega) (by decide)
  have vo : vp_in (nI (cd pc).1) 21 := vp_in_nI (by omega) (by decide)
  have sub : nI sz - nI (sz - f) = nI f := by rw [pk_sub (by omega), show sz - (sz - f) = f by omega]
  -- the word at the next line
  have word : ∀ P : Int32 → Prop, P (wd (cd pc)) → wp_Program_wordAt psz pwo (nI pc) P := fun P hP => by
    refine ⟨fun z => absurd z (nI_pos (by omega)), fun _ => ⟨fun z => ?_, fun _ => ⟨vp_in_nI (by omega) (by decide), ?_⟩⟩⟩
    · rw [c2] at z
      exact absurd z (nI_ge g1 (by omega))
    · rw [nI_clamp (n := pc) (by omega), w1]
      exact hP
  -- the reference up to its first question
  have mstart : ∀ (fu : Nat) (v1 v2 v3 : Int32) (post : Int32 → Int32 → Int32 → Int32 → Int32 → Int32 → Int32 → Int32 → Int32 → (Nat → Int32) → (Nat → Int32) → (Nat → Int32) → (Nat → Int32) → (Nat → Int32) → Prop), ¬ v1 ≤ v3 → ((sp < fuel → (((nI (takesN.getD (cd pc).1 0) ≤ nI f → (wp_Model_run_J104 (nI bk) (nI sz) fuel cn costs fx op takes x1 x2 (wp_Model_run_L25 (nI bk) (nI sz) fuel cn costs fx op takes x1 x2 post fu) post v1 v2 v3 (nI (512 * bk + pc)) (nI (takesN.getD (cd pc).1 0)) (nI (sz - f)) 1 sp (nI pc) (nI (π s)) (nI (π e)) (nI (π d)) co km lm w rm tk)) ∧ (¬ nI (takesN.getD (cd pc).1 0) ≤ nI f → (wp_Model_collect (nI bk) (nI sz) (nI (sz - f)) sp (nI (π s)) (nI (π e)) (nI (π d)) co cn fx km lm w rm tk (fun used_31 i_spent_32 i_rounds_33 f_reached_34 tk_35 => wp_Model_run_J104 (nI bk) (nI sz) fuel cn costs fx op takes x1 x2 (wp_Model_run_L25 (nI bk) (nI sz) fuel cn costs fx op takes x1 x2 post fu) post v1 v2 v3 (nI (512 * bk + pc)) (nI (takesN.getD (cd pc).1 0)) used_31 1 i_spent_32 (nI pc) (nI (π s)) (nI (π e)) (nI (π d)) i_rounds_33 km lm f_reached_34 rm tk_35)))))) ∧ (¬ sp < fuel → (wp_Model_run_L25 (nI bk) (nI sz) fuel cn costs fx op takes x1 x2 post fu v1 v2 (v3 + 1) (nI (sz - f)) 3 sp (nI pc) (nI (π s)) (nI (π e)) (nI (π d)) co km lm w rm tk))) → wp_Model_run_L25 (nI bk) (nI sz) fuel cn costs fx op takes x1 x2 post (fu + 1) v1 v2 v3 (nI (sz - f)) 1 sp (nI pc) (nI (π s)) (nI (π e)) (nI (π d)) co km lm w rm tk := fun fu v1 v2 v3 post hv hp => by
    refine ⟨fun z => absurd z hv, fun _ => ⟨fun _ => ?_, fun z => absurd rfl z⟩⟩
    rw [ea, nI_clamp (n := 512 * bk + pc) (by omega), w2, nI_clamp (n := (cd pc).1) (by omega), hta _ (by omega), tb1, sub]
    refine ⟨va, vo, fun x5 hx5 => ?_⟩
    subst hx5
    exact hp
  have add0 : ∀ v2 : Int32, v2 + nI 0 = v2 := fun v2 => Int32.add_zero v2
  by_cases hfu : sp < fuel
  · by_cases hroom : takesN.getD (cd pc).1 0 ≤ f
    · obtain ⟨st', f', s', e', d', pc', sp', kc', lc', rc', tk', km', lm', rm', π', q1, q2, q3, q4, q5⟩ := after_room (fx := fx) (takes := takes) M0 ⟨c1, c2, c3⟩ hbk hnco hco hroom sp fuel co
      refine ⟨1, st', f', s', e', d', pc', sp', co, rn, fre, ir, rw, kc', lc', rc', tk', km', lm', rm', w, π', by omega, q1, q2, fun _ => rfl, q3, fun post hp => ⟨fun _ => word _ (q_cellsOf g2 g3 g4 ⟨fun _ => ⟨fun z => absurd z (nI_nlt hroom (by omega)), fun _ => ⟨fun z => absurd z (by decide), fun _ => q4 (fun i_s_14 i_e_15 i_d_16 i_next_17 i_state_18 i_spent fc_19 kc_20 lc_21 rc_22 => post 1 i_s_14 i_e_15 i_d_16 i_next_17 i_state_18 i_spent co fc_19 rn fre ir kc_20 lc_21 rw rc_22) hp⟩⟩, fun z => absurd (nI_le hroom (by omega)) z⟩), fun z => absurd hfu z⟩, fun fu v1 v2 v3 post hv hp => mstart fu v1 v2 v3 post hv ⟨fun _ => ⟨fun _ => q5 _ _ v1 v2 v3 w hp, fun z => absurd (nI_le hroom (by omega)) z⟩, fun z => absurd hfu z⟩⟩
    · have nroom : ¬ nI (takesN.getD (cd pc).1 0) ≤ nI f := nI_ge (by omega) (by omega)
      obtain ⟨f1, m, fre1, ir1, rw1, tk1, w1', a1, a2, a3, a4, a5, a6, a7, a8, a9, a10, a11⟩ := collect_both H Us Ue Ud hnco hcn hbk hfx T rn ir rw w
      subst a7
      have sub1 : nI sz - nI (sz - f1) = nI f1 := by rw [pk_sub (by omega), show sz - (sz - f1) = f1 by omega]
      by_cases hr1 : takesN.getD (cd pc).1 0 ≤ f1
      · obtain ⟨st', f', s', e', d', pc', sp', kc', lc', rc', tk', km', lm', rm', π', q1, q2, q3, q4, q5⟩ := after_room (fx := fx) (takes := takes) (cn := cn) ⟨a1, a2, a3, a4, a5, fun _ => ⟨a6, hpl⟩, fun z => absurd z (by decide), hnc⟩ ⟨c1, c2, c3⟩ hbk hnco hco hr1 (sp + (nI sz + nI (sz - f1))) fuel (co + 1)
        refine ⟨1, st', f', s', e', d', pc', sp', co + 1, nI (sz - f1), fre1, ir1, rw1, kc', lc', rc', tk', km', lm', rm', w1', π', by omega, q1, q2, fun _ => rfl, q3, fun post hp => ⟨fun _ => word _ (q_cellsOf g2 g3 g4 ⟨fun z => absurd z nroom, fun _ => a9 _ (a10 _ _ ⟨fun z => absurd z (nI_nlt hr1 (by omega)), fun _ => ⟨fun z => absurd z (by decide), fun _ => q4 (fun i_s_14 i_e_15 i_d_16 i_next_17 i_state_18 i_spent fc_19 kc_20 lc_21 rc_22 => post 1 i_s_14 i_e_15 i_d_16 i_next_17 i_state_18 i_spent (co + 1) fc_19 (nI (sz - f1)) fre1 ir1 kc_20 lc_21 rw1 rc_22) hp⟩⟩)⟩), fun z => absurd hfu z⟩, fun fu v1 v2 v3 post hv hp => mstart fu v1 v2 v3 post hv ⟨fun _ => ⟨fun z => absurd z nroom, fun _ => a11 _ _ _ _ (q5 _ _ v1 v2 v3 w1' hp)⟩, fun z => absurd hfu z⟩⟩
      · have nr1 : ¬ nI (takesN.getD (cd pc).1 0) ≤ nI f1 := nI_ge (by omega) (by omega)
        refine ⟨0, 4, f1, s, e, d, pc, sp + (nI sz + nI (sz - f1)), co + 1, nI (sz - f1), fre1, ir1, rw1, kc, lc, rc, tk1, km, lm, rm, w1', π, by omega, by omega, by omega, fun z => absurd z (by decide), ⟨a1, a2, a3, a4, a5, fun z => absurd z (by decide), fun z => absurd z (by decide), hnc⟩, fun post hp => ⟨fun _ => word _ (q_cellsOf g2 g3 g4 ⟨fun z => absurd z nroom, fun _ => a9 _ (a10 _ _ ⟨fun _ => ⟨fun _ => hp, fun z => absurd rfl z⟩, fun z => absurd (nI_lt (by omega) (by omega)) z⟩)⟩), fun z => absurd hfu z⟩, fun fu v1 v2 v3 post hv hp => mstart fu v1 v2 v3 post hv ⟨fun _ => ⟨fun z => absurd z nroom, fun _ => a11 _ _ _ _ ?_⟩, fun z => absurd hfu z⟩⟩
        unfold wp_Model_run_J104 wp_Model_run_J209
        rw [sub1]
        rw [add0] at hp
        exact ⟨fun z => absurd z nr1, fun _ => hp⟩
  · refine ⟨0, 3, f, s, e, d, pc, sp, co, rn, fre, ir, rw, kc, lc, rc, tk, km, lm, rm, w, π, by omega, by omega, by omega, fun z => absurd z (by decide), ⟨H, Us, Ue, Ud, hcn, fun z => absurd z (by decide), fun z => absurd z (by decide), hnc⟩, fun post hp => ⟨fun z => absurd z hfu, fun _ => hp⟩, fun fu v1 v2 v3 post hv hp => mstart fu v1 v2 v3 post hv ⟨fun z => absurd z hfu, fun _ => ?_⟩⟩
    rw [add0] at hp
    exact hp
/-- at most m steps -/
theorem runs_both (hC : COD cd n bk psz pwo op x1 x2) (hbk : bk < 2) (hnco : nco ≤ 200) (hfx : fx bk = nI nco) (hco : ∀ k, k < 21 → costs k = cycL.getD k 0) (hta : ∀ k, k < 21 → takes k = celL.getD k 0) (fuel : Int32) (N : Nat) (hN : N ≤ 1000) : ∀ (m : Nat) (f s e d pc st : Nat) (fre kc lc rc tk km lm rm : Nat → Int32) (π : Nat → Nat) (sp co rn : Int32) (ir rw w : Nat → Int32), m ≤ N → 1 ≤ st → st ≤ 9 → MST cd n nco sz fre cons cn f s e d pc st kc lc rc tk km lm rm π →
    ∃ (D st' f' s' e' d' pc' : Nat) (sp' co' rn' : Int32) (fre' ir' rw' kc' lc' rc' tk' km' lm' rm' w' : Nat → Int32) (π' : Nat → Nat), D ≤ m ∧ 1 ≤ st' ∧ st' ≤ 9 ∧ (st' = 2 → st = 1 → 1 ≤ D) ∧ (¬ st = 1 → D = 0 ∧ st' = st ∧ f' = f ∧ s' = s ∧ fre' = fre ∧ kc' = kc ∧ lc' = lc ∧ rc' = rc ∧ tk' = tk ∧ km' = km ∧ lm' = lm ∧ rm' = rm ∧ π' = π) ∧ MST cd n nco sz fre' cons cn f' s' e' d' pc' st' kc' lc' rc' tk' km' lm' rm' π' ∧
      (∀ (mc ms : Nat) (pcd : Int32) (K33 : Int32 → Int32 → Int32 → Int32 → Int32 → Int32 → Int32 → Int32 → Int32 → Int32 → (Nat → Int32) → (Nat → Int32) → (Nat → Int32) → (Nat → Int32) → (Nat → Int32) → (Nat → Int32) → Int32 → Int32 → Nat → Nat → (Nat → Int32) → Nat → Nat → Prop) (post : Int32 → Int32 → Int32 → Int32 → Int32 → Int32 → Int32 → Int32 → Int32 → Int32 → (Nat → Int32) → (Nat → Int32) → (Nat → Int32) → (Nat → Int32) → (Nat → Int32) → (Nat → Int32) → Int32 → Int32 → Nat → Nat → (Nat → Int32) → Prop) (D0 : Nat) (b1 b2 : Int32) (b3 b4 : Nat) (b5 : Nat → Int32) (b6 b7 : Nat), K33 (nI (D0 + D)) (nI s') (nI e') (nI d') (nI pc') (nI st') sp' co' (nI f') rn' fre' ir' kc' lc' rw' rc' b1 b2 b3 b4 b5 b6 b7 → wp_Machine_advance_L4 mc ms sz sz sz sz sz sz (nI nco) fuel cons (nI sz) pcd psz pwo K33 post (m + 1) (nI N) (nI D0) (nI (N - m)) (nI s) (nI e) (nI d) (nI pc) (nI st) sp co (nI f) rn fre ir kc lc rw rc b1 b2 b3 b4 b5 b6 b7) ∧
      (∀ (D0 : Nat) (post : Int32 → Int32 → Int32 → Int32 → Int32 → Int32 → Int32 → Int32 → Int32 → (Nat → Int32) → (Nat → Int32) → (Nat → Int32) → (Nat → Int32) → (Nat → Int32) → Prop), post (nI (D0 + D)) (nI (sz - f')) (nI st') sp' (nI pc') (nI (π' s')) (nI (π' e')) (nI (π' d')) co' km' lm' w' rm' tk' → wp_Model_run_L25 (nI bk) (nI sz) fuel cn costs fx op takes x1 x2 post (m + 1) (nI N) (nI D0) (nI (N - m)) (nI (sz - f)) (nI st) sp (nI pc) (nI (π s)) (nI (π e)) (nI (π d)) co km lm w rm tk) := by
  intro m
  induction m with
  | zero =>
    intro f s e d pc st fre kc lc rc tk km lm rm π sp co rn ir rw w hm h1 h9 M
    exact ⟨0, st, f, s, e, d, pc, sp, co, rn, fre, ir, rw, kc, lc, rc, tk, km, lm, rm, w, π, by omega, h1, h9, fun z z2 => absurd (z.symm.trans z2) (by decide), fun _ => ⟨rfl, rfl, rfl, rfl, rfl, rfl, rfl, rfl, rfl, rfl, rfl, rfl, rfl⟩, M, fun mc ms pcd K33 post D0 b1 b2 b3 b4 b5 b6 b7 hp => ⟨fun _ => hp, fun z => absurd (Int32.le_refl _) z⟩, fun D0 post hp => ⟨fun _ => hp, fun z => absurd (Int32.le_refl _) z⟩⟩
  | succ m ih =>
    intro f s e d pc st fre kc lc rc tk km lm rm π sp co rn ir rw w hm h1 h9 M
    have nle : ¬ nI N ≤ nI (N - (m + 1)) := nI_ge (by omega) (by omega)
    by_cases hst : st = 1
    · subst hst
      obtain ⟨dn, st1, f1, s1, e1, d1, pc1, sp1, co1, rn1, fre1, ir1, rw1, kc1, lc1, rc1, tk1, km1, lm1, rm1, w1, π1, q0, q1, q2, q3, q4, q5, q6⟩ := step_both M hC hbk hnco hfx hco hta sp fuel co rn ir rw w
      obtain ⟨D, st', f', s', e', d', pc', sp', co', rn', fre', ir', rw', kc', lc', rc', tk', km', lm', rm', w', π', r0, r1, r2, r3, r3b, r4, r5, r6⟩ := ih f1 s1 e1 d1 pc1 st1 fre1 kc1 lc1 rc1 tk1 km1 lm1 rm1 π1 sp1 co1 rn1 ir1 rw1 w1 (by omega) q1 q2 q4
      have stay : st' = 2 → 1 ≤ dn + D := fun z => by
        by_cases e1 : st1 = 1
        · have := r3 z e1; omega
        · -- no step is done from a state that isn't running
          by_cases e2 : st1 = 2
          · have := q3 e2; omega
          · exact absurd ((r3b e1).2.1.symm.trans z) e2
      refine ⟨dn + D, st', f', s', e', d', pc', sp', co', rn', fre', ir', rw', kc', lc', rc', tk', km', lm', rm', w', π', by omega, r1, r2, fun z _ => stay z, fun z => absurd rfl z, r4, fun mc ms pcd K33 post D0 b1 b2 b3 b4 b5 b6 b7 hp => ⟨fun z => absurd z nle, fun _ => ⟨fun _ => q5 _ ⟨fun z => ?_, fun z => ?_⟩, fun z => absurd rfl z⟩⟩, fun D0 post hp => q6 _ _ _ _ _ nle ?_⟩
      · have e0 : dn = 0 := (nI_eq (b := 0) (by omega) (by decide)).mp z
        subst e0
        unfold wp_Machine_advance_J27
        rw [nI_1, show N - (m + 1) + 1 = N - m by omega]
        exact r5 mc ms pcd K33 post D0 b1 b2 b3 b4 b5 b6 b7 (by rw [Nat.zero_add] at hp; exact hp)
      · have e0 : dn = 1 := by
          by_cases y : dn = 0
          · exact absurd (by rw [y]; rfl) z
          · omega
        subst e0
        unfold wp_Machine_advance_J27
        rw [nI_1, nI_1, show N - (m + 1) + 1 = N - m by omega]
        exact r5 mc ms pcd K33 post (D0 + 1) b1 b2 b3 b4 b5 b6 b7 (by rw [Nat.add_assoc]; exact hp)
      · rw [nI_add, nI_1, show N - (m + 1) + 1 = N - m by omega]
        exact r6 (D0 + dn) post (by rw [Nat.add_assoc]; exact hp)
    · have nst : ¬ nI st = 1 := fun z => hst ((nI_eq (b := 1) (by omega) (by decide)).mp z)
      exact ⟨0, st, f, s, e, d, pc, sp, co, rn, fre, ir, rw, kc, lc, rc, tk, km, lm, rm, w, π, by omega, h1, h9, fun z z2 => absurd z2 hst, fun _ => ⟨rfl, rfl, rfl, rfl, rfl, rfl, rfl, rfl, rfl, rfl, rfl, rfl, rfl⟩, M, fun mc ms pcd K33 post D0 b1 b2 b3 b4 b5 b6 b7 hp => ⟨fun z => absurd z nle, fun _ => ⟨fun z => absurd z nst, fun _ => hp⟩⟩, fun D0 post hp => ⟨fun z => absurd z nle, fun _ => ⟨fun z => absurd z nst, fun _ => hp⟩⟩⟩
end
