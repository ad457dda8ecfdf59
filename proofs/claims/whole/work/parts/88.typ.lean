/-! S, E and D as the code wants them -/
def SH (U : Nat → Prop) (kc rc : Nat → Int32) : Nat → Nat → Prop
  | _, 0 => True
  | s, h + 1 => U s ∧ kc s = 2 ∧ ∃ b, b < 200 ∧ rc s = nI b ∧ SH U kc rc b h
def EH (U ρ : Nat → Prop) (kc rc : Nat → Int32) : Nat → Nat → Prop
  | _, 0 => True
  | e, q + 1 => U e ∧ ¬ ρ e ∧ kc e = 2 ∧ ∃ b, b < 200 ∧ rc e = nI b ∧ EH U ρ kc rc b q
def DD (cd : Nat → Nat × Nat × Nat) (n nco : Nat) (U ρ : Nat → Prop) (kc lc rc : Nat → Int32) : Nat → Nat → List Nat → Bool → Prop
  | 0, _, _, _ => False
  | k + 1, d, z :: js, fn => U d ∧ kc d = 4 ∧ lc d = nI z ∧ ∃ b, b < 200 ∧ rc d = nI b ∧ DD cd n nco U ρ kc lc rc k b js fn
  | _ + 1, _, [], false => True
  | k + 1, d, [], true => U d ∧ kc d = 2 ∧ ρ d ∧ ∃ a b, a < 200 ∧ b < 200 ∧ lc d = nI a ∧ rc d = nI b ∧ U b ∧ kc b = 2 ∧ ρ b ∧ ∃ a2 b2, a2 < 200 ∧ b2 < 200 ∧ lc b = nI a2 ∧ rc b = nI b2 ∧ U b2 ∧ kc b2 = 4 ∧ ∃ ret d2, ret < 512 ∧ d2 < 200 ∧ lc b2 = nI ret ∧ rc b2 = nI d2 ∧ ∃ h q js fn, GOOD cd n nco ret (h + 1) q js fn false ∧ SH U kc rc a h ∧ EH U ρ kc rc a2 q ∧ DD cd n nco U ρ kc lc rc k d2 js fn
/-- what changes leaves the used cells as they are, but for the left of a pair that is no part of D -/
def STAY (U U' ρ ρ' : Nat → Prop) (kc lc rc kc' lc' rc' : Nat → Int32) : Prop := ∀ x, U x → U' x ∧ (ρ' x ↔ ρ x) ∧ kc' x = kc x ∧ rc' x = rc x ∧ (ρ x ∨ ¬ kc x = 2 → lc' x = lc x)
section
variable {cd : Nat → Nat × Nat × Nat} {n nco : Nat} {U U' ρ ρ' : Nat → Prop} {kc lc rc kc' lc' rc' : Nat → Int32}
theorem SH.to (h : STAY U U' ρ ρ' kc lc rc kc' lc' rc') : ∀ {k s : Nat}, SH U kc rc s k → SH U' kc' rc' s k
  | 0, _, _ => trivial
  | k + 1, s, z => by
    obtain ⟨z1, z2, b, z3, z4, z5⟩ := z
    obtain ⟨a1, a2, a3, a4, a5⟩ := h s z1
    exact ⟨a1, a3.trans z2, b, z3, a4.trans z4, SH.to h z5⟩
theorem EH.to (h : STAY U U' ρ ρ' kc lc rc kc' lc' rc') : ∀ {k s : Nat}, EH U ρ kc rc s k → EH U' ρ' kc' rc' s k
  | 0, _, _ => trivial
  | k + 1, s, z => by
    obtain ⟨z1, z0, z2, b, z3, z4, z5⟩ := z
    obtain ⟨a1, a2, a3, a4, a5⟩ := h s z1
    exact ⟨a1, fun y => z0 (a2.mp y), a3.trans z2, b, z3, a4.trans z4, EH.to h z5⟩
theorem DD.to (h : STAY U U' ρ ρ' kc lc rc kc' lc' rc') : ∀ {k d : Nat} {js : List Nat} {fn : Bool}, DD cd n nco U ρ kc lc rc k d js fn → DD cd n nco U' ρ' kc' lc' rc' k d js fn
  | 0, _, _, _, z => z
  | k + 1, d, x :: js, fn, z => by
    obtain ⟨z1, z2, z3, b, z4, z5, z6⟩ := z
    obtain ⟨a1, a2, a3, a4, a5⟩ := h d z1
    exact ⟨a1, a3.trans z2, (a5 (Or.inr (by rw [z2]; decide))).trans z3, b, z4, a4.trans z5, DD.to h z6⟩
  | _ + 1, _, [], false, _ => trivial
  | k + 1, d, [], true, z => by
    obtain ⟨z1, z2, z3, a, b, z4, z5, z6, z7, z8, z9, z10, a2, b2, z11, z12, z13, z14, z15, z16, ret, d2, z17, z18, z19, z20, hh, q, js, fn, z21, z22, z23, z24⟩ := z
    obtain ⟨p1, p2, p3, p4, p5⟩ := h d z1
    obtain ⟨q1, q2, q3, q4, q5⟩ := h b z8
    obtain ⟨r1, r2, r3, r4, r5⟩ := h b2 z15
    exact ⟨p1, p3.trans z2, p2.mpr z3, a, b, z4, z5, (p5 (Or.inl z3)).trans z6, p4.trans z7, q1, q3.trans z9, q2.mpr z10, a2, b2, z11, z12, (q5 (Or.inl z10)).trans z13, q4.trans z14, r1, r3.trans z16, ret, d2, z17, z18, (r5 (Or.inr (by rw [z16]; decide))).trans z19, r4.trans z20, hh, q, js, fn, z21, z22.to h, z23.to h, DD.to h z24⟩
/-- the machine is where the code wants it -/
def TYP (cd : Nat → Nat × Nat × Nat) (n nco : Nat) (U : Nat → Prop) (kc lc rc : Nat → Int32) (s e d pc : Nat) : Prop := ∃ (ρ : Nat → Prop) (h q : Nat) (js : List Nat) (fn rap : Bool) (k : Nat), GOOD cd n nco pc h q js fn rap ∧ SH U kc rc s h ∧ EH U ρ kc rc e q ∧ DD cd n nco U ρ kc lc rc k d js fn ∧ (rap = true → ∃ c, c < 200 ∧ lc s = nI c ∧ U c ∧ kc c = 3 ∧ rc c = nI e)
theorem SH.mono : ∀ {k s : Nat}, SH U kc rc s (k + 1) → SH U kc rc s k
  | 0, _, _ => trivial
  | k + 1, s, ⟨z1, z2, b, z3, z4, z5⟩ => ⟨z1, z2, b, z3, z4, SH.mono z5⟩
/-- a new cell, that may be one of D's pairs -/
theorem STAY.ext {π π' : Nat → Nat} {km lm rm km' lm' rm' : Nat → Int32} (h : EXT U U' π π' kc lc rc km lm rm kc' lc' rc' km' lm' rm') : STAY U U' ρ ρ kc lc rc kc' lc' rc' := fun x hx => by
  obtain ⟨a1, a2, a3, a4, a5, a6⟩ := h x hx
  exact ⟨a1, Iff.rfl, a3, a5, fun _ => a4⟩
theorem STAY.add {π π' : Nat → Nat} {km lm rm km' lm' rm' : Nat → Int32} {c : Nat} (h : EXT U U' π π' kc lc rc km lm rm kc' lc' rc' km' lm' rm') (hc : ¬ U c) : STAY U U' ρ (fun x => ρ x ∨ x = c) kc lc rc kc' lc' rc' := fun x hx => by
  obtain ⟨a1, a2, a3, a4, a5, a6⟩ := h x hx
  exact ⟨a1, ⟨fun z => by
    rcases z with z | z
    · exact z
    · exact absurd (by rw [← z]; exact hx) hc, Or.inl⟩, a3, a5, fun _ => a4⟩
theorem STAY.trans {U2 ρ2 : Nat → Prop} {kc2 lc2 rc2 : Nat → Int32} (h : STAY U U' ρ ρ' kc lc rc kc' lc' rc') (h2 : STAY U' U2 ρ' ρ2 kc' lc' rc' kc2 lc2 rc2) : STAY U U2 ρ ρ2 kc lc rc kc2 lc2 rc2 := fun x hx => by
  obtain ⟨a1, a2, a3, a4, a5⟩ := h x hx
  obtain ⟨b1, b2, b3, b4, b5⟩ := h2 x a1
  exact ⟨b1, b2.trans a2, b3.trans a3, b4.trans a4, fun z => (b5 (by
    rcases z with z | z
    · exact Or.inl (a2.mpr z)
    · exact Or.inr (by rw [a3]; exact z))).trans (a5 z)⟩
end
/-! the words -/
theorem word_op {o x y : Nat} {post : Int32 → Prop} (ho : o ≤ 20) (hx : x < 512) (hy : y < 512) (hp : post (nI o)) : wp_Op_opOf (wd (o, x, y)) post := by
  unfold wp_Op_opOf wd
  simp only
  have e : nI (o + 32 * x + 16384 * y) - nI (o + 32 * x + 16384 * y) / nI 32 * nI 32 = nI o := by
    rw [pk_rem (by omega) (by omega) (by omega)]
    exact congrArg nI (by omega)
  have e' : nI (o + 32 * x + 16384 * y) - nI (o + 32 * x + 16384 * y) / 32 * 32 = nI o := e
  rw [e']
  refine ⟨fun _ => ⟨by decide, ?_⟩, fun z => absurd (nI_pos' (by omega)) z⟩
  have nl : ¬ (20 : Int32) < nI o := nI_nlt (a := 20) (by omega) (by decide)
  rw [if_neg nl]
  exact hp
theorem word_first {o x y : Nat} {post : Int32 → Prop} (ho : o ≤ 20) (hx : x < 512) (hy : y < 512) (hp : post (nI x)) : wp_Op_firstOf (wd (o, x, y)) post := by
  unfold wp_Op_firstOf wd
  simp only
  have e : nI (o + 32 * x + 16384 * y) - nI (o + 32 * x + 16384 * y) / nI 16384 * nI 16384 = nI (o + 32 * x) := by
    rw [pk_rem (by omega) (by omega) (by omega)]
    exact congrArg nI (by omega)
  have e' : nI (o + 32 * x + 16384 * y) - nI (o + 32 * x + 16384 * y) / 16384 * 16384 = nI (o + 32 * x) := e
  have e2 : nI (o + 32 * x) / 32 = nI x := by
    have : nI (o + 32 * x) / nI 32 = nI ((o + 32 * x) / 32) := pk_div (by omega) (by omega) (by omega)
    rw [show (o + 32 * x) / 32 = x by omega] at this
    exact this
  rw [e', e2]
  exact ⟨by decide, by decide, hp⟩
theorem word_second {o x y : Nat} {post : Int32 → Prop} (ho : o ≤ 20) (hx : x < 512) (hy : y < 512) (hp : post (nI y)) : wp_Op_secondOf (wd (o, x, y)) post := by
  unfold wp_Op_secondOf wd
  simp only
  have e2 : nI (o + 32 * x + 16384 * y) / 16384 = nI y := by
    have : nI (o + 32 * x + 16384 * y) / nI 16384 = nI ((o + 32 * x + 16384 * y) / 16384) := pk_div (by omega) (by omega) (by omega)
    rw [show (o + 32 * x + 16384 * y) / 16384 = y by omega] at this
    exact this
  rw [e2]
  exact ⟨by decide, hp⟩
