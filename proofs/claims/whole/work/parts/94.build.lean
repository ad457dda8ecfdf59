/-! while a datum is laid into cells: the class has pairs that the reference still owes -/
def MPD (sz f : Nat) (fre : Nat → Int32) (Pn : Nat → Prop) (c : Nat) : Prop := US sz f fre c ∧ ¬ Pn c
def HPX (sz f k : Nat) (fre kc lc rc tk km lm rm : Nat → Int32) (π : Nat → Nat) (Pn : Nat → Prop) : Prop :=
  24 ≤ sz ∧ sz ≤ 200 ∧ f + k + 3 ≤ sz ∧ (∀ i, i < f → ∃ c, c < sz ∧ fre i = nI c) ∧ (∀ i j, i < f → j < f → fre i = fre j → i = j) ∧ (∀ c, Pn c → US sz f fre c) ∧
  (∀ c, MPD sz f fre Pn c → π c < sz ∧ ¬ tk (π c) = 0 ∧ CELL π (MPD sz f fre Pn) (fun _ => False) kc lc rc km lm rm c) ∧
  (∀ c c', MPD sz f fre Pn c → MPD sz f fre Pn c' → π c = π c' → c = c') ∧ cnt tk sz + f + k = sz ∧ (∀ c, c < 3 → MPD sz f fre Pn c ∧ π c = c ∧ kc c = 1) ∧ ACY (US sz f fre) kc rc ∧ ∀ c, US sz f fre c → ¬ kc c = 4
/-- what stays -/
def EXX (U U' M M' : Nat → Prop) (π π' : Nat → Nat) (kc lc rc kc' lc' rc' : Nat → Int32) : Prop := (∀ x, U x → U' x ∧ kc' x = kc x ∧ lc' x = lc x ∧ rc' x = rc x) ∧ ∀ x, M x → M' x ∧ π' x = π x
theorem EXX.refl {U M : Nat → Prop} {π : Nat → Nat} {kc lc rc : Nat → Int32} : EXX U U M M π π kc lc rc kc lc rc := ⟨fun x h => ⟨h, rfl, rfl, rfl⟩, fun x h => ⟨h, rfl⟩⟩
theorem EXX.trans {U U' U2 M M' M2 : Nat → Prop} {π π' π2 : Nat → Nat} {kc lc rc kc' lc' rc' kc2 lc2 rc2 : Nat → Int32} (h : EXX U U' M M' π π' kc lc rc kc' lc' rc') (h2 : EXX U' U2 M' M2 π' π2 kc' lc' rc' kc2 lc2 rc2) : EXX U U2 M M2 π π2 kc lc rc kc2 lc2 rc2 :=
  ⟨fun x hx => by
    obtain ⟨a1, a2, a3, a4⟩ := h.1 x hx
    obtain ⟨b1, b2, b3, b4⟩ := h2.1 x a1
    exact ⟨b1, b2.trans a2, b3.trans a3, b4.trans a4⟩, fun x hx => by
    obtain ⟨a1, a2⟩ := h.2 x hx
    obtain ⟨b1, b2⟩ := h2.2 x a1
    exact ⟨b1, b2.trans a2⟩⟩
section
variable {sz f k : Nat} {fre kc lc rc tk km lm rm : Nat → Int32} {π : Nat → Nat} {Pn : Nat → Prop}
theorem HPX.take (h : HPX sz (f + 1) k fre kc lc rc tk km lm rm π Pn) : ∃ c, ¬ US sz (f + 1) fre c ∧ c < sz ∧ US sz f fre c ∧ (∀ x, US sz (f + 1) fre x → US sz f fre x ∧ x ≠ c) ∧ (∀ x, US sz f fre x → US sz (f + 1) fre x ∨ x = c) ∧
    ∀ (k l r : Int32) (post : Int32 → Int32 → (Nat → Int32) → (Nat → Int32) → (Nat → Int32) → Prop), post (nI c) (nI f) (upd kc c k) (upd lc c l) (upd rc c r) → wp_Memory_take sz sz sz sz (nI (f + 1)) fre kc lc rc k l r post := by
  obtain ⟨h1, h2, h3, h4, h5, h5b, h6, h7, h8, h9, h10, h11⟩ := h
  obtain ⟨c, c1, c2⟩ := h4 f (by omega)
  have nu : ¬ US sz (f + 1) fre c := fun z => z.2 f (by omega) c2
  refine ⟨c, nu, c1, ⟨c1, fun i hi e => absurd (h5 i f (by omega) (by omega) (e.trans c2.symm)) (by omega)⟩, fun x hx => ⟨⟨hx.1, fun i hi => hx.2 i (by omega)⟩, fun e => nu (by rw [← e]; exact hx)⟩, fun x hx => ?_, fun k l r post hp => ?_⟩
  · by_cases e : x = c
    · exact Or.inr e
    · refine Or.inl ⟨hx.1, fun i hi => ?_⟩
      by_cases e2 : i = f
      · rw [e2, c2]
        exact fun z => e ((nI_eq (by have := hx.1; omega) (by omega)).mp z.symm)
      · exact hx.2 i (by omega)
  · refine ⟨fun z => absurd z (nI_ne0 (by omega) (by omega)), fun _ => ?_⟩
    rw [nI_pred, nI_clamp (n := f) (by omega), c2, nI_clamp (n := c) (by omega)]
    have vc : vp_in (nI c) sz := vp_in_nI c1 (by omega)
    exact ⟨vp_in_nI (by omega) (by omega), vc, vc, vc, hp⟩
/-- both take a cell for a number or a name -/
theorem HPX.both (h : HPX sz (f + 1) k fre kc lc rc tk km lm rm π Pn) (ko lo km' lm' : Int32) (hc : (ko = 0 ∧ km' = 1 ∧ lm' = lo) ∨ (ko = 1 ∧ km' = 2 ∧ nameR lo lm')) :
    ∃ (c : Nat) (kc1 lc1 rc1 tk1 km1 lm1 rm1 : Nat → Int32) (π1 : Nat → Nat), HPX sz f k fre kc1 lc1 rc1 tk1 km1 lm1 rm1 π1 Pn ∧ EXX (US sz (f + 1) fre) (US sz f fre) (MPD sz (f + 1) fre Pn) (MPD sz f fre Pn) π π1 kc lc rc kc1 lc1 rc1 ∧ MPD sz f fre Pn c ∧
      (∀ (post : Int32 → Int32 → (Nat → Int32) → (Nat → Int32) → (Nat → Int32) → Prop), post (nI c) (nI f) kc1 lc1 rc1 → wp_Memory_take sz sz sz sz (nI (f + 1)) fre kc lc rc ko lo 0 post) ∧
      (∀ (us : Int32) (post : Int32 → Int32 → (Nat → Int32) → (Nat → Int32) → (Nat → Int32) → (Nat → Int32) → Prop), post (nI (π1 c)) (us + 1) km1 lm1 rm1 tk1 → wp_Model_make (nI sz) us km lm rm tk km' lm' 0 post) := by
  obtain ⟨c, n1, n2, n3, n4, n5, n6⟩ := h.take
  obtain ⟨h1, h2, h3, h4, h5, h5b, h6, h7, h8, h9, h10, h11⟩ := h
  obtain ⟨c', d1, d2, d3⟩ := cnt_lt (p := tk) (n := sz) (by omega)
  have nP : ¬ Pn c := fun z => n1 (h5b c z)
  have mp : ∀ x, MPD sz (f + 1) fre Pn x → MPD sz f fre Pn x ∧ updN π c c' x = π x ∧ x ≠ c ∧ π x ≠ c' := fun x hx => ⟨⟨(n4 x hx.1).1, hx.2⟩, un_n (n4 x hx.1).2, (n4 x hx.1).2, fun e => (h6 x hx).2.1 (by rw [e]; exact d2)⟩
  have back : ∀ x, MPD sz f fre Pn x → MPD sz (f + 1) fre Pn x ∨ x = c := fun x hx => by
    rcases n5 x hx.1 with z | z
    · exact Or.inl ⟨z, hx.2⟩
    · exact Or.inr z
  refine ⟨c, upd kc c ko, upd lc c lo, upd rc c 0, upd tk c' 1, upd km c' km', upd lm c' lm', upd rm c' 0, updN π c c', ⟨h1, h2, by omega, fun i hi => h4 i (by omega), fun i j hi hj => h5 i j (by omega) (by omega), fun x hx => (n4 x (h5b x hx)).1, fun x hx => ?_, fun x y hx hy e => ?_, by rw [cnt_upd (by decide) d2 sz d1]; omega, fun x hx => ?_, h10.add n5 n4 (fun b _ z => by
    rcases hc with ⟨e1, -, -⟩ | ⟨e1, -, -⟩
    · rw [e1] at z; exact absurd z (by decide)
    · rw [e1] at z; exact absurd z (by decide)), fun x hx => ?_⟩, ⟨fun x hx => ⟨(n4 x hx).1, pk_un (n4 x hx).2, pk_un (n4 x hx).2, pk_un (n4 x hx).2⟩, fun x hx => ⟨(mp x hx).1, (mp x hx).2.1⟩⟩, ⟨n3, nP⟩, fun post hp => n6 _ _ _ post hp, fun us post hp => q_make h2 d1 d2 d3 (by rw [un_s] at hp; exact hp)⟩
  · rcases back x hx with z | z
    · obtain ⟨m1, m2, m3, m4⟩ := mp x z
      obtain ⟨a1, a2, a3⟩ := h6 x z
      exact ⟨by rw [m2]; exact a1, by rw [m2, pk_un m4]; exact a2, a3.to (fun y hy => ⟨(mp y hy).1, (mp y hy).2.1⟩) z ⟨pk_un m3, pk_un m3, pk_un m3⟩ ⟨pk_un m4, pk_un m4, pk_un m4⟩⟩
    · subst z
      refine ⟨by rw [un_s]; exact d1, by rw [un_s, pk_us]; decide, ?_⟩
      rcases hc with ⟨e1, e2, e3⟩ | ⟨e1, e2, e3⟩
      · exact Or.inl ⟨by rw [pk_us]; exact e1, by rw [un_s, pk_us]; exact e2, by rw [un_s, pk_us, pk_us]; exact e3⟩
      · exact Or.inr (Or.inl ⟨by rw [pk_us]; exact e1, by rw [un_s, pk_us]; exact e2, by rw [un_s, pk_us, pk_us]; exact e3⟩)
  · rcases back x hx with z | z
    · rcases back y hy with z2 | z2
      · rw [(mp x z).2.1, (mp y z2).2.1] at e
        exact h7 x y z z2 e
      · rw [(mp x z).2.1, z2, un_s] at e
        exact absurd e (mp x z).2.2.2
    · rcases back y hy with z2 | z2
      · rw [(mp y z2).2.1, z, un_s] at e
        exact absurd e.symm (mp y z2).2.2.2
      · rw [z, z2]
  · obtain ⟨a1, a2, a3⟩ := h9 x hx
    obtain ⟨m1, m2, m3, m4⟩ := mp x a1
    exact ⟨m1, by rw [m2]; exact a2, by rw [pk_un m3]; exact a3⟩
  · rcases n5 x hx with z | z
    · rw [pk_un (n4 x z).2]; exact h11 x z
    · rw [z, pk_us]
      rcases hc with ⟨e1, -, -⟩ | ⟨e1, -, -⟩
      · rw [e1]; decide
      · rw [e1]; decide
/-- the class takes a pair, the reference owes it -/
theorem HPX.pend (h : HPX sz (f + 1) k fre kc lc rc tk km lm rm π Pn) (lo ro : Int32) (hro : ∀ b, b < 200 → ro = nI b → US sz (f + 1) fre b) :
    ∃ (c : Nat) (kc1 lc1 rc1 : Nat → Int32), HPX sz f (k + 1) fre kc1 lc1 rc1 tk km lm rm π (fun x => Pn x ∨ x = c) ∧ EXX (US sz (f + 1) fre) (US sz f fre) (MPD sz (f + 1) fre Pn) (MPD sz f fre (fun x => Pn x ∨ x = c)) π π kc lc rc kc1 lc1 rc1 ∧ US sz f fre c ∧ ¬ Pn c ∧ ¬ US sz (f + 1) fre c ∧ kc1 c = 2 ∧ lc1 c = lo ∧ rc1 c = ro ∧
      (∀ (post : Int32 → Int32 → (Nat → Int32) → (Nat → Int32) → (Nat → Int32) → Prop), post (nI c) (nI f) kc1 lc1 rc1 → wp_Memory_take sz sz sz sz (nI (f + 1)) fre kc lc rc 2 lo ro post) := by
  obtain ⟨c, n1, n2, n3, n4, n5, n6⟩ := h.take
  obtain ⟨h1, h2, h3, h4, h5, h5b, h6, h7, h8, h9, h10, h11⟩ := h
  have nP : ¬ Pn c := fun z => n1 (h5b c z)
  have mp : ∀ x, MPD sz (f + 1) fre Pn x → MPD sz f fre (fun x => Pn x ∨ x = c) x ∧ x ≠ c := fun x hx => ⟨⟨(n4 x hx.1).1, fun z => by
    rcases z with z | z
    · exact hx.2 z
    · exact (n4 x hx.1).2 z⟩, (n4 x hx.1).2⟩
  have back : ∀ x, MPD sz f fre (fun x => Pn x ∨ x = c) x → MPD sz (f + 1) fre Pn x := fun x hx => by
    rcases n5 x hx.1 with z | z
    · exact ⟨z, fun y => hx.2 (Or.inl y)⟩
    · exact absurd (Or.inr z) hx.2
  refine ⟨c, upd kc c 2, upd lc c lo, upd rc c ro, ⟨h1, h2, by omega, fun i hi => h4 i (by omega), fun i j hi hj => h5 i j (by omega) (by omega), fun x hx => ?_, fun x hx => ?_, fun x y hx hy e => h7 x y (back x hx) (back y hy) e, by omega, fun x hx => ?_, h10.add n5 n4 (fun b hb _ z => hro b hb z), fun x hx => ?_⟩, ⟨fun x hx => ⟨(n4 x hx).1, pk_un (n4 x hx).2, pk_un (n4 x hx).2, pk_un (n4 x hx).2⟩, fun x hx => ⟨(mp x hx).1, rfl⟩⟩, n3, nP, n1, pk_us, pk_us, pk_us, fun post hp => n6 _ _ _ post hp⟩
  · rcases hx with z | z
    · exact (n4 x (h5b x z)).1
    · rw [z]; exact n3
  · have z := back x hx
    obtain ⟨m1, m2⟩ := mp x z
    obtain ⟨a1, a2, a3⟩ := h6 x z
    exact ⟨a1, a2, a3.to (fun y hy => ⟨(mp y hy).1, rfl⟩) z ⟨pk_un m2, pk_un m2, pk_un m2⟩ ⟨rfl, rfl, rfl⟩⟩
  · obtain ⟨a1, a2, a3⟩ := h9 x hx
    obtain ⟨m1, m2⟩ := mp x a1
    exact ⟨m1, a2, by rw [pk_un m2]; exact a3⟩
  · rcases n5 x hx with z | z
    · rw [pk_un (n4 x z).2]; exact h11 x z
    · rw [z, pk_us]; decide
/-- the reference makes a pair that it owed -/
theorem HPX.fill (h : HPX sz f (k + 1) fre kc lc rc tk km lm rm π Pn) {c a t : Nat} (hc : Pn c) (hk : kc c = 2) (hl : lc c = nI a) (hr : rc c = nI t) (ha : MPD sz f fre Pn a) (ht : MPD sz f fre Pn t) :
    ∃ (tk1 km1 lm1 rm1 : Nat → Int32) (π1 : Nat → Nat), HPX sz f k fre kc lc rc tk1 km1 lm1 rm1 π1 (fun x => Pn x ∧ x ≠ c) ∧ EXX (US sz f fre) (US sz f fre) (MPD sz f fre Pn) (MPD sz f fre (fun x => Pn x ∧ x ≠ c)) π π1 kc lc rc kc lc rc ∧ MPD sz f fre (fun x => Pn x ∧ x ≠ c) c ∧
      (∀ (us : Int32) (post : Int32 → Int32 → (Nat → Int32) → (Nat → Int32) → (Nat → Int32) → (Nat → Int32) → Prop), post (nI (π1 c)) (us + 1) km1 lm1 rm1 tk1 → wp_Model_make (nI sz) us km lm rm tk 3 (nI (π a)) (nI (π t)) post) := by
  obtain ⟨h1, h2, h3, h4, h5, h5b, h6, h7, h8, h9, h10, h11⟩ := h
  obtain ⟨c', d1, d2, d3⟩ := cnt_lt (p := tk) (n := sz) (by omega)
  have Uc := h5b c hc
  have mp : ∀ x, MPD sz f fre Pn x → MPD sz f fre (fun x => Pn x ∧ x ≠ c) x ∧ updN π c c' x = π x ∧ x ≠ c ∧ π x ≠ c' := fun x hx => by
    have ne : x ≠ c := fun e => hx.2 (by rw [e]; exact hc)
    exact ⟨⟨hx.1, fun z => hx.2 z.1⟩, un_n ne, ne, fun e => (h6 x hx).2.1 (by rw [e]; exact d2)⟩
  have back : ∀ x, MPD sz f fre (fun x => Pn x ∧ x ≠ c) x → MPD sz f fre Pn x ∨ x = c := fun x hx => by
    by_cases e : x = c
    · exact Or.inr e
    · exact Or.inl ⟨hx.1, fun z => hx.2 ⟨z, e⟩⟩
  refine ⟨upd tk c' 1, upd km c' 3, upd lm c' (nI (π a)), upd rm c' (nI (π t)), updN π c c', ⟨h1, h2, by omega, h4, h5, fun x hx => h5b x hx.1, fun x hx => ?_, fun x y hx hy e => ?_, by rw [cnt_upd (by decide) d2 sz d1]; omega, fun x hx => ?_, h10, h11⟩, ⟨fun x hx => ⟨hx, rfl, rfl, rfl⟩, fun x hx => ⟨(mp x hx).1, (mp x hx).2.1⟩⟩, ⟨Uc, fun z => z.2 rfl⟩, fun us post hp => q_make h2 d1 d2 d3 (by rw [un_s] at hp; exact hp)⟩
  · rcases back x hx with z | z
    · obtain ⟨m1, m2, m3, m4⟩ := mp x z
      obtain ⟨a1, a2, a3⟩ := h6 x z
      exact ⟨by rw [m2]; exact a1, by rw [m2, pk_un m4]; exact a2, a3.to (fun y hy => ⟨(mp y hy).1, (mp y hy).2.1⟩) z ⟨rfl, rfl, rfl⟩ ⟨pk_un m4, pk_un m4, pk_un m4⟩⟩
    · subst z
      refine ⟨by rw [un_s]; exact d1, by rw [un_s, pk_us]; decide, Or.inr (Or.inr (Or.inl ⟨hk, by rw [un_s, pk_us], a, t, hl, hr, by rw [un_s, pk_us, (mp a ha).2.1], by rw [un_s, pk_us, (mp t ht).2.1], (mp a ha).1, (mp t ht).1⟩))⟩
  · rcases back x hx with z | z
    · rcases back y hy with z2 | z2
      · rw [(mp x z).2.1, (mp y z2).2.1] at e
        exact h7 x y z z2 e
      · rw [(mp x z).2.1, z2, un_s] at e
        exact absurd e (mp x z).2.2.2
    · rcases back y hy with z2 | z2
      · rw [(mp y z2).2.1, z, un_s] at e
        exact absurd e.symm (mp y z2).2.2.2
      · rw [z, z2]
  · obtain ⟨a1, a2, a3⟩ := h9 x hx
    obtain ⟨m1, m2, m3, m4⟩ := mp x a1
    exact ⟨m1, by rw [m2]; exact a2, a3⟩
theorem HPX.congr {Pn' : Nat → Prop} (h : HPX sz f k fre kc lc rc tk km lm rm π Pn) (e : ∀ x, US sz f fre x → (Pn' x ↔ Pn x)) (hs : ∀ x, Pn' x → US sz f fre x) : HPX sz f k fre kc lc rc tk km lm rm π Pn' := by
  have me : ∀ x, MPD sz f fre Pn' x ↔ MPD sz f fre Pn x := fun x => ⟨fun z => ⟨z.1, fun y => z.2 ((e x z.1).mpr y)⟩, fun z => ⟨z.1, fun y => z.2 ((e x z.1).mp y)⟩⟩
  obtain ⟨h1, h2, h3, h4, h5, h5b, h6, h7, h8, h9, h10, h11⟩ := h
  refine ⟨h1, h2, h3, h4, h5, hs, fun x hx => ?_, fun x y hx hy => h7 x y ((me x).mp hx) ((me y).mp hy), h8, fun x hx => ⟨(me x).mpr (h9 x hx).1, (h9 x hx).2⟩, h10, h11⟩
  obtain ⟨a1, a2, a3⟩ := h6 x ((me x).mp hx)
  exact ⟨a1, a2, a3.to (fun y hy => ⟨(me y).mpr hy, rfl⟩) ((me x).mp hx) ⟨rfl, rfl, rfl⟩ ⟨rfl, rfl, rfl⟩⟩
/-- nothing is owed any more -/
theorem HPX.done {G : Nat → Prop} (h : HPX sz f 0 fre kc lc rc tk km lm rm π (fun _ => False)) : HP sz f fre kc lc rc tk km lm rm π G := by
  obtain ⟨h1, h2, h3, h4, h5, h5b, h6, h7, h8, h9, h10, h11⟩ := h
  have me : ∀ x, US sz f fre x → MPD sz f fre (fun _ => False) x := fun x hx => ⟨hx, fun z => z⟩
  refine ⟨h1, h2, by omega, h4, h5, fun x hx => ?_, fun x y hx hy => h7 x y (me x hx) (me y hy), by omega, fun x hx => ⟨(h9 x hx).1.1, (h9 x hx).2⟩, h10⟩
  obtain ⟨a1, a2, a3⟩ := h6 x (me x hx)
  have a4 := a3.to (U' := US sz f fre) (fun y hy => ⟨hy.1, rfl⟩) (me x hx) ⟨rfl, rfl, rfl⟩ ⟨rfl, rfl, rfl⟩
  refine ⟨a1, a2, ?_⟩
  rcases a4 with z | z | z | z | z
  · exact Or.inl z
  · exact Or.inr (Or.inl z)
  · exact Or.inr (Or.inr (Or.inl z))
  · obtain ⟨-, -, a, b, -, -, -, -, -, -, y⟩ := z
    exact y.elim
  · exact Or.inr (Or.inr (Or.inr (Or.inr z)))
end
/-! a datum is laid into cells, both -/
def CHN (kc lc rc : Nat → Int32) : Nat → List (Nat × Nat × Nat) → Nat → Prop
  | t0, [], t => t = t0
  | t0, x :: Z, t => kc x.1 = 2 ∧ lc x.1 = nI x.2.1 ∧ rc x.1 = nI t0 ∧ CHN kc lc rc x.1 Z t
theorem CHN.snoc {kc lc rc : Nat → Int32} {q v x : Nat} : ∀ {Z : List (Nat × Nat × Nat)} {t0 t : Nat}, CHN kc lc rc t0 Z t → kc q = 2 → lc q = nI v → rc q = nI t → CHN kc lc rc t0 (Z ++ [(q, v, x)]) q
  | [], _, _, h, h1, h2, h3 => ⟨h1, h2, by rw [← (h : _ = _)]; exact h3, rfl⟩
  | _ :: _, _, _, ⟨a1, a2, a3, a4⟩, h1, h2, h3 => ⟨a1, a2, a3, CHN.snoc a4 h1 h2 h3⟩
theorem CHN.to {kc lc rc kc' lc' rc' : Nat → Int32} : ∀ {Z : List (Nat × Nat × Nat)} {t0 t : Nat}, CHN kc lc rc t0 Z t → (∀ x ∈ Z, kc' x.1 = kc x.1 ∧ lc' x.1 = lc x.1 ∧ rc' x.1 = rc x.1) → CHN kc' lc' rc' t0 Z t
  | [], _, _, h, _ => h
  | y :: Z, _, _, ⟨a1, a2, a3, a4⟩, e => by
    obtain ⟨e1, e2, e3⟩ := e y List.mem_cons_self
    exact ⟨e1.trans a1, e2.trans a2, e3.trans a3, CHN.to a4 (fun x hx => e x (List.mem_cons_of_mem _ hx))⟩
theorem CHN.last {kc lc rc : Nat → Int32} : ∀ {Z : List (Nat × Nat × Nat)} {t0 t : Nat}, CHN kc lc rc t0 Z t → t = t0 ∨ ∃ y ∈ Z, y.1 = t
  | [], _, _, h => Or.inl h
  | y :: Z, _, _, ⟨_, _, _, a4⟩ => by
    rcases CHN.last a4 with z | ⟨u, u1, u2⟩
    · exact Or.inr ⟨y, List.mem_cons_self, z.symm⟩
    · exact Or.inr ⟨u, List.mem_cons_of_mem _ u1, u2⟩
def PZ (Pn : Nat → Prop) (Z : List (Nat × Nat × Nat)) (x : Nat) : Prop := Pn x ∨ ∃ y ∈ Z, y.1 = x
section
variable {b m q sz : Nat} {K V F S W C N : Nat → Int32} {kids : Nat → List Nat} {w dp en : Nat → Nat}
def BLD (b m sz : Nat) (K V F S W C N : Nat → Int32) (kids : Nat → List Nat) (en : Nat → Nat) (d j : Nat) : Prop := ∀ (f k : Nat) (fre kc lc rc tk km lm rm : Nat → Int32) (π : Nat → Nat) (Pn : Nat → Prop), HPX sz f k fre kc lc rc tk km lm rm π Pn → cel K V kids d j ≤ f →
  ∃ (v f' : Nat) (kc' lc' rc' tk' km' lm' rm' : Nat → Int32) (π' : Nat → Nat), f' + cel K V kids d j = f ∧ HPX sz f' k fre kc' lc' rc' tk' km' lm' rm' π' Pn ∧ EXX (US sz f fre) (US sz f' fre) (MPD sz f fre Pn) (MPD sz f' fre Pn) π π' kc lc rc kc' lc' rc' ∧ MPD sz f' fre Pn v ∧
    (∀ post : Int32 → Int32 → (Nat → Int32) → (Nat → Int32) → (Nat → Int32) → Prop, post (nI v) (nI f') kc' lc' rc' → wp_Machine_cellFor d sz sz sz sz (nI f) fre kc lc rc (nI m) F K V (nI j) post) ∧
    ∀ made : Nat → Int32, ∃ made' : Nat → Int32, made' (b + j) = nI (π' v) ∧ (∀ x, x < b + j ∨ b + en j ≤ x → made' x = made x) ∧ ∀ (root fu : Nat) (us : Int32) (post : Int32 → Int32 → (Nat → Int32) → (Nat → Int32) → (Nat → Int32) → (Nat → Int32) → (Nat → Int32) → Prop), root ≤ j → wp_Model_build_L6 (nI sz) C N S W post fu (nI (b + root)) (nI (b + j) + (-1)) (us + nI (cel K V kids d j)) km' lm' made' rm' tk' → wp_Model_build_L6 (nI sz) C N S W post (fu + (en j - j)) (nI (b + root)) (nI (b + en j) + (-1)) us km lm made rm tk
theorem CONT.ge {en : Nat → Nat} {hi : Nat} (hg : ∀ a, a < m → a < en a) : ∀ {l : List Nat} {lo : Nat}, CONT en lo l hi → (∀ a ∈ l, a < m) → lo ≤ hi ∧ ∀ a ∈ l, lo ≤ a
  | [], _, h, _ => ⟨Nat.le_of_eq h, fun a ha => (List.not_mem_nil ha).elim⟩
  | c :: t, lo, h, hm => by
    obtain ⟨h1, h2⟩ := h
    subst h1
    obtain ⟨i1, i2⟩ := CONT.ge hg h2 (fun a ha => hm a (List.mem_cons_of_mem _ ha))
    have := hg c (hm c List.mem_cons_self)
    refine ⟨by omega, fun a ha => ?_⟩
    rcases List.mem_cons.mp ha with e | e
    · omega
    · have := i2 a e; omega
/-- the kids, the last one first -/
theorem build_kids (hb : b ≤ 200) (hm : m ≤ 200) (hg : ∀ a, a < m → a < en a) (hle : ∀ a, a < m → en a ≤ m) {d : Nat} {l0 : List Nat} {x0 : Int32} {hi : Nat} (hx0 : ch F x0 l0) (hi0 : inc 0 m l0) : ∀ (l : List Nat) (o lo : Nat), l0.drop o = l → o ≤ l0.length → CONT en lo l hi → (∀ a ∈ l, a < m ∧ BLD b m sz K V F S W C N kids en d a) → ∀ (f k : Nat) (fre kc lc rc tk km lm rm : Nat → Int32) (π : Nat → Nat) (Pn : Nat → Prop), HPX sz f k fre kc lc rc tk km lm rm π Pn → wsum (cel K V kids d) l + l.length ≤ f →
    ∃ (t f' : Nat) (Z : List (Nat × Nat × Nat)) (kc' lc' rc' tk' km' lm' rm' : Nat → Int32) (π' : Nat → Nat), f' + (wsum (cel K V kids d) l + l.length) = f ∧ HPX sz f' (k + l.length) fre kc' lc' rc' tk' km' lm' rm' π' (PZ Pn Z) ∧ EXX (US sz f fre) (US sz f' fre) (MPD sz f fre Pn) (MPD sz f' fre (PZ Pn Z)) π π' kc lc rc kc' lc' rc' ∧ Z.map (fun y => y.2.2) = l.reverse ∧ (Z.map (fun y => y.1)).Nodup ∧ (∀ y ∈ Z, US sz f' fre y.1 ∧ ¬ US sz f fre y.1 ∧ MPD sz f' fre (PZ Pn Z) y.2.1) ∧ CHN kc' lc' rc' 0 Z t ∧
      (∀ (fu : Nat) (post : Int32 → Int32 → (Nat → Int32) → (Nat → Int32) → (Nat → Int32) → Prop), wp_Machine_cellFor_L55 (wp_Machine_cellFor d) sz sz sz sz fre (nI m) F K V post fu x0 (nI t) (nI o + (-1)) (nI f') kc' lc' rc' → wp_Machine_cellFor_L55 (wp_Machine_cellFor d) sz sz sz sz fre (nI m) F K V post (fu + l.length) x0 (nI 0) (nI (o + l.length) + (-1)) (nI f) kc lc rc) ∧
      ∀ made : Nat → Int32, ∃ made' : Nat → Int32, (∀ y ∈ Z, made' (b + y.2.2) = nI (π' y.2.1)) ∧ (∀ x, x < b + lo ∨ b + hi ≤ x → made' x = made x) ∧ ∀ (root fu : Nat) (us : Int32) (post : Int32 → Int32 → (Nat → Int32) → (Nat → Int32) → (Nat → Int32) → (Nat → Int32) → (Nat → Int32) → Prop), root < lo → wp_Model_build_L6 (nI sz) C N S W post fu (nI (b + root)) (nI (b + lo) + (-1)) (us + nI (wsum (cel K V kids d) l)) km' lm' made' rm' tk' → wp_Model_build_L6 (nI sz) C N S W post (fu + (hi - lo)) (nI (b + root)) (nI (b + hi) + (-1)) us km lm made rm tk := by
  intro l
  induction l with
  | nil =>
    intro o lo hd ho hC hk f k fre kc lc rc tk km lm rm π Pn H hf
    have e : lo = hi := hC
    subst e
    refine ⟨0, f, [], kc, lc, rc, tk, km, lm, rm, π, rfl, H.congr (fun x _ => ⟨fun z => by
      rcases z with z | ⟨y, hy, _⟩
      · exact z
      · exact (List.not_mem_nil hy).elim, Or.inl⟩) (fun x z => by
      rcases z with z | ⟨y, hy, _⟩
      · exact H.2.2.2.2.2.1 x z
      · exact (List.not_mem_nil hy).elim), ⟨fun x hx => ⟨hx, rfl, rfl, rfl⟩, fun x hx => ⟨⟨hx.1, fun z => by
      rcases z with z | ⟨y, hy, _⟩
      · exact hx.2 z
      · exact (List.not_mem_nil hy).elim⟩, rfl⟩⟩, rfl, List.nodup_nil, fun y hy => (List.not_mem_nil hy).elim, rfl, fun fu post hp => hp, fun made => ⟨made, fun y hy => (List.not_mem_nil hy).elim, fun _ _ => rfl, fun root fu us post _ hp => ?_⟩⟩
    rw [Nat.sub_self]
    have e0 : us + nI (wsum (cel K V kids d) []) = us := Int32.add_zero us
    rw [e0] at hp
    exact hp
  | cons a t ih =>
    intro o lo hd ho hC hk f k fre kc lc rc tk km lm rm π Pn H hf
    obtain ⟨h1, h2⟩ := hC
    subst h1
    have hlen : o + (t.length + 1) = l0.length := by
      have : (l0.drop o).length = t.length + 1 := by rw [hd]; rfl
      rw [List.length_drop] at this
      omega
    have ha : l0.getD o 0 = a := by
      have : (l0.drop o).getD 0 0 = a := by rw [hd]; rfl
      rw [drop_getD] at this
      exact this
    have hd2 : l0.drop (o + 1) = t := by
      rw [← List.drop_drop, hd]
      rfl
    obtain ⟨am, aB⟩ := hk a List.mem_cons_self
    have hf' : cel K V kids d a + wsum (cel K V kids d) t + (t.length + 1) ≤ f := hf
    have hl200 := hi0.len
    obtain ⟨t1, f1, Z1, kc1, lc1, rc1, tk1, km1, lm1, rm1, π1, q0, q1, q2, q3, q4, q5, q6, q7, q8⟩ := ih (o + 1) (en a) hd2 (by omega) h2 (fun c hc => hk c (List.mem_cons_of_mem _ hc)) f k fre kc lc rc tk km lm rm π Pn H (by omega)
    obtain ⟨v, f2, kc2, lc2, rc2, tk2, km2, lm2, rm2, π2, r0, r1, r2, r3, r4, r5⟩ := aB f1 (k + t.length) fre kc1 lc1 rc1 tk1 km1 lm1 rm1 π1 (PZ Pn Z1) q1 (by omega)
    obtain ⟨f3, rfl⟩ : ∃ f3, f2 = f3 + 1 := ⟨f2 - 1, by omega⟩
    have ut1 : US sz f1 fre t1 := by
      rcases CHN.last q6 with z | ⟨y, y1, y2⟩
      · rw [z]; exact (q1.2.2.2.2.2.2.2.2.2.1 0 (by omega)).1.1
      · rw [← y2]; exact (q5 y y1).1
    have hro0 : ∀ b, b < 200 → nI t1 = nI b → US sz (f3 + 1) fre b := fun b hb z => by
      have u2 := (r2.1 t1 ut1).1
      rw [← (nI_eq (by have := u2.1; have := r1.2.1; omega) (by omega)).mp z]
      exact u2
    obtain ⟨qc, kc3, lc3, rc3, s1, s2, s3, s4, s5, s6, s7, s8, s9⟩ := r1.pend (nI v) (nI t1) hro0
    have pz : ∀ x, (PZ Pn (Z1 ++ [(qc, v, a)]) x ↔ (PZ Pn Z1 x ∨ x = qc)) := fun x => ⟨fun z => by
      rcases z with z | ⟨y, hy, ey⟩
      · exact Or.inl (Or.inl z)
      · rcases List.mem_append.mp hy with u | u
        · exact Or.inl (Or.inr ⟨y, u, ey⟩)
        · rw [List.mem_singleton.mp u] at ey; exact Or.inr ey.symm, fun z => by
      rcases z with (z | ⟨y, hy, ey⟩) | z
      · exact Or.inl z
      · exact Or.inr ⟨y, List.mem_append_left _ hy, ey⟩
      · exact Or.inr ⟨(qc, v, a), List.mem_append_right _ List.mem_cons_self, z.symm⟩⟩
    have mpz : ∀ x, MPD sz f3 fre (fun x => PZ Pn Z1 x ∨ x = qc) x → MPD sz f3 fre (PZ Pn (Z1 ++ [(qc, v, a)])) x := fun x hx => ⟨hx.1, fun z => hx.2 ((pz x).mp z)⟩
    have X := (q2.trans r2).trans s2
    have X12 := r2.trans s2
    obtain ⟨ge1, ge2⟩ := CONT.ge hg h2 (fun c hc => (hk c (List.mem_cons_of_mem _ hc)).1)
    have gta := hg a am
    have lea := hle a am
    have q3' : ∀ y ∈ Z1, y.2.2 ∈ t := fun y hy => by
      have : y.2.2 ∈ Z1.map (fun y => y.2.2) := List.mem_map.mpr ⟨y, hy, rfl⟩
      rw [q3] at this
      exact List.mem_reverse.mp this
    refine ⟨qc, f3, Z1 ++ [(qc, v, a)], kc3, lc3, rc3, tk2, km2, lm2, rm2, π2, by show f3 + (cel K V kids d a + wsum (cel K V kids d) t + (t.length + 1)) = f; omega, ?_, ⟨X.1, fun x hx => ⟨mpz x (X.2 x hx).1, (X.2 x hx).2⟩⟩, ?_, ?_, fun y hy => ?_, ?_, fun fu post hp => ?_, fun made => ?_⟩
    · have := s1.congr (Pn' := PZ Pn (Z1 ++ [(qc, v, a)])) (fun x _ => pz x) (fun x z => s1.2.2.2.2.2.1 x ((pz x).mp z))
      rw [show k + (a :: t).length = k + t.length + 1 from rfl]
      exact this
    · rw [List.map_append, q3, List.reverse_cons]
      rfl
    · rw [List.map_append]
      refine nd_snoc q4 (fun z => ?_)
      obtain ⟨y, hy, ey⟩ := List.mem_map.mp z
      exact s4 (Or.inr ⟨y, hy, ey⟩)
    · rcases List.mem_append.mp hy with u | u
      · obtain ⟨y1, y2, y3⟩ := q5 y u
        exact ⟨(X12.1 y.1 y1).1, y2, mpz _ (X12.2 _ y3).1⟩
      · rw [List.mem_singleton.mp u]
        exact ⟨s3, fun z => s5 ((q2.trans r2).1 qc z).1, mpz _ (s2.2 v r3).1⟩
    · refine CHN.snoc (q6.to (fun y hy => ?_)) s6 s7 s8
      obtain ⟨y1, y2, y3⟩ := q5 y hy
      exact (X12.1 y.1 y1).2
    · have := q7 (fu + 1) post ?_
      · rw [show fu + (a :: t).length = fu + 1 + t.length from by show fu + (t.length + 1) = _; omega, show o + (a :: t).length = o + 1 + t.length from by show o + (t.length + 1) = _; omega]
        exact this
      · refine ⟨fun z => ?_, fun _ => ?_⟩
        · rw [pk_m1] at z
          exact absurd z (nI_pos (by omega))
        · rw [pk_m1]
          refine q_partBehind hm (by omega) hx0 hi0 ?_
          rw [drop_hdp (by omega), ha]
          exact r4 _ (s9 _ hp)
    · obtain ⟨made1, a1, a2, a3⟩ := q8 made
      obtain ⟨made2, b1, b2, b3⟩ := r5 made1
      refine ⟨made2, fun y hy => ?_, fun x hx => ?_, fun root fu us post hroot hp => ?_⟩
      · rcases List.mem_append.mp hy with u | u
        · obtain ⟨y1, y2, y3⟩ := q5 y u
          have := ge2 _ (q3' y u)
          rw [b2 _ (Or.inr (by omega)), a1 y u, (r2.2 _ y3).2]
        · rw [List.mem_singleton.mp u]
          exact b1
      · rw [b2 x (by omega), a2 x (by omega)]
      · have h3 := b3 root fu (us + nI (wsum (cel K V kids d) t)) post (by omega) (by
          rw [Int32.add_assoc, nI_add, show wsum (cel K V kids d) t + cel K V kids d a = wsum (cel K V kids d) (a :: t) from Nat.add_comm _ _]
          exact hp)
        have h4 := a3 root (fu + (en a - a)) us post (by omega) h3
        rw [show fu + (hi - a) = fu + (en a - a) + (hi - en a) by omega]
        exact h4
end
/-! a datum is laid into cells, both: the pairs that are owed; all nodes -/
section
variable {b m q sz : Nat} {K V F S W C N : Nat → Int32} {kids : Nat → List Nat} {w dp en : Nat → Nat}
theorem build_fill (hb : b ≤ 200) (hm : m ≤ 200) {j : Nat} (hj : j < m) {l0 : List Nat} (hch : chM b N (C (b + j)) l0) (hinc : inc 0 m l0) : ∀ (Z : List (Nat × Nat × Nat)) (t0 t : Nat) (pre suf : List Nat), l0 = pre ++ suf → Z.map (fun y => y.2.2) = pre.reverse → ∀ (f k : Nat) (fre kc lc rc tk km lm rm : Nat → Int32) (π : Nat → Nat) (Pn : Nat → Prop), HPX sz f (k + Z.length) fre kc lc rc tk km lm rm π (PZ Pn Z) → (Z.map (fun y => y.1)).Nodup → (∀ y ∈ Z, ¬ Pn y.1 ∧ MPD sz f fre (PZ Pn Z) y.2.1) → CHN kc lc rc t0 Z t → MPD sz f fre (PZ Pn Z) t0 → (∀ x, Pn x → US sz f fre x) →
    ∃ (tk' km' lm' rm' : Nat → Int32) (π' : Nat → Nat), HPX sz f k fre kc lc rc tk' km' lm' rm' π' Pn ∧ EXX (US sz f fre) (US sz f fre) (MPD sz f fre (PZ Pn Z)) (MPD sz f fre Pn) π π' kc lc rc kc lc rc ∧ MPD sz f fre Pn t ∧
      ∀ made : Nat → Int32, (∀ y ∈ Z, made (b + y.2.2) = nI (π y.2.1)) → ∀ (fu : Nat) (v1 us : Int32) (K62 : Int32 → Int32 → Int32 → Int32 → (Nat → Int32) → (Nat → Int32) → (Nat → Int32) → (Nat → Int32) → (Nat → Int32) → Prop) (post : Int32 → Int32 → (Nat → Int32) → (Nat → Int32) → (Nat → Int32) → (Nat → Int32) → (Nat → Int32) → Prop), wp_Model_build_L32 (nI sz) C N S W K62 post fu v1 (nI (b + j)) (nI (π' t)) (nI 0 + (-1)) (us + nI Z.length) km' lm' made rm' tk' → wp_Model_build_L32 (nI sz) C N S W K62 post (fu + Z.length) v1 (nI (b + j)) (nI (π t0)) (nI Z.length + (-1)) us km lm made rm tk := by
  intro Z
  induction Z with
  | nil =>
    intro t0 t pre suf e1 e2 f k fre kc lc rc tk km lm rm π Pn H nd hz hc ht0 hP
    have et : t = t0 := hc
    subst et
    have pz : ∀ x, (Pn x ↔ PZ Pn [] x) := fun x => ⟨Or.inl, fun z => by
      rcases z with z | ⟨y, hy, _⟩
      · exact z
      · exact (List.not_mem_nil hy).elim⟩
    refine ⟨tk, km, lm, rm, π, H.congr (fun x _ => pz x) hP, ⟨fun x hx => ⟨hx, rfl, rfl, rfl⟩, fun x hx => ⟨⟨hx.1, fun z => hx.2 ((pz x).mp z)⟩, rfl⟩⟩, ⟨ht0.1, fun z => ht0.2 ((pz _).mp z)⟩, fun made hmd fu v1 us K62 post hp => ?_⟩
    have e0 : us + nI ([] : List (Nat × Nat × Nat)).length = us := Int32.add_zero us
    rw [e0] at hp
    exact hp
  | cons y Z ih =>
    intro t0 t pre suf e1 e2 f k fre kc lc rc tk km lm rm π Pn H nd hz hc ht0 hP
    obtain ⟨c1, c2, c3, c4⟩ := hc
    obtain ⟨nd1, nd2⟩ := List.nodup_cons.mp nd
    obtain ⟨z1, z2⟩ := hz y List.mem_cons_self
    have hl200 := hinc.len
    -- the node of this pair
    have hpre : pre = (Z.map (fun y => y.2.2)).reverse ++ [y.2.2] := by
      have : pre.reverse.reverse = ((y :: Z).map (fun y => y.2.2)).reverse := by rw [e2]
      rw [List.reverse_reverse] at this
      rw [this]
      show (y.2.2 :: Z.map (fun y => y.2.2)).reverse = _
      rw [List.reverse_cons]
    have hlz : ((Z.map (fun y => y.2.2)).reverse).length = Z.length := by rw [List.length_reverse, List.length_map]
    have hgd : l0.getD Z.length 0 = y.2.2 := by
      rw [e1, hpre, List.append_assoc, List.getD_eq_getElem?_getD, List.getElem?_append_right (by omega), hlz, Nat.sub_self]
      rfl
    have hlt : Z.length < l0.length := by
      rw [e1, hpre, List.length_append, List.length_append, hlz]
      show Z.length < Z.length + 1 + suf.length
      omega
    have pc : PZ Pn (y :: Z) y.1 := Or.inr ⟨y, List.mem_cons_self, rfl⟩
    obtain ⟨tk1, km1, lm1, rm1, π1, s1, s2, s3, s4⟩ := HPX.fill (k := k + Z.length) H pc c1 c2 c3 z2 ht0
    have pz : ∀ x, (PZ Pn Z x ↔ (PZ Pn (y :: Z) x ∧ x ≠ y.1)) := fun x => ⟨fun z => by
      rcases z with z | ⟨u, hu, eu⟩
      · exact ⟨Or.inl z, fun e => z1 (by rw [← e]; exact z)⟩
      · exact ⟨Or.inr ⟨u, List.mem_cons_of_mem _ hu, eu⟩, fun e => nd1 (List.mem_map.mpr ⟨u, hu, eu.trans e⟩)⟩, fun ⟨z, ne⟩ => by
      rcases z with z | ⟨u, hu, eu⟩
      · exact Or.inl z
      · rcases List.mem_cons.mp hu with v | v
        · exact absurd (by rw [← eu, v]) ne
        · exact Or.inr ⟨u, v, eu⟩⟩
    have mpz : ∀ x, MPD sz f fre (fun x => PZ Pn (y :: Z) x ∧ x ≠ y.1) x → MPD sz f fre (PZ Pn Z) x := fun x hx => ⟨hx.1, fun z => hx.2 ((pz x).mp z)⟩
    have H1 := s1.congr (Pn' := PZ Pn Z) (fun x _ => pz x) (fun x z => s1.2.2.2.2.2.1 x ((pz x).mp z))
    obtain ⟨tk', km', lm', rm', π', q1, q2, q3, q4⟩ := ih y.1 t ((Z.map (fun y => y.2.2)).reverse) ([y.2.2] ++ suf) (by rw [e1, hpre, List.append_assoc]) (by rw [List.reverse_reverse]) f k fre kc lc rc tk1 km1 lm1 rm1 π1 Pn H1 nd2 (fun u hu => ⟨(hz u (List.mem_cons_of_mem _ hu)).1, mpz _ (s2.2 _ (hz u (List.mem_cons_of_mem _ hu)).2).1⟩) c4 (mpz _ s3) hP
    refine ⟨tk', km', lm', rm', π', q1, ⟨fun x hx => ⟨hx, rfl, rfl, rfl⟩, fun x hx => ⟨(q2.2 x (mpz x (s2.2 x hx).1)).1, ((q2.2 x (mpz x (s2.2 x hx).1)).2).trans (s2.2 x hx).2⟩⟩, q3, fun made hmd fu v1 us K62 post hp => ?_⟩
    have next := q4 made (fun u hu => by rw [hmd u (List.mem_cons_of_mem _ hu), (s2.2 _ (hz u (List.mem_cons_of_mem _ hu)).2).2]) fu v1 (us + 1) K62 post (by
      rw [Int32.add_assoc, show (1 : Int32) + nI Z.length = nI (y :: Z).length from by rw [show (1 : Int32) + nI Z.length = nI (1 + Z.length) from nI_add 1 _, Nat.add_comm]; rfl]
      exact hp)
    rw [show fu + (y :: Z).length = fu + Z.length + 1 from rfl, show nI (y :: Z).length = nI (Z.length + 1) from rfl]
    have hyn : y.2.2 < m := by
      have : y.2.2 ∈ l0 := by rw [← hgd]; exact getD_mem hlt
      exact (hinc.mem this).2
    refine ⟨fun z => ?_, fun _ => ?_⟩
    · rw [pk_m1] at z
      exact absurd z (nI_pos (by omega))
    · rw [pk_m1]
      refine q_mpart hb hm (by omega) (by omega) hch hinc ?_
      rw [drop_hdM hlt, hgd, nI_clamp (n := b + y.2.2) (by omega), hmd y List.mem_cons_self]
      exact ⟨vp_in_nI (by omega) (by decide), s4 us _ next⟩
theorem build_both (hT : TREE b m q K V F S W C N kids w dp) (hC : CTI m K kids en) (hb : b ≤ 200) : ∀ (d j : Nat), j < m → 13 ≤ d + dp j → BLD b m sz K V F S W C N kids en d j := by
  have hm := hT.1
  have hTC := hT.tc
  have hg : ∀ a, a < m → a < en a := fun a ha => en_gt hTC hC 13 a ha (by omega)
  have hle : ∀ a, a < m → en a ≤ m := fun a ha => en_le hTC hC 13 a ha (by omega)
  intro d
  induction d with
  | zero => intro j hj hd; exact absurd (hTC.2 j hj).2.1 (by omega)
  | succ d ih =>
    intro j hj hd f k fre kc lc rc tk km lm rm π Pn H hf
    have vj : vp_in (nI j) 200 := vp_in_nI (by omega) (by decide)
    have ej : (nI j).toNatClampNeg = j := nI_clamp (by omega)
    have vjm : vp_in (nI (b + j)) 400 := vp_in_nI (by omega) (by decide)
    have ejm : (nI (b + j)).toNatClampNeg = b + j := nI_clamp (by omega)
    have lsz := H.2.1
    obtain ⟨c1, c2⟩ := hC j hj
    -- a leaf is one step of the reference
    have leafstep : ¬ K j = 2 → ∀ (made : Nat → Int32) (root fu : Nat) (us : Int32) (post : Int32 → Int32 → (Nat → Int32) → (Nat → Int32) → (Nat → Int32) → (Nat → Int32) → (Nat → Int32) → Prop), root ≤ j → ((S (b + j) = 1 → vp_in (nI (b + j)) 400 ∧ (W (b + j) = (10461 : Int32) → wp_Model_build_J145 (nI sz) C N S W (wp_Model_build_L6 (nI sz) C N S W post fu) post (nI (b + root)) (nI (b + j)) (0 : Int32) (nI (b + j)) us km lm made rm tk) ∧ (¬ W (b + j) = (10461 : Int32) → vp_in (nI (b + j)) 400 ∧ (W (b + j) = (20 : Int32) → wp_Model_build_J145 (nI sz) C N S W (wp_Model_build_L6 (nI sz) C N S W post fu) post (nI (b + root)) (nI (b + j)) (1 : Int32) (nI (b + j)) us km lm made rm tk) ∧ (¬ W (b + j) = (20 : Int32) → vp_in (nI (b + j)) 400 ∧ (W (b + j) = (6 : Int32) → wp_Model_build_J145 (nI sz) C N S W (wp_Model_build_L6 (nI sz) C N S W post fu) post (nI (b + root)) (nI (b + j)) (2 : Int32) (nI (b + j)) us km lm made rm tk) ∧ (¬ W (b + j) = (6 : Int32) → vp_in (nI (b + j)) 400 ∧ wp_Model_make (nI sz) us km lm rm tk (2 : Int32) (W (b + j)) (0 : Int32) (fun r_24 used_25 km_26 lm_27 rm_28 tk_29 => wp_Model_build_J145 (nI sz) C N S W (wp_Model_build_L6 (nI sz) C N S W post fu) post (nI (b + root)) (nI (b + j)) r_24 (nI (b + j)) used_25 km_26 lm_27 made rm_28 tk_29))))) ∧ (¬ S (b + j) = 1 → vp_in (nI (b + j)) 400 ∧ wp_Model_make (nI sz) us km lm rm tk (1 : Int32) (W (b + j)) (0 : Int32) (fun r_10 used_11 km_12 lm_13 rm_14 tk_15 => vp_in (nI (b + j)) 400 ∧ wp_Model_build_J167 (nI sz) C N S W (wp_Model_build_L6 (nI sz) C N S W post fu) post (nI (b + root)) (nI (b + j)) used_11 km_12 lm_13 (upd made (b + j) r_10) rm_14 tk_15))) → wp_Model_build_L6 (nI sz) C N S W post (fu + (en j - j)) (nI (b + root)) (nI (b + en j) + (-1)) us km lm made rm tk := fun hk made root fu us post hroot hp => by
      rw [c1 hk, show j + 1 - j = 1 by omega, show b + (j + 1) = b + j + 1 by omega, pk_m1]
      refine ⟨fun z => absurd z (nI_nlt (by omega) (by omega)), fun _ => ?_⟩
      rw [ejm]
      exact ⟨vjm, fun z => absurd (((hT.ts j hj).2.1).mpr z) hk, fun _ => ⟨vjm, hp⟩⟩
    by_cases hk : K j = 2
    · -- a list
      rcases (hTC.2 j hj).2.2 with z | z | ⟨-, hd11, hchF, hincj, hws, hdk⟩
      · exact absurd (hk.symm.trans z) (by decide)
      · exact absurd (hk.symm.trans z) (by decide)
      obtain ⟨hch, hinc⟩ := hT.tm j hj hk
      have hs : S (b + j) = 2 := ((hT.ts j hj).2.1).mp hk
      have ec := cel2 (V := V) (kids := kids) (d := d) hk
      rw [ec] at hf
      have hl200 := hinc.len
      obtain ⟨t, f', Z, kc', lc', rc', tk', km', lm', rm', π', q0, q1, q2, q3, q4, q5, q6, q7, q8⟩ := build_kids (sz := sz) (S := S) (W := W) (C := C) (N := N) (d := d) hb hm hg hle hchF hinc (kids j) 0 (j + 1) rfl (by omega) (c2 hk) (fun a ha => ⟨(hinc.mem ha).2, ih a (hinc.mem ha).2 (by rw [hdk a ha]; omega)⟩) f k fre kc lc rc tk km lm rm π Pn H (by omega)
      have zl : Z.length = (kids j).length := by
        have := congrArg List.length q3
        rw [List.length_map, List.length_reverse] at this
        exact this
      have m0 : MPD sz f' fre (PZ Pn Z) 0 := (q1.2.2.2.2.2.2.2.2.2.1 0 (by omega)).1
      have p0 : π' 0 = 0 := (q1.2.2.2.2.2.2.2.2.2.1 0 (by omega)).2.1
      have PnU : ∀ x, Pn x → US sz f' fre x := fun x hx => (q2.1 x (H.2.2.2.2.2.1 x hx)).1
      obtain ⟨tk2, km2, lm2, rm2, π2, r1, r2, r3, r4⟩ := build_fill (sz := sz) (S := S) (W := W) (C := C) (N := N) hb hm hj hch hinc Z 0 t (kids j) [] (List.append_nil _).symm q3 f' k fre kc' lc' rc' tk' km' lm' rm' π' Pn (by rw [zl]; exact q1) q4 (fun y hy => ⟨fun z => (q5 y hy).2.1 (H.2.2.2.2.2.1 _ z), (q5 y hy).2.2⟩) q6 m0 PnU
      refine ⟨t, f', kc', lc', rc', tk2, km2, lm2, rm2, π2, by rw [ec]; omega, r1, q2.trans r2, r3, fun post hp => ?_, fun made => ?_⟩
      · unfold wp_Machine_cellFor wp_Machine_cellFor_body wp_Datum_kindOf wp_Datum_firstPartOf
        rw [ej, hk]
        refine ⟨vj, fun z => absurd z (by decide), fun _ => ⟨vj, fun z => absurd z (by decide), fun _ => ⟨vj, fun _ => ⟨vj, q_countFrom hm hchF hinc ⟨1 + (kids j).length, ?_⟩⟩, fun z => absurd rfl z⟩⟩⟩
        have := q7 1 post ⟨fun _ => hp, fun z => absurd (by decide) z⟩
        rw [Nat.zero_add] at this
        rw [Int32.sub_eq_add_neg]
        exact this
      · obtain ⟨made1, a1, a2, a3⟩ := q8 made
        refine ⟨upd made1 (b + j) (nI (π2 t)), pk_us, fun x hx => ?_, fun root fu us post hroot hp => ?_⟩
        · have gj := hg j hj
          rw [pk_un (by omega)]
          exact a2 x (by omega)
        · have gj := hg j hj
          have hlo : j + 1 ≤ en j := gj
          have h3 := a3 root (fu + 1) us post (by omega) ?_
          · rw [show fu + (en j - j) = fu + 1 + (en j - (j + 1)) by omega]
            exact h3
          · rw [show b + (j + 1) = b + j + 1 by omega, pk_m1]
            refine ⟨fun z => absurd z (nI_nlt (by omega) (by omega)), fun _ => ?_⟩
            rw [ejm]
            refine ⟨vjm, fun _ => q_mparts hb hm (by omega) hch hinc ⟨1 + Z.length, ?_⟩, fun z => absurd hs z⟩
            have h4 := r4 made1 a1 1 (nI (b + root)) (us + nI (wsum (cel K V kids d) (kids j))) (fun v1 v2 v3 used km lm made rm tk => vp_in v2 400 ∧ (wp_Model_build_J167 (nI sz) C N S W (wp_Model_build_L6 (nI sz) C N S W post fu) post v1 v2 used km lm (upd made v2.toNatClampNeg v3) rm tk)) post ⟨fun _ => ⟨vjm, ?_⟩, fun z => absurd (by decide) z⟩
            · rw [p0, zl] at h4
              rw [Int32.sub_eq_add_neg, zl]
              exact h4
            · unfold wp_Model_build_J167
              rw [ejm]
              rw [Int32.add_assoc, nI_add, zl, show wsum (cel K V kids d) (kids j) + (kids j).length = cel K V kids (d + 1) j from by rw [ec]; exact Nat.add_comm _ _]
              exact hp
    · have ec := celn (V := V) (kids := kids) (d := d) hk
      rcases (hT.2 j hj).2.2.2 with ⟨z1, z2, z3, -⟩ | ⟨z1, z2, z3, -⟩ | z
      · -- a number
        rw [ec, nod0 z1] at hf
        obtain ⟨f0, rfl⟩ : ∃ f0, f = f0 + 1 := ⟨f - 1, by omega⟩
        obtain ⟨c, kc1, lc1, rc1, tk1, km1, lm1, rm1, π1, h1, h2, h3, h4, h5⟩ := H.both 0 (V j) 1 (W (b + j)) (Or.inl ⟨rfl, rfl, z3.symm⟩)
        refine ⟨c, f0, kc1, lc1, rc1, tk1, km1, lm1, rm1, π1, by rw [ec, nod0 z1], h1, h2, h3, fun post hp => ?_, fun made => ⟨upd made (b + j) (nI (π1 c)), pk_us, fun x hx => pk_un (by have := hg j hj; omega), fun root fu us post hroot hp => ?_⟩⟩
        · unfold wp_Machine_cellFor wp_Machine_cellFor_body wp_Datum_kindOf wp_Datum_valueOf
          rw [ej, z1]
          exact ⟨vj, fun _ => ⟨vj, h4 _ hp⟩, fun z => absurd rfl z⟩
        · refine leafstep hk made root fu us post hroot ⟨fun z => absurd (z2.symm.trans z) (by decide), fun _ => ⟨vjm, h5 us _ ⟨vjm, ?_⟩⟩⟩
          rw [ec, nod0 z1] at hp
          exact hp
      · have l1 := nameR_eq z3 last_names.1
        have l2 := nameR_eq z3 last_names.2.1
        have l3 := nameR_eq z3 last_names.2.2
        by_cases hl : lst (V j)
        · -- a lasting name
          rw [ec, nod1 z1 hl] at hf
          have fin : ∀ v, v < 3 → (∀ post : Int32 → Int32 → (Nat → Int32) → (Nat → Int32) → (Nat → Int32) → Prop, post (nI v) (nI f) kc lc rc → wp_Memory_nameCell sz sz sz sz (nI f) fre kc lc rc (V j) post) → (∀ (made : Nat → Int32) (root fu : Nat) (us : Int32) (post : Int32 → Int32 → (Nat → Int32) → (Nat → Int32) → (Nat → Int32) → (Nat → Int32) → (Nat → Int32) → Prop), root ≤ j → wp_Model_build_J145 (nI sz) C N S W (wp_Model_build_L6 (nI sz) C N S W post fu) post (nI (b + root)) (nI (b + j)) (nI v) (nI (b + j)) us km lm made rm tk → wp_Model_build_L6 (nI sz) C N S W post (fu + (en j - j)) (nI (b + root)) (nI (b + en j) + (-1)) us km lm made rm tk) → ∃ (v f' : Nat) (kc' lc' rc' tk' km' lm' rm' : Nat → Int32) (π' : Nat → Nat), f' + cel K V kids (d + 1) j = f ∧ HPX sz f' k fre kc' lc' rc' tk' km' lm' rm' π' Pn ∧ EXX (US sz f fre) (US sz f' fre) (MPD sz f fre Pn) (MPD sz f' fre Pn) π π' kc lc rc kc' lc' rc' ∧ MPD sz f' fre Pn v ∧ (∀ post : Int32 → Int32 → (Nat → Int32) → (Nat → Int32) → (Nat → Int32) → Prop, post (nI v) (nI f') kc' lc' rc' → wp_Machine_cellFor (d + 1) sz sz sz sz (nI f) fre kc lc rc (nI m) F K V (nI j) post) ∧ ∀ made : Nat → Int32, ∃ made' : Nat → Int32, made' (b + j) = nI (π' v) ∧ (∀ x, x < b + j ∨ b + en j ≤ x → made' x = made x) ∧ ∀ (root fu : Nat) (us : Int32) (post : Int32 → Int32 → (Nat → Int32) → (Nat → Int32) → (Nat → Int32) → (Nat → Int32) → (Nat → Int32) → Prop), root ≤ j → wp_Model_build_L6 (nI sz) C N S W post fu (nI (b + root)) (nI (b + j) + (-1)) (us + nI (cel K V kids (d + 1) j)) km' lm' made' rm' tk' → wp_Model_build_L6 (nI sz) C N S W post (fu + (en j - j)) (nI (b + root)) (nI (b + en j) + (-1)) us km lm made rm tk := fun v hv hcl hmd => by
            have m0 := H.2.2.2.2.2.2.2.2.2.1 v hv
            refine ⟨v, f, kc, lc, rc, tk, km, lm, rm, π, by rw [ec, nod1 z1 hl]; rfl, H, EXX.refl, m0.1, fun post hp => ?_, fun made => ⟨upd made (b + j) (nI (π v)), pk_us, fun x hx => pk_un (by have := hg j hj; omega), fun root fu us post hroot hp => hmd made root fu us post hroot ?_⟩⟩
            · unfold wp_Machine_cellFor wp_Machine_cellFor_body wp_Datum_kindOf wp_Datum_valueOf
              rw [ej, z1]
              exact ⟨vj, fun z => absurd z (by decide), fun _ => ⟨vj, fun _ => ⟨vj, hcl _ hp⟩, fun z => absurd rfl z⟩⟩
            · unfold wp_Model_build_J145 wp_Model_build_J167
              rw [ejm]
              rw [ec, nod1 z1 hl, m0.2.1, show us + nI 0 = us from Int32.add_zero us] at hp
              exact ⟨vjm, hp⟩
          rcases hl with y | y | y
          · refine fin 0 (by omega) (fun post hp => ⟨fun z => absurd (y.symm.trans z) (by decide), fun _ => ⟨fun z => absurd (y.symm.trans z) (by decide), fun _ => ⟨fun _ => hp, fun z => absurd y z⟩⟩⟩) (fun made root fu us post hroot hp => leafstep hk made root fu us post hroot ⟨fun _ => ⟨vjm, fun _ => hp, fun z => absurd (l1.mp y) z⟩, fun z => absurd z2 z⟩)
          · refine fin 1 (by omega) (fun post hp => ⟨fun z => absurd (y.symm.trans z) (by decide), fun _ => ⟨fun _ => hp, fun z => absurd y z⟩⟩) (fun made root fu us post hroot hp => leafstep hk made root fu us post hroot ⟨fun _ => ⟨vjm, fun z => absurd (y.symm.trans (l1.mpr z)) (by decide), fun _ => ⟨vjm, fun _ => hp, fun z => absurd (l2.mp y) z⟩⟩, fun z => absurd z2 z⟩)
          · refine fin 2 (by omega) (fun post hp => ⟨fun _ => hp, fun z => absurd y z⟩) (fun made root fu us post hroot hp => leafstep hk made root fu us post hroot ⟨fun _ => ⟨vjm, fun z => absurd (y.symm.trans (l1.mpr z)) (by decide), fun _ => ⟨vjm, fun z => absurd (y.symm.trans (l2.mpr z)) (by decide), fun _ => ⟨vjm, fun _ => hp, fun z => absurd (l3.mp y) z⟩⟩⟩, fun z => absurd z2 z⟩)
        · -- another name
          rw [ec, nod1' z1 hl] at hf
          obtain ⟨f0, rfl⟩ : ∃ f0, f = f0 + 1 := ⟨f - 1, by omega⟩
          obtain ⟨c, kc1, lc1, rc1, tk1, km1, lm1, rm1, π1, h1, h2, h3, h4, h5⟩ := H.both 1 (V j) 2 (W (b + j)) (Or.inr ⟨rfl, rfl, z3⟩)
          have n1 : ¬ V j = 14636 := fun z => hl (Or.inl z)
          have n2 : ¬ V j = 20 := fun z => hl (Or.inr (Or.inl z))
          have n3 : ¬ V j = 6 := fun z => hl (Or.inr (Or.inr z))
          refine ⟨c, f0, kc1, lc1, rc1, tk1, km1, lm1, rm1, π1, by rw [ec, nod1' z1 hl], h1, h2, h3, fun post hp => ?_, fun made => ⟨upd made (b + j) (nI (π1 c)), pk_us, fun x hx => pk_un (by have := hg j hj; omega), fun root fu us post hroot hp => ?_⟩⟩
          · unfold wp_Machine_cellFor wp_Machine_cellFor_body wp_Datum_kindOf wp_Datum_valueOf
            rw [ej, z1]
            exact ⟨vj, fun z => absurd z (by decide), fun _ => ⟨vj, fun _ => ⟨vj, ⟨fun z => absurd z n3, fun _ => ⟨fun z => absurd z n2, fun _ => ⟨fun z => absurd z n1, fun _ => h4 _ hp⟩⟩⟩⟩, fun z => absurd rfl z⟩⟩
          · refine leafstep hk made root fu us post hroot ⟨fun _ => ⟨vjm, fun z => absurd (l1.mpr z) n1, fun _ => ⟨vjm, fun z => absurd (l2.mpr z) n2, fun _ => ⟨vjm, fun z => absurd (l3.mpr z) n3, fun _ => ⟨vjm, h5 us _ ?_⟩⟩⟩⟩, fun z => absurd z2 z⟩
            unfold wp_Model_build_J145 wp_Model_build_J167
            rw [ejm]
            rw [ec, nod1' z1 hl] at hp
            exact ⟨vjm, hp⟩
      · exact absurd z.1 hk
end
