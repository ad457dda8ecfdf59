/-! printing: the text of a cell, whole -/
def atm (kc lc : Nat → Int32) (c : Nat) : List Nat := if kc c = 0 then numT (lc c) else if kc c = 1 then nmL (lc c).toNatClampNeg 6 else [102, 110]
/-- what comes behind the first part of a list -/
def rst (kc lc rc : Nat → Int32) (tx : Nat → List Nat) : Nat → Nat → List Nat
  | 0, _ => []
  | r + 1, c => if kc c = 2 then 32 :: (tx (lc c).toNatClampNeg ++ rst kc lc rc tx r (rc c).toNatClampNeg) else if c = 0 then [41] else [32, 46, 32] ++ (atm kc lc c ++ [41])
def txt (kc lc rc : Nat → Int32) (R : Nat) : Nat → Nat → List Nat
  | 0, c => if kc c = 2 then [35] else atm kc lc c
  | k + 1, c => if kc c = 2 then 40 :: (txt kc lc rc R k (lc c).toNatClampNeg ++ rst kc lc rc (txt kc lc rc R k) R (rc c).toNatClampNeg) else atm kc lc c
/-- the same, as far as 80 characters show it -/
def EQ8 (A B : List Nat) : Prop := A = B ∨ (80 ≤ A.length ∧ 80 ≤ B.length ∧ A.take 80 = B.take 80)
theorem EQ8.refl {A : List Nat} : EQ8 A A := Or.inl rfl
theorem EQ8.app {A B : List Nat} (h : EQ8 A B) (X : List Nat) : EQ8 (A ++ X) (B ++ X) := by
  rcases h with h | ⟨h1, h2, h3⟩
  · exact Or.inl (by rw [h])
  · refine Or.inr ⟨by rw [List.length_append]; omega, by rw [List.length_append]; omega, ?_⟩
    rw [List.take_append_of_le_length h1, List.take_append_of_le_length h2, h3]
theorem EQ8.full {A B : List Nat} (h : EQ8 A B) (hA : 80 ≤ A.length) (X Y : List Nat) : EQ8 (A ++ X) (B ++ Y) := by
  rcases h with h | ⟨h1, h2, h3⟩
  · subst h
    refine Or.inr ⟨by rw [List.length_append]; omega, by rw [List.length_append]; omega, ?_⟩
    rw [List.take_append_of_le_length hA, List.take_append_of_le_length hA]
  · refine Or.inr ⟨by rw [List.length_append]; omega, by rw [List.length_append]; omega, ?_⟩
    rw [List.take_append_of_le_length h1, List.take_append_of_le_length h2, h3]
theorem EQ8.trans {A B C : List Nat} (h : EQ8 A B) (h' : EQ8 B C) : EQ8 A C := by
  rcases h with rfl | ⟨h1, h2, h3⟩
  · exact h'
  · rcases h' with rfl | ⟨g1, g2, g3⟩
    · exact Or.inr ⟨h1, h2, h3⟩
    · exact Or.inr ⟨h1, g2, h3.trans g3⟩
theorem EQ8.short {A B : List Nat} (h : EQ8 A B) (hA : A.length < 80) : A = B := by
  rcases h with h | ⟨h1, -⟩
  · exact h
  · omega
section
variable {sz f : Nat} {fre kc lc rc tk km lm rm : Nat → Int32} {π : Nat → Nat} {G : Nat → Prop}
theorem HP.nameE (H : HP sz f fre kc lc rc tk km lm rm π G) {c : Nat} (Uc : US sz f fre c) (hk : kc c = 1) : ∃ E, E < 2 ^ 31 ∧ lc c = nI E ∧ 1 ≤ (nmL E 6).length ∧ (nmL E 6).length ≤ 6 ∧ (∀ x ∈ nmL E 6, x < 128) ∧ ∃ l, isNm l ∧ nmL E 6 = l.map (fun x => 96 + x) ∧ lm (π c) = nI (enc 27 l) := by
  have hn : nameR (lc c) (lm (π c)) := by
    rcases (H.2.2.2.2.2.1 c Uc).2.2 with z | z | z | z | z
    · exact absurd (hk.symm.trans z.1) (by decide)
    · exact z.2.2
    · exact absurd (hk.symm.trans z.1) (by decide)
    · exact absurd (hk.symm.trans z.1) (by decide)
    · exact absurd (hk.symm.trans z.1) (by decide)
  obtain ⟨l, h1, h2, h3⟩ := hn
  have hb := enc_bound (q := 32) (by decide) (by decide) h1
  have e := nmL_name h1
  refine ⟨enc 32 l, by omega, h2, ?_, ?_, fun x hx => ?_, l, h1, e, h3⟩
  · rw [e, List.length_map]
    rcases l with _ | ⟨x, t⟩
    · exact absurd rfl h1.1
    · show 1 ≤ t.length + 1; omega
  · rw [e, List.length_map]; exact h1.2.1
  · rw [e] at hx
    obtain ⟨d, d1, d2⟩ := List.mem_map.mp hx
    have := h1.2.2 d d1
    omega
/-- what show leaves: T' for T, where the whole text would be T0 and X behind it -/
def SHO (W : Nat → Nat → Int32 → Nat → Nat → (Nat → Int32) → (Int32 → Nat → Nat → (Nat → Int32) → Prop) → Prop) (X : List Nat) (bd : Nat) : Prop := ∀ (g : Nat) (T T0 : List Nat) (val : Nat → Int32), SBX g T val → EQ8 T T0 → T.length ≤ bd → ∃ (T' : List Nat) (g' : Nat) (val' : Nat → Int32), SBX g' T' val' ∧ g ≤ g' ∧ EQ8 T' (T0 ++ X) ∧ (80 ≤ T.length → T' = T) ∧ (T.length < 80 → T.length < T'.length ∧ T'.length ≤ bd) ∧ ∀ (mc ms a : Nat) (post : Int32 → Nat → Nat → (Nat → Int32) → Prop), g' - g ≤ mc → 200 * (g' - g) ≤ ms → (∀ a', post (nI T'.length) a' (capOf g') val') → W mc ms (nI T.length) a (capOf g) val post
theorem q_full {T : List Nat} (hT : T.length ≤ 142) {post : Int32 → Prop} (h0 : T.length < 80 → post 0) (h1 : 80 ≤ T.length → post 1) : wp_Printer_isFull (nI T.length) post := by
  refine ⟨fun z => h0 ?_, fun z => h1 ?_⟩
  · exact (nI_ltI (b := 80) (by omega) (by decide)).mp z
  · rcases Nat.lt_or_ge T.length 80 with y | y
    · exact absurd (nI_lt (b := 80) y (by decide)) z
    · exact y
/-- an atom is shown, at any depth -/
theorem show_atom (H : HP sz f fre kc lc rc tk km lm rm π G) {c d : Nat} (Uc : US sz f fre c) (h4 : ¬ kc c = 4) (h2 : ¬ kc c = 2) {bd : Nat} (hbd : 90 ≤ bd) (hbd2 : bd ≤ 138) (x2 : Int32) : SHO (fun mc ms cnt a n val post => wp_Printer_show (d + 1) mc ms sz sz sz kc lc rc 0 cnt a n val (nI c) x2 post) (atm kc lc c) bd := fun g T T0 val hS hE hb => by
  obtain ⟨l1, l2, l3⟩ := H.lt Uc
  by_cases hf : 80 ≤ T.length
  · refine ⟨T, g, val, hS, Nat.le_refl _, by have := hE.full hf [] (atm kc lc c); rw [List.append_nil] at this; exact this, fun _ => rfl, fun z => absurd z (by omega), fun mc ms a post b1 b2 hp => ?_⟩
    unfold wp_Printer_show wp_Printer_show_body
    exact q_full (by omega) (fun z => absurd z (by omega)) (fun _ => ⟨fun z => absurd z (by decide), fun _ => hp a⟩)
  · have hl : T.length < 80 := by omega
    have e0 := hE.short hl
    subst e0
    -- the three kinds
    have key : ∀ (W : Nat → Nat → Int32 → Nat → Nat → (Nat → Int32) → (Int32 → Nat → Nat → (Nat → Int32) → Prop) → Prop), APP W (atm kc lc c) → 1 ≤ (atm kc lc c).length → (atm kc lc c).length ≤ 11 → (∀ (mc ms : Nat) (cnt : Int32) (a n : Nat) (val : Nat → Int32) (post : Int32 → Nat → Nat → (Nat → Int32) → Prop), W mc ms cnt a n val post → cnt = nI T.length → wp_Printer_show (d + 1) mc ms sz sz sz kc lc rc 0 cnt a n val (nI c) x2 post) → ∃ (T' : List Nat) (g' : Nat) (val' : Nat → Int32), SBX g' T' val' ∧ g ≤ g' ∧ EQ8 T' (T ++ atm kc lc c) ∧ (80 ≤ T.length → T' = T) ∧ (T.length < 80 → T.length < T'.length ∧ T'.length ≤ bd) ∧ ∀ (mc ms a : Nat) (post : Int32 → Nat → Nat → (Nat → Int32) → Prop), g' - g ≤ mc → 200 * (g' - g) ≤ ms → (∀ a', post (nI T'.length) a' (capOf g') val') → wp_Printer_show (d + 1) mc ms sz sz sz kc lc rc 0 (nI T.length) a (capOf g) val (nI c) x2 post := fun W hW w1 w2 hsh => by
      obtain ⟨g', val', i1, i2, i3⟩ := hW g T val hS (by omega)
      refine ⟨T ++ atm kc lc c, g', val', i1, i2, EQ8.refl, fun z => absurd z hf, fun _ => ?_, fun mc ms a post b1 b2 hp => hsh _ _ _ _ _ _ _ (i3 mc ms a post b1 b2 hp) rfl⟩
      rw [List.length_append]
      omega
    by_cases k0 : kc c = 0
    · have ea : atm kc lc c = numT (lc c) := if_pos k0
      obtain ⟨n1, n2, n3, n4⟩ := app_i (lc c)
      refine key _ (by rw [ea]; exact n4) (by rw [ea]; exact n2) (by rw [ea]; exact n1) (fun mc ms cnt a n val post hW ec => ?_)
      subst ec
      unfold wp_Printer_show wp_Printer_show_body
      refine q_full (by omega) (fun _ => ⟨fun _ => H.kindOf Uc ⟨fun _ => ⟨vp_in_nI l1 (by omega), mc, ms, by omega, by omega, ?_⟩, fun z => absurd k0 z⟩, fun z => absurd rfl z⟩) (fun z => absurd z hf)
      rw [nI_clamp (n := c) (by omega)]
      exact hW
    · by_cases k1 : kc c = 1
      · obtain ⟨E, e1, e2, e3, e4, e5, -⟩ := H.nameE Uc k1
        have ea : atm kc lc c = nmL E 6 := by unfold atm; rw [if_neg k0, if_pos k1, e2, nI_clamp (by omega)]
        refine key _ (by rw [ea]; exact app_n e1) (by rw [ea]; exact e3) (by rw [ea]; omega) (fun mc ms cnt a n val post hW ec => ?_)
        subst ec
        unfold wp_Printer_show wp_Printer_show_body
        refine q_full (by omega) (fun _ => ⟨fun _ => H.kindOf Uc ⟨fun z => absurd z k0, fun _ => ⟨fun _ => ⟨vp_in_nI l1 (by omega), mc, ms, by omega, by omega, ?_⟩, fun z => absurd k1 z⟩⟩, fun z => absurd rfl z⟩) (fun z => absurd z hf)
        rw [nI_clamp (n := c) (by omega), e2]
        exact hW
      · have ea : atm kc lc c = [102, 110] := by unfold atm; rw [if_neg k0, if_neg k1]
        refine key _ (by rw [ea]; exact app_fn) (by rw [ea]; decide) (by rw [ea]; decide) (fun mc ms cnt a n val post hW ec => ?_)
        subst ec
        unfold wp_Printer_show wp_Printer_show_body
        exact q_full (by omega) (fun _ => ⟨fun _ => H.kindOf Uc ⟨fun z => absurd z k0, fun _ => ⟨fun z => absurd z k1, fun _ => ⟨fun z => absurd z h2, fun _ => ⟨mc, ms, by omega, by omega, hW⟩⟩⟩⟩, fun z => absurd rfl z⟩) (fun z => absurd z hf)
theorem show_full {d : Nat} {T : List Nat} {mc ms a n : Nat} {val : Nat → Int32} {x1 x2 : Int32} {post : Int32 → Nat → Nat → (Nat → Int32) → Prop} (h : 80 ≤ T.length) (h2 : T.length ≤ 142) (hp : post (nI T.length) a n val) : wp_Printer_show (d + 1) mc ms sz sz sz kc lc rc 0 (nI T.length) a n val x1 x2 post := by
  unfold wp_Printer_show wp_Printer_show_body
  exact q_full h2 (fun z => absurd z (by omega)) (fun _ => ⟨fun z => absurd z (by decide), fun _ => hp⟩)
/-- a list is closed -/
theorem show_close (H : HP sz f fre kc lc rc tk km lm rm π G) {c d : Nat} (Uc : US sz f fre c) (pl : PL kc lc rc c) {bd : Nat} (hbd : 90 ≤ bd) (hbd2 : bd ≤ 122) (x2 : Int32) (tx : Nat → List Nat) (r : Nat) {g : Nat} {T T0 : List Nat} {val : Nat → Int32} (hS : SBX g T val) (hE : EQ8 T T0) (hT : T.length ≤ bd) (hc : 80 ≤ T.length ∨ ¬ kc c = 2) :
    ∃ (T' : List Nat) (g' : Nat) (val' : Nat → Int32), SBX g' T' val' ∧ g ≤ g' ∧ EQ8 T' (T0 ++ rst kc lc rc tx (r + 1) c) ∧ T.length < T'.length ∧ T'.length ≤ bd + 4 ∧ ∀ (mc ms a kc0 ks0 : Nat) (post : Int32 → Nat → Nat → (Nat → Int32) → Prop), kc0 + (g' - g) ≤ mc → ks0 + 200 * (g' - g) ≤ ms → (∀ a', post (nI T'.length) a' (capOf g') val') → wp_Printer_showPair_J119 mc ms (wp_Printer_show (d + 1)) sz sz sz kc lc rc 0 post x2 (nI c) (nI T.length) a (capOf g) val kc0 ks0 := by
  obtain ⟨l1, l2, l3⟩ := H.lt Uc
  by_cases c0 : c = 0
  · subst c0
    have k0 := (H.nil (c := 0) (by omega)).2.2
    have er : rst kc lc rc tx (r + 1) 0 = [41] := by
      unfold rst
      rw [if_neg (by rw [k0]; decide), if_pos rfl]
    rw [er]
    obtain ⟨g', val', i1, i2, i3⟩ := app_c (c := 41) (by decide) g T val hS (by show T.length + 1 ≤ 142; omega)
    have el : (T ++ [41]).length = T.length + 1 := List.length_append
    exact ⟨T ++ [41], g', val', i1, i2, hE.app _, by omega, by omega, fun mc ms a kc0 ks0 post b1 b2 hp => ⟨fun _ => ⟨g' - g, 200 * (g' - g), by omega, by omega, i3 _ _ _ _ (Nat.le_refl _) (Nat.le_refl _) hp⟩, fun z => absurd rfl z⟩⟩
  · have nz : ¬ nI c = 0 := nI_ne0 (by omega) (by omega)
    obtain ⟨g1, val1, i1, i2, i3⟩ := app_dot g T val hS (by show T.length + 3 ≤ 142; omega)
    have el : (T ++ [32, 46, 32]).length = T.length + 3 := List.length_append
    by_cases hf : 80 ≤ (T ++ [32, 46, 32]).length
    · obtain ⟨g', val', j1, j2, j3⟩ := app_c (c := 41) (by decide) g1 _ val1 i1 (by show (T ++ [32, 46, 32]).length + 1 ≤ 142; omega)
      have el2 : ((T ++ [32, 46, 32]) ++ [41]).length = T.length + 4 := by rw [List.length_append, el]; rfl
      refine ⟨(T ++ [32, 46, 32]) ++ [41], g', val', j1, by omega, ?_, by omega, by omega, fun mc ms a kc0 ks0 post b1 b2 hp => ⟨fun z => absurd z nz, fun _ => ⟨g1 - g, 200 * (g1 - g), by omega, by omega, i3 _ _ _ _ (Nat.le_refl _) (Nat.le_refl _) (fun a1 => ⟨0, 0, by omega, by omega, show_full hf (by omega) ⟨g' - g1, 200 * (g' - g1), by omega, by omega, j3 _ _ _ _ (Nat.le_refl _) (Nat.le_refl _) hp⟩⟩)⟩⟩⟩
      by_cases hf2 : 80 ≤ T.length
      · rw [List.append_assoc]
        exact hE.full hf2 _ _
      · have hk : ¬ kc c = 2 := by
          rcases hc with z | z
          · omega
          · exact z
        have er : rst kc lc rc tx (r + 1) c = [32, 46, 32] ++ (atm kc lc c ++ [41]) := by
          unfold rst
          rw [if_neg hk, if_neg c0]
        rw [er, ← List.append_assoc]
        exact (hE.app [32, 46, 32]).full hf _ _
    · have hk : ¬ kc c = 2 := by
        rcases hc with z | z
        · omega
        · exact z
      have er : rst kc lc rc tx (r + 1) c = [32, 46, 32] ++ (atm kc lc c ++ [41]) := by
        unfold rst
        rw [if_neg hk, if_neg c0]
      have h4 : ¬ kc c = 4 := pl c (RCH.root rfl)
      obtain ⟨T2, g2, val2, s1, s2, s3, s4, s5, s6⟩ := show_atom H (d := d) Uc h4 hk (bd := bd) hbd (by omega) x2 g1 _ _ val1 i1 (hE.app [32, 46, 32]) (by omega)
      have lt2 := s5 (by omega)
      obtain ⟨g', val', j1, j2, j3⟩ := app_c (c := 41) (by decide) g2 _ val2 s1 (by show T2.length + 1 ≤ 142; omega)
      have el2 : (T2 ++ [41]).length = T2.length + 1 := List.length_append
      refine ⟨T2 ++ [41], g', val', j1, by omega, ?_, by omega, by omega, fun mc ms a kc0 ks0 post b1 b2 hp => ⟨fun z => absurd z nz, fun _ => ⟨g1 - g, 200 * (g1 - g), by omega, by omega, i3 _ _ _ _ (Nat.le_refl _) (Nat.le_refl _) (fun a1 => ⟨g2 - g1, 200 * (g2 - g1), by omega, by omega, s6 _ _ _ _ (Nat.le_refl _) (Nat.le_refl _) (fun a2 => ⟨g' - g2, 200 * (g' - g2), by omega, by omega, j3 _ _ _ _ (Nat.le_refl _) (Nat.le_refl _) hp⟩)⟩)⟩⟩⟩
      rw [er]
      have := s3.app [41]
      rw [List.append_assoc, List.append_assoc] at this
      exact this
/-- the parts of a list behind its first -/
theorem show_rest (H : HP sz f fre kc lc rc tk km lm rm π G) {rk : Nat → Nat} (hrk : ∀ c b, US sz f fre c → b < 200 → (kc c = 2 ∨ kc c = 4) → rc c = nI b → rk b < rk c ∧ US sz f fre b) {d bd : Nat} (hbd : 90 ≤ bd) (hbd2 : bd ≤ 122) {x2 : Int32} {tx : Nat → List Nat}
    (hsh : ∀ c, US sz f fre c → PL kc lc rc c → SHO (fun mc ms cnt a n val post => wp_Printer_show (d + 1) mc ms sz sz sz kc lc rc 0 cnt a n val (nI c) (x2 + 1) post) (tx c) bd) :
    ∀ (r c i g : Nat) (T T0 : List Nat) (val : Nat → Int32), rk c < r → US sz f fre c → PL kc lc rc c → SBX g T val → EQ8 T T0 → T.length ≤ bd → i ≤ T.length → i ≤ 80 →
    ∃ (T' : List Nat) (g' : Nat) (val' : Nat → Int32), SBX g' T' val' ∧ g ≤ g' ∧ EQ8 T' (T0 ++ rst kc lc rc tx r c) ∧ T.length < T'.length ∧ T'.length ≤ bd + 4 ∧ ∀ (mc ms a kc0 ks0 : Nat) (post : Int32 → Nat → Nat → (Nat → Int32) → Prop), kc0 + (g' - g) ≤ mc → ks0 + 200 * (g' - g) ≤ ms → (∀ a', post (nI T'.length) a' (capOf g') val') → wp_Printer_showPair_L54 mc ms (wp_Printer_show (d + 1)) sz sz sz kc lc rc 0 (wp_Printer_showPair_J119 mc ms (wp_Printer_show (d + 1)) sz sz sz kc lc rc 0 post) post r x2 (nI c) (nI i) (nI T.length) a (capOf g) val kc0 ks0 := by
  intro r
  induction r with
  | zero => intro c i g T T0 val h; exact absurd h (Nat.not_lt_zero _)
  | succ r ih =>
    intro c i g T T0 val hr Uc pl hS hE hT hi hi8
    obtain ⟨l1, l2, l3⟩ := H.lt Uc
    by_cases hex : 80 ≤ T.length ∨ ¬ kc c = 2
    · obtain ⟨T', g', val', s1, s2, s3, s4, s5, s6⟩ := show_close H (d := d) Uc pl hbd hbd2 x2 tx r hS hE hT hex
      refine ⟨T', g', val', s1, s2, s3, s4, s5, fun mc ms a kc0 ks0 post b1 b2 hp => ?_⟩
      have fin := s6 mc ms a kc0 ks0 post b1 b2 hp
      refine ⟨fun _ => fin, fun _ => H.isPair Uc (fun k2 => ⟨fun z => absurd z (by decide), fun _ => q_full (by omega) (fun z => ?_) (fun _ => ⟨fun z => absurd z (by decide), fun _ => fin⟩)⟩) (fun _ => ⟨fun _ => fin, fun z => absurd rfl z⟩)⟩
      rcases hex with y | y
      · omega
      · exact absurd k2 y
    · have hl : T.length < 80 := by omega
      have hk : kc c = 2 := Classical.byContradiction fun z => hex (Or.inr z)
      obtain ⟨-, x, y, p1, p2, p3, p4, p5, p6⟩ := H.pr Uc hk
      have lx := H.lt p5
      have ly := H.lt p6
      obtain ⟨rl, -⟩ := hrk c y Uc (by omega) (Or.inl hk) p2
      obtain ⟨hd, w1, w2, w3, w4⟩ := H.head Uc
      obtain ⟨tl, u1, u2, u3, u4⟩ := H.tail Uc
      have lhd := H.lt w1
      have ltl := H.lt u1
      have f1 : hd = x := (nI_eq (by omega) (by omega)).mp ((w2 hk).1.symm.trans p1)
      have f2 : tl = y := (nI_eq (by omega) (by omega)).mp ((u2 hk).1.symm.trans p2)
      subst f1 f2
      have er : rst kc lc rc tx (r + 1) c = [32] ++ (tx hd ++ rst kc lc rc tx r tl) := by
        show (if kc c = 2 then _ else _) = _
        rw [if_pos hk, p1, p2, nI_clamp (n := hd) (by omega), nI_clamp (n := tl) (by omega)]
        rfl
      obtain ⟨g1, val1, i1, i2, i3⟩ := app_c (c := 32) (by decide) g T val hS (by show T.length + 1 ≤ 142; omega)
      have el : (T ++ [32]).length = T.length + 1 := List.length_append
      obtain ⟨T2, g2, val2, s1, s2, s3, s4, s5, s6⟩ := hsh hd w1 (pl.l H.2.1 w1 hk p1) g1 _ _ val1 i1 (hE.app [32]) (by omega)
      have l2b : (T ++ [32]).length ≤ T2.length ∧ T2.length ≤ bd := by
        rcases Nat.lt_or_ge (T ++ [32]).length 80 with z | z
        · have := s5 z; omega
        · rw [s4 z]; omega
      obtain ⟨T', g', val', t1, t2, t3, t4, t5, t6⟩ := ih tl (i + 1) g2 T2 _ val2 (by omega) u1 (pl.r H.2.1 u1 hk p2) s1 s3 l2b.2 (by omega) (by omega)
      refine ⟨T', g', val', t1, by omega, ?_, by omega, t5, fun mc ms a kc0 ks0 post b1 b2 hp => ?_⟩
      · rw [er]
        rw [List.append_assoc, List.append_assoc] at t3
        exact t3
      · refine ⟨fun z => absurd z (nI_ge (b := 80) (by omega) (by decide)), fun _ => H.isPair Uc (fun _ => ⟨fun z => absurd z (by decide), fun _ => q_full (by omega) (fun _ => ⟨fun _ => ⟨g1 - g, 200 * (g1 - g), by omega, by omega, i3 _ _ _ _ (Nat.le_refl _) (Nat.le_refl _) (fun a1 => w4 _ ⟨g2 - g1, 200 * (g2 - g1), by omega, by omega, s6 _ _ _ _ (Nat.le_refl _) (Nat.le_refl _) (fun a2 => u4 _ ?_)⟩)⟩, fun z => absurd rfl z⟩) (fun z => absurd z (by omega))⟩) (fun z => absurd hk z)⟩
        rw [nI_1]
        exact t6 mc ms a2 _ _ post (by omega) (by omega) hp
/-- a cell is shown; k levels are left -/
theorem show_cell (H : HP sz f fre kc lc rc tk km lm rm π G) {rk : Nat → Nat} {R : Nat} (hrk : ∀ c b, US sz f fre c → b < 200 → (kc c = 2 ∨ kc c = 4) → rc c = nI b → rk b < rk c ∧ US sz f fre b) (hR : ∀ c, US sz f fre c → rk c < R) : ∀ (k d c : Nat), k ≤ d → k ≤ 8 → US sz f fre c → PL kc lc rc c → SHO (fun mc ms cnt a n val post => wp_Printer_show (d + 1) mc ms sz sz sz kc lc rc 0 cnt a n val (nI c) (nI (9 - k)) post) (txt kc lc rc R k c) (90 + 4 * k) := by
  intro k
  induction k with
  | zero =>
    intro d c hd hk Uc pl
    have h4 : ¬ kc c = 4 := pl c (RCH.root rfl)
    by_cases k2 : kc c = 2
    · intro g T T0 val hS hE hb
      have ex : txt kc lc rc R 0 c = [35] := if_pos k2
      rw [ex]
      by_cases hf : 80 ≤ T.length
      · refine ⟨T, g, val, hS, Nat.le_refl _, by have := hE.full hf [] [35]; rw [List.append_nil] at this; exact this, fun _ => rfl, fun z => absurd z (by omega), fun mc ms a post b1 b2 hp => show_full hf (by omega) (hp a)⟩
      · obtain ⟨g', val', i1, i2, i3⟩ := app_c (c := 35) (by decide) g T val hS (by show T.length + 1 ≤ 142; omega)
        have el : (T ++ [35]).length = T.length + 1 := List.length_append
        refine ⟨T ++ [35], g', val', i1, i2, hE.app _, fun z => absurd z hf, fun _ => ⟨by omega, by omega⟩, fun mc ms a post b1 b2 hp => ?_⟩
        unfold wp_Printer_show wp_Printer_show_body wp_Printer_showPair
        exact q_full (by omega) (fun _ => ⟨fun _ => H.kindOf Uc ⟨fun z => absurd (k2.symm.trans z) (by decide), fun _ => ⟨fun z => absurd (k2.symm.trans z) (by decide), fun _ => ⟨fun _ => ⟨g' - g, 200 * (g' - g), by omega, by omega, fun z => absurd z (nI_ge (b := 9) (a := 8) (by decide) (by decide)), fun _ => ⟨g' - g, 200 * (g' - g), by omega, by omega, i3 _ _ _ _ (Nat.le_refl _) (Nat.le_refl _) hp⟩⟩, fun z => absurd k2 z⟩⟩⟩, fun z => absurd rfl z⟩) (fun z => absurd z hf)
    · have ex : txt kc lc rc R 0 c = atm kc lc c := if_neg k2
      rw [ex]
      exact show_atom H Uc h4 k2 (by omega) (by omega) _
  | succ k ih =>
    intro d c hd hk Uc pl
    have h4 : ¬ kc c = 4 := pl c (RCH.root rfl)
    by_cases k2 : kc c = 2
    · obtain ⟨d', rfl⟩ : ∃ d', d = d' + 1 := ⟨d - 1, by omega⟩
      obtain ⟨-, x, y, p1, p2, p3, p4, p5, p6⟩ := H.pr Uc k2
      have lx := H.lt p5
      have ly := H.lt p6
      obtain ⟨hd', w1, w2, w3, w4⟩ := H.head Uc
      obtain ⟨tl, u1, u2, u3, u4⟩ := H.tail Uc
      have lhd := H.lt w1
      have ltl := H.lt u1
      have f1 : hd' = x := (nI_eq (by omega) (by omega)).mp ((w2 k2).1.symm.trans p1)
      have f2 : tl = y := (nI_eq (by omega) (by omega)).mp ((u2 k2).1.symm.trans p2)
      subst f1 f2
      have ex : txt kc lc rc R (k + 1) c = [40] ++ (txt kc lc rc R k hd' ++ rst kc lc rc (txt kc lc rc R k) R tl) := by
        show (if kc c = 2 then _ else _) = _
        rw [if_pos k2, p1, p2, nI_clamp (n := hd') (by omega), nI_clamp (n := tl) (by omega)]
        rfl
      rw [ex]
      have e9 : nI (9 - (k + 1)) + 1 = nI (9 - k) := by rw [nI_1, show 9 - (k + 1) + 1 = 9 - k by omega]
      have hsh : ∀ c, US sz f fre c → PL kc lc rc c → SHO (fun mc ms cnt a n val post => wp_Printer_show (d' + 1) mc ms sz sz sz kc lc rc 0 cnt a n val (nI c) (nI (9 - (k + 1)) + 1) post) (txt kc lc rc R k c) (90 + 4 * k) := fun c hc pc => by
        rw [e9]
        exact ih d' c (by omega) (by omega) hc pc
      intro g T T0 val hS hE hb
      by_cases hf : 80 ≤ T.length
      · refine ⟨T, g, val, hS, Nat.le_refl _, by have := hE.full hf [] ([40] ++ (txt kc lc rc R k hd' ++ rst kc lc rc (txt kc lc rc R k) R tl)); rw [List.append_nil] at this; exact this, fun _ => rfl, fun z => absurd z (by omega), fun mc ms a post b1 b2 hp => show_full hf (by omega) (hp a)⟩
      · obtain ⟨g1, val1, i1, i2, i3⟩ := app_c (c := 40) (by decide) g T val hS (by show T.length + 1 ≤ 142; omega)
        have el : (T ++ [40]).length = T.length + 1 := List.length_append
        obtain ⟨T2, g2, val2, s1, s2, s3, s4, s5, s6⟩ := hsh hd' w1 (pl.l H.2.1 w1 k2 p1) g1 _ _ val1 i1 (hE.app [40]) (by omega)
        have l2b : (T ++ [40]).length ≤ T2.length ∧ T2.length ≤ 90 + 4 * k := by
          rcases Nat.lt_or_ge (T ++ [40]).length 80 with z | z
          · have := s5 z; omega
          · rw [s4 z]; omega
        obtain ⟨T', g', val', t1, t2, t3, t4, t5, t6⟩ := show_rest H hrk (d := d') (bd := 90 + 4 * k) (by omega) (by omega) (x2 := nI (9 - (k + 1))) hsh R tl 0 g2 T2 _ val2 (hR tl u1) u1 (pl.r H.2.1 u1 k2 p2) s1 s3 l2b.2 (Nat.zero_le _) (Nat.zero_le _)
        refine ⟨T', g', val', t1, by omega, ?_, fun z => absurd z hf, fun _ => ⟨by omega, by omega⟩, fun mc ms a post b1 b2 hp => ?_⟩
        · rw [List.append_assoc, List.append_assoc] at t3
          exact t3
        · have t7 := fun a2 => t6 (g' - g) (200 * (g' - g)) a2 (0 + (g1 - g) + (g2 - g1)) (0 + 200 * (g1 - g) + 200 * (g2 - g1)) post (by omega) (by omega) hp
          show wp_Printer_show_body mc ms (wp_Printer_show (d' + 1)) sz sz sz kc lc rc 0 (nI T.length) a (capOf g) val (nI c) (nI (9 - (k + 1))) post
          unfold wp_Printer_show_body wp_Printer_showPair
          exact q_full (by omega) (fun _ => ⟨fun _ => H.kindOf Uc ⟨fun z => absurd (k2.symm.trans z) (by decide), fun _ => ⟨fun z => absurd (k2.symm.trans z) (by decide), fun _ => ⟨fun _ => ⟨g' - g, 200 * (g' - g), by omega, by omega, fun _ => ⟨g1 - g, 200 * (g1 - g), by omega, by omega, i3 _ _ _ _ (Nat.le_refl _) (Nat.le_refl _) (fun a1 => w4 _ ⟨g2 - g1, 200 * (g2 - g1), by omega, by omega, s6 _ _ _ _ (Nat.le_refl _) (Nat.le_refl _) (fun a2 => u4 _ ⟨R, t7 a2⟩)⟩)⟩, fun z => absurd (nI_le (b := 8) (by omega) (by decide)) z⟩, fun z => absurd k2 z⟩⟩⟩, fun z => absurd rfl z⟩) (fun z => absurd z hf)
    · have ex : txt kc lc rc R (k + 1) c = atm kc lc c := if_neg k2
      rw [ex]
      exact show_atom H Uc h4 k2 (by omega) (by omega) _
end
/-! printing, the reference -/
def OUTM (T : List Nat) (outs : Int32) (out : Nat → Int32) : Prop := outs = nI (T.take 80).length ∧ ∀ i, i < (T.take 80).length → out i = nI ((T.take 80).getD i 0)
theorem take_len (T : List Nat) : (T.take 80).length = min 80 T.length := List.length_take
theorem OUTM.full {T : List Nat} {outs : Int32} {out : Nat → Int32} (h : OUTM T outs out) (hf : 80 ≤ T.length) (X : List Nat) : OUTM (T ++ X) outs out := by
  unfold OUTM
  rw [List.take_append_of_le_length hf]
  exact h
theorem OUTM.is {T : List Nat} {outs : Int32} {out : Nat → Int32} (h : OUTM T outs out) : (80 ≤ T.length → (80 : Int32) ≤ outs) ∧ (T.length < 80 → ¬ (80 : Int32) ≤ outs) := by
  have l := take_len T
  refine ⟨fun z => ?_, fun z => ?_⟩
  · rw [h.1, l, show min 80 T.length = 80 by omega]
    exact Int32.le_refl _
  · rw [h.1, l, show min 80 T.length = T.length by omega]
    exact nI_ge (b := 80) z (by decide)
theorem m_show {T : List Nat} {outs : Int32} {out : Nat → Int32} {c : Nat} {post : Int32 → (Nat → Int32) → Prop} (h : OUTM T outs out) (hp : ∀ outs' out', OUTM (T ++ [c]) outs' out' → post outs' out') : wp_Model_show outs out (nI c) post := by
  rcases Nat.lt_or_ge T.length 80 with z | z
  · have e : T.take 80 = T := List.take_of_length_le (by omega)
    have el : (T ++ [c]).length = T.length + 1 := List.length_append
    have e2 : (T ++ [c]).take 80 = T ++ [c] := List.take_of_length_le (by omega)
    obtain ⟨h1, h2⟩ := h
    rw [e] at h1 h2
    refine ⟨fun y => absurd y (by rw [h1]; exact nI_ge (b := 80) z (by decide)), fun _ => ⟨by rw [h1]; exact vp_in_nI z (by decide), hp _ _ ⟨?_, fun i hi => ?_⟩⟩⟩
    · rw [h1, nI_1, e2, el]
    · rw [e2] at hi ⊢
      rw [h1, nI_clamp (n := T.length) (by omega), getD_snoc (by omega)]
      by_cases c1 : i = T.length
      · rw [if_pos c1, c1, pk_us]
      · rw [if_neg c1, pk_un c1, h2 i (by omega)]
  · exact ⟨fun _ => hp _ _ (h.full z _), fun y => absurd (h.is.1 z) y⟩
theorem lN_toI (d : Nat) : (lN d).toInt32 = nI d := Int64.toInt32_ofNat'
theorem m_dig {b o n : Nat} (hb : 2 ≤ b) (hb2 : b ≤ 27) (ho : o ≤ 96) (hn : n < 2 ^ 33) {post : Int32 → (Nat → Int32) → Prop} : ∀ (j i : Nat) (T : List Nat) (outs : Int32) (out : Nat → Int32), OUTM T outs out → i + j ≤ 9 → (∀ outs' out', OUTM (T ++ (tp b n j).map (fun d => o + d)) outs' out' → post outs' out') → wp_Model_digits_L39 post (j + 2) (lN n) (nI b) (nI o) (lN (b ^ j)) (nI i) outs out := by
  have pb : ∀ j, j ≤ 9 → b ^ j < 2 ^ 63 ∧ 0 < b ^ j := fun j hj => ⟨by
    have h1 : b ^ j ≤ 27 ^ 9 := Nat.le_trans (Nat.pow_le_pow_left hb2 j) (Nat.pow_le_pow_right (by decide) hj)
    have h2 : (27 : Nat) ^ 9 < 2 ^ 63 := by decide
    omega, Nat.pow_pos (by omega)⟩
  have eb : (nI b).toInt64 = lN b := nI_l (by omega)
  have n0 : ¬ lN b = 0 := fun z => absurd ((pk_lEQ (b := 0) (by omega) (by decide)).mp z) (by omega)
  intro j
  induction j with
  | zero =>
    intro i T outs out hO hi hp
    have e1 : b ^ 0 = 1 := Nat.pow_zero b
    rw [e1]
    refine ⟨fun z => absurd z (nI_ge (b := 11) (by omega) (by decide)), fun _ => ⟨fun z => absurd ((pk_lLE (a := 1) (b := 0) (by decide) (by decide)).mp z) (by decide), fun _ => ⟨by decide, ?_⟩⟩⟩
    rw [eb, pk_lDiv (b := 1) (by omega) (by decide) (by decide), Nat.div_one, pk_lRem (by omega) (by omega) (by omega), lN_toI, nI_add, Nat.add_comm (n % b) o]
    refine ⟨n0, m_show hO (fun outs' out' h => ⟨n0, ?_⟩)⟩
    rw [pk_lDiv (a := 1) (by decide) (by omega) (by omega), Nat.div_eq_of_lt (show 1 < b by omega), nI_1]
    exact ⟨fun _ => hp _ _ h, fun _ => ⟨fun _ => hp _ _ h, fun z => absurd ((pk_lLE (a := 0) (b := 0) (by decide) (by decide)).mpr (Nat.le_refl _)) z⟩⟩
  | succ j ih =>
    intro i T outs out hO hi hp
    obtain ⟨q1, q2⟩ := pb (j + 1) (by omega)
    refine ⟨fun z => absurd z (nI_ge (b := 11) (by omega) (by decide)), fun _ => ⟨fun z => absurd ((pk_lLE (b := 0) q1 (by decide)).mp z) (by omega), fun _ => ⟨fun z => absurd ((pk_lEQ (b := 0) q1 (by decide)).mp z) (by omega), ?_⟩⟩⟩
    have nd : n / b ^ (j + 1) < 2 ^ 63 := Nat.lt_of_le_of_lt (Nat.div_le_self _ _) (by omega)
    rw [eb, pk_lDiv (by omega) q2 q1, pk_lRem nd (by omega) (by omega), lN_toI, nI_add, Nat.add_comm _ o]
    refine ⟨n0, m_show hO (fun outs' out' h => ⟨n0, ?_⟩)⟩
    have ed : b ^ (j + 1) / b = b ^ j := by rw [Nat.pow_succ, Nat.mul_div_cancel _ (by omega)]
    rw [pk_lDiv q1 (by omega) (by omega), ed, nI_1]
    refine ih (i + 1) _ outs' out' h (by omega) (fun o2 u2 h2 => hp o2 u2 ?_)
    rw [tp_top, List.map_cons]
    rw [List.append_assoc] at h2
    exact h2
theorem m_digits {b o n k : Nat} (hb : 2 ≤ b) (hb2 : b ≤ 27) (ho : o ≤ 96) (hn : n < 2 ^ 33) (hk : k ≤ 9) (h1 : n < b ^ (k + 1)) (h2 : k = 0 ∨ b ^ k ≤ n) {post : Int32 → (Nat → Int32) → Prop} {T : List Nat} {outs : Int32} {out : Nat → Int32} (hO : OUTM T outs out) (hp : ∀ outs' out', OUTM (T ++ (tp b n k).map (fun d => o + d)) outs' out' → post outs' out') : wp_Model_digits outs out (lN n) (nI b) (nI o) post := by
  have pb : ∀ j, j ≤ 9 → b ^ j < 2 ^ 63 ∧ 0 < b ^ j := fun j hj => ⟨by
    have h1 : b ^ j ≤ 27 ^ 9 := Nat.le_trans (Nat.pow_le_pow_left hb2 j) (Nat.pow_le_pow_right (by decide) hj)
    have h2 : (27 : Nat) ^ 9 < 2 ^ 63 := by decide
    omega, Nat.pow_pos (by omega)⟩
  have eb : (nI b).toInt64 = lN b := nI_l (by omega)
  have loop : ∀ (r j : Nat), j + r = k → wp_Model_digits_L6 (wp_Model_digits_J36 post) post (r + 1) (lN n) (nI b) (nI o) (lN (b ^ j)) (nI j) outs out := by
    intro r
    induction r with
    | zero =>
      intro j e
      have ej : j = k := e
      subst ej
      obtain ⟨q1, q2⟩ := pb j hk
      refine ⟨fun z => absurd z (nI_ge (b := 10) (by omega) (by decide)), fun _ => ⟨fun z => absurd ((pk_lEQ (b := 0) q1 (by decide)).mp z) (by omega), ?_⟩⟩
      rw [eb, pk_lDiv (by omega) q2 q1]
      have nd : n / b ^ j < b := by rw [Nat.div_lt_iff_lt_mul q2, Nat.mul_comm, ← Nat.pow_succ]; exact h1
      exact ⟨fun _ => ⟨j + 2, m_dig hb hb2 ho hn j 0 T outs out hO (by omega) hp⟩, fun z => absurd ((pk_lLT (by omega) (by omega)).mpr nd) z⟩
    | succ r ih =>
      intro j e
      obtain ⟨q1, q2⟩ := pb j (by omega)
      refine ⟨fun z => absurd z (nI_ge (b := 10) (by omega) (by decide)), fun _ => ⟨fun z => absurd ((pk_lEQ (b := 0) q1 (by decide)).mp z) (by omega), ?_⟩⟩
      rw [eb, pk_lDiv (by omega) q2 q1]
      have nd : ¬ n / b ^ j < b := by
        rw [Nat.div_lt_iff_lt_mul q2, Nat.mul_comm, ← Nat.pow_succ]
        show ¬ n < b ^ (j + 1)
        have : b ^ (j + 1) ≤ b ^ k := Nat.pow_le_pow_right (by omega) (by omega)
        rcases h2 with z | z
        · omega
        · omega
      have nd2 : n / b ^ j < 2 ^ 63 := Nat.lt_of_le_of_lt (Nat.div_le_self _ _) (by omega)
      refine ⟨fun z => absurd ((pk_lLT nd2 (by omega)).mp z) nd, fun _ => ?_⟩
      rw [lN_mul, ← Nat.pow_succ, nI_1]
      exact ih (j + 1) (by omega)
  have e1 : b ^ 0 = 1 := Nat.pow_zero b
  have := loop k 0 (Nat.zero_add k)
  rw [e1] at this
  exact ⟨k + 1, this⟩
theorem tp_fold27 : ∀ (l : List Nat) (a j : Nat), (∀ x ∈ l, x < 27) → tp 27 (l.foldl (fun a x => a * 27 + x) a) (j + l.length) = tp 27 a j ++ l
  | [], a, j, _ => (List.append_nil _).symm
  | x :: t, a, j, h => by
    have hx := h x List.mem_cons_self
    show tp 27 (t.foldl (fun a x => a * 27 + x) (a * 27 + x)) (j + (t.length + 1)) = tp 27 a j ++ (x :: t)
    rw [show j + (t.length + 1) = (j + 1) + t.length by omega, tp_fold27 t (a * 27 + x) (j + 1) (fun y hy => h y (List.mem_cons_of_mem _ hy))]
    show (tp 27 ((a * 27 + x) / 27) j ++ [(a * 27 + x) % 27]) ++ t = _
    rw [show (a * 27 + x) / 27 = a by omega, show (a * 27 + x) % 27 = x by omega, List.append_assoc]
    rfl
theorem fold27_ge : ∀ (l : List Nat) (a : Nat), a * 27 ^ l.length ≤ l.foldl (fun a x => a * 27 + x) a
  | [], a => by show a * 27 ^ 0 ≤ a; rw [Nat.pow_zero, Nat.mul_one]; exact Nat.le_refl _
  | x :: t, a => by
    show a * 27 ^ (t.length + 1) ≤ t.foldl (fun a x => a * 27 + x) (a * 27 + x)
    refine Nat.le_trans ?_ (fold27_ge t (a * 27 + x))
    rw [Nat.pow_succ, Nat.mul_comm (27 ^ t.length) 27, ← Nat.mul_assoc]
    exact Nat.mul_le_mul_right _ (by omega)
theorem name27 {l : List Nat} (h : isNm l) : tp 27 (enc 27 l) (l.length - 1) = l ∧ enc 27 l < 27 ^ (l.length - 1 + 1) ∧ 27 ^ (l.length - 1) ≤ enc 27 l := by
  have h1 := enc_lt (q := 27) (l := l) (fun x hx => by have := h.2.2 x hx; omega)
  rcases l with _ | ⟨x, t⟩
  · exact absurd rfl h.1
  · have hx := h.2.2 x List.mem_cons_self
    have hl : (x :: t).length - 1 = t.length := rfl
    have ee : enc 27 (x :: t) = t.foldl (fun a x => a * 27 + x) x := by
      show t.foldl (fun a x => a * 27 + x) (0 * 27 + x) = _
      rw [Nat.zero_mul, Nat.zero_add]
    rw [hl]
    refine ⟨?_, h1, ?_⟩
    · rw [ee]
      have := tp_fold27 t x 0 (fun y hy => by have := h.2.2 y (List.mem_cons_of_mem _ hy); omega)
      rw [Nat.zero_add] at this
      rw [this]
      show [x % 27] ++ t = x :: t
      rw [Nat.mod_eq_of_lt (by omega)]
      rfl
    · rw [ee]
      refine Nat.le_trans ?_ (fold27_ge t x)
      exact Nat.le_mul_of_pos_left _ (by omega)
section
variable {sz f : Nat} {fre kc lc rc tk km lm rm : Nat → Int32} {π : Nat → Nat} {G : Nat → Prop}
theorem m_simple (H : HP sz f fre kc lc rc tk km lm rm π G) {c : Nat} (Uc : US sz f fre c) (h4 : ¬ kc c = 4) (h2 : ¬ kc c = 2) {T : List Nat} {outs : Int32} {out : Nat → Int32} {post : Int32 → (Nat → Int32) → Prop} (hO : OUTM T outs out) (hp : ∀ outs' out', OUTM (T ++ atm kc lc c) outs' out' → post outs' out') : wp_Model_simple outs km lm out (nI (π c)) post := by
  obtain ⟨l1, l2, l3⟩ := H.lt Uc
  have vc : vp_in (nI (π c)) 200 := vp_in_nI (by omega) (by decide)
  unfold wp_Model_simple
  rw [nI_clamp (n := π c) (by omega)]
  refine ⟨vc, ?_⟩
  rcases (H.2.2.2.2.2.1 c Uc).2.2 with ⟨z1, z2, z3⟩ | z | z | z | z
  · have ea : atm kc lc c = numT (lc c) := if_pos z1
    rw [ea] at hp
    refine ⟨fun z => absurd (z2.symm.trans z) (by decide), fun _ => ⟨vc, fun z => absurd (z2.symm.trans z) (by decide), fun _ => ⟨vc, ?_⟩⟩⟩
    rw [z3]
    have hv1 := Int32.toInt_lt (lc c)
    have hv2 := Int32.le_toInt (lc c)
    have e10 : (10 : Nat) ^ 10 = 10000000000 := by decide
    obtain ⟨s1, s2, s3, s4, s5, s6⟩ := dec_facts (N := (lc c).toInt.natAbs) (by omega)
    have z0 : (0 : Int64).toInt = 0 := by decide
    by_cases hv : lc c < 0
    · have en : numT (lc c) = [45] ++ decT (lc c).toInt.natAbs := if_pos hv
      have hneg : (lc c).toInt < 0 := Int32.lt_iff_toInt_lt.mp hv
      have ng : ¬ (0 : Int64) ≤ (lc c).toInt64 := fun z => by
        rw [Int64.le_iff_toInt_le, Int32.toInt_toInt64, z0] at z
        omega
      have em : -(lc c).toInt64 = lN (lc c).toInt.natAbs := by
        apply Int64.toInt_inj.mp
        rw [Int64.toInt_neg, Int32.toInt_toInt64, pk_lT (by omega), Int.bmod_eq_of_le (by omega) (by omega)]
        omega
      refine ⟨fun z => absurd z ng, fun _ => m_show hO (fun o1 u1 h1 => ⟨fun z => absurd z ng, fun _ => ?_⟩)⟩
      rw [em]
      refine m_digits (b := 10) (o := 48) (by decide) (by decide) (by decide) (by omega) s2 s3 s4 h1 (fun o2 u2 h2 => hp o2 u2 ?_)
      rw [en, ← List.append_assoc]
      exact h2
    · have en : numT (lc c) = decT (lc c).toInt.natAbs := if_neg hv
      have hpos : 0 ≤ (lc c).toInt := by
        rw [Int32.lt_iff_toInt_lt] at hv
        exact Int.not_lt.mp hv
      have ng : (0 : Int64) ≤ (lc c).toInt64 := by
        rw [Int64.le_iff_toInt_le, Int32.toInt_toInt64, z0]
        exact hpos
      have em : (lc c).toInt64 = lN (lc c).toInt.natAbs := by
        apply Int64.toInt_inj.mp
        rw [Int32.toInt_toInt64, pk_lT (by omega)]
        omega
      refine ⟨fun _ => ⟨fun _ => ?_, fun z => absurd ng z⟩, fun z => absurd ng z⟩
      rw [em]
      refine m_digits (b := 10) (o := 48) (by decide) (by decide) (by decide) (by omega) s2 s3 s4 hO (fun o2 u2 h2 => hp o2 u2 ?_)
      rw [en]
      exact h2
  · obtain ⟨E, e1, e2, e3, e4, e5, l, il, el, em⟩ := H.nameE Uc z.1
    have ea : atm kc lc c = l.map (fun x => 96 + x) := by
      unfold atm
      rw [if_neg (by rw [z.1]; decide), if_pos z.1, e2, nI_clamp (by omega), el]
    obtain ⟨t1, t2, t3⟩ := name27 il
    have hb := enc_bound (q := 27) (by decide) (by decide) il
    have ll := il.2.1
    refine ⟨fun y => absurd (z.2.1.symm.trans y) (by decide), fun _ => ⟨vc, fun _ => ⟨vc, ?_⟩, fun y => absurd z.2.1 y⟩⟩
    rw [em, nI_l (by omega)]
    refine m_digits (b := 27) (o := 96) (by decide) (by decide) (by decide) (by omega) (by omega) t2 (Or.inr t3) hO (fun o2 u2 h2 => hp o2 u2 ?_)
    rw [ea]
    rw [t1] at h2
    exact h2
  · exact absurd z.1 h2
  · have ea : atm kc lc c = [102] ++ [110] := by
      unfold atm
      rw [if_neg (by rw [z.1]; decide), if_neg (by rw [z.1]; decide)]
      rfl
    refine ⟨fun _ => m_show (c := 102) hO (fun o1 u1 h1 => m_show (c := 110) h1 (fun o2 u2 h2 => hp o2 u2 ?_)), fun y => absurd z.2.1 y⟩
    rw [ea, ← List.append_assoc]
    exact h2
  · exact absurd z.1 h4
theorem m_close (H : HP sz f fre kc lc rc tk km lm rm π G) {c r : Nat} {tx : Nat → List Nat} (Uc : US sz f fre c) (pl : PL kc lc rc c) (h2 : ¬ kc c = 2) {T : List Nat} {outs : Int32} {out : Nat → Int32} {post : Int32 → (Nat → Int32) → Prop} (hO : OUTM T outs out) (hp : ∀ outs' out', OUTM (T ++ rst kc lc rc tx (r + 1) c) outs' out' → post outs' out') : wp_Model_close outs km lm out (nI (π c)) post := by
  obtain ⟨l1, l2, l3⟩ := H.lt Uc
  have n0 := H.nil (c := 0) (by omega)
  by_cases c0 : c = 0
  · have er : rst kc lc rc tx (r + 1) c = [41] := by
      unfold rst
      rw [if_neg h2, if_pos c0]
    rw [er] at hp
    refine ⟨fun _ => m_show (c := 41) hO hp, fun z => absurd ?_ z⟩
    rw [c0, n0.2.1]
    rfl
  · have er : rst kc lc rc tx (r + 1) c = [32, 46, 32] ++ (atm kc lc c ++ [41]) := by
      unfold rst
      rw [if_neg h2, if_neg c0]
    rw [er] at hp
    refine ⟨fun z => ?_, fun _ => m_show (c := 32) hO (fun o1 u1 h1 => m_show (c := 46) h1 (fun o2 u2 h2' => m_show (c := 32) h2' (fun o3 u3 h3 => m_simple H Uc (pl c (RCH.root rfl)) h2 h3 (fun o4 u4 h4 => m_show (c := 41) h4 (fun o5 u5 h5 => hp o5 u5 ?_)))))⟩
    · have : π c = 0 := (nI_eq (b := 0) (by omega) (by decide)).mp z
      exact absurd (H.inj Uc n0.1 (this.trans n0.2.1.symm)) c0
    · have e : T ++ ([32, 46, 32] ++ (atm kc lc c ++ [41])) = ((((T ++ [32]) ++ [46]) ++ [32]) ++ atm kc lc c) ++ [41] := by
        rw [List.append_assoc, List.append_assoc, List.append_assoc, List.append_assoc]
        rfl
      rw [e]
      exact h5
/-- a cell is shown at height h of the stack -/
def MSH (i_s : Int32) (km lm rm : Nat → Int32) (h : Nat) (c : Nat) (X : List Nat) (π : Nat → Nat) : Prop := ∀ T : List Nat, ∃ N : Nat, ∀ (outs : Int32) (out tails : Nat → Int32), OUTM T outs out → ∀ (fu : Nat) (post : Int32 → (Nat → Int32) → (Nat → Int32) → Prop), (∀ (outs' : Int32) (out' tails' : Nat → Int32) (v2' : Int32), OUTM (T ++ X) outs' out' → (∀ i, i < h → tails' i = tails i) → wp_Model_print_L19 i_s km lm rm post (fu + 1) (nI h) v2' 0 outs' out' tails') → wp_Model_print_L19 i_s km lm rm post (fu + 1 + N) (nI h) (nI (π c)) 1 outs out tails
theorem m_rest (H : HP sz f fre kc lc rc tk km lm rm π G) {i_s : Int32} {rk : Nat → Nat} (hrk : ∀ c b, US sz f fre c → b < 200 → (kc c = 2 ∨ kc c = 4) → rc c = nI b → rk b < rk c ∧ US sz f fre b) {h : Nat} (hh : h < 8) {tx : Nat → List Nat} (hsh : ∀ c, US sz f fre c → PL kc lc rc c → MSH i_s km lm rm (h + 1) c (tx c) π) :
    ∀ (r c : Nat) (T : List Nat), rk c < r → US sz f fre c → PL kc lc rc c → ∃ N : Nat, ∀ (outs : Int32) (out tails : Nat → Int32) (v2 : Int32), OUTM T outs out → tails h = nI (π c) → ∀ (fu : Nat) (post : Int32 → (Nat → Int32) → (Nat → Int32) → Prop), (∀ (outs' : Int32) (out' tails' : Nat → Int32) (v2' : Int32), OUTM (T ++ rst kc lc rc tx r c) outs' out' → (∀ i, i < h → tails' i = tails i) → wp_Model_print_L19 i_s km lm rm post (fu + 1) (nI h) v2' 0 outs' out' tails') → wp_Model_print_L19 i_s km lm rm post (fu + 1 + N) (nI (h + 1)) v2 0 outs out tails := by
  intro r
  induction r with
  | zero => intro c T hr; exact absurd hr (Nat.not_lt_zero _)
  | succ r ih =>
    intro c T hr Uc pl
    obtain ⟨l1, l2, l3⟩ := H.lt Uc
    have vc : vp_in (nI (π c)) 200 := vp_in_nI (by omega) (by decide)
    have ec : (nI (π c)).toNatClampNeg = π c := nI_clamp (by omega)
    have vh : vp_in (nI (h + 1) - 1) 8 := by rw [nI_pred]; exact vp_in_nI hh (by decide)
    have eh : (nI (h + 1) - 1).toNatClampNeg = h := by rw [nI_pred]; exact nI_clamp (by omega)
    have nle : ¬ nI (h + 1) ≤ 0 := nI_ge (b := h + 1) (a := 0) (by omega) (by omega)
    rcases Nat.lt_or_ge T.length 80 with hl | hl
    · by_cases hk : kc c = 2
      · obtain ⟨mk, x, y, p1, p2, p3, p4, p5, p6⟩ := H.pr Uc hk
        have lx := H.lt p5
        have ly := H.lt p6
        obtain ⟨rl, -⟩ := hrk c y Uc (by omega) (Or.inl hk) p2
        have er : rst kc lc rc tx (r + 1) c = [32] ++ (tx x ++ rst kc lc rc tx r y) := by
          show (if kc c = 2 then _ else _) = _
          rw [if_pos hk, p1, p2, nI_clamp (n := x) (by omega), nI_clamp (n := y) (by omega)]
          rfl
        obtain ⟨N1, g1⟩ := hsh x p5 (pl.l H.2.1 p5 hk p1) (T ++ [32])
        obtain ⟨N2, g2⟩ := ih y ((T ++ [32]) ++ tx x) (by omega) p6 (pl.r H.2.1 p6 hk p2)
        refine ⟨N2 + N1 + 1, fun outs out tails v2 hO ht fu post hp => ?_⟩
        have nf := hO.is.2 hl
        refine ⟨fun z => absurd z nf, fun _ => ⟨fun _ => ⟨fun z => absurd z nle, fun _ => ⟨fun _ => ⟨vh, ?_⟩, fun z => absurd rfl z⟩⟩, fun z => absurd rfl z⟩⟩
        rw [eh, ht]
        refine ⟨fun _ => ⟨fun _ => ⟨fun _ => H.mpair Uc (fun _ => ⟨fun z => absurd z (by decide), fun _ => m_show (c := 32) hO (fun o1 u1 h1 => ⟨vc, vh, vc, ?_⟩)⟩) (fun z => absurd hk z), fun z => absurd rfl z⟩, fun z => absurd rfl z⟩, fun z => absurd rfl z⟩
        rw [ec, eh, p3, p4]
        have ef : fu + 1 + (N2 + N1 + 1) = (fu + N2) + 1 + N1 + 1 := by omega
        show wp_Model_print_L19 i_s km lm rm post (fu + 1 + (N2 + N1)) (nI (h + 1)) (nI (π x)) 1 o1 u1 (upd tails h (nI (π y)))
        rw [show fu + 1 + (N2 + N1) = (fu + N2) + 1 + N1 by omega]
        refine g1 o1 u1 _ h1 (fu + N2) post (fun o2 u2 t2 v2' h2 ht2 => ?_)
        rw [show fu + N2 + 1 = fu + 1 + N2 by omega]
        refine g2 o2 u2 t2 v2' h2 (by rw [ht2 h (by omega), pk_us]) fu post (fun o3 u3 t3 v3' h3 ht3 => hp o3 u3 t3 v3' ?_ (fun i hi => ?_))
        · rw [er, ← List.append_assoc, ← List.append_assoc]
          exact h3
        · rw [ht3 i hi, ht2 i (by omega), pk_un (by omega)]
      · refine ⟨1, fun outs out tails v2 hO ht fu post hp => ?_⟩
        have nf := hO.is.2 hl
        refine ⟨fun z => absurd z nf, fun _ => ⟨fun _ => ⟨fun z => absurd z nle, fun _ => ⟨fun _ => ⟨vh, ?_⟩, fun z => absurd rfl z⟩⟩, fun z => absurd rfl z⟩⟩
        rw [eh, ht]
        refine ⟨fun _ => ⟨fun _ => ⟨fun _ => H.mpair Uc (fun z => absurd z hk) (fun _ => ⟨fun _ => m_close (r := r) (tx := tx) H Uc pl hk hO (fun o1 u1 h1 => ?_), fun z => absurd rfl z⟩), fun z => absurd rfl z⟩, fun z => absurd rfl z⟩, fun z => absurd rfl z⟩
        unfold wp_Model_print_J188
        rw [pk_m1]
        exact hp o1 u1 tails _ h1 (fun _ _ => rfl)
    · refine ⟨0, fun outs out tails v2 hO ht fu post hp => ?_⟩
      have := hp outs out tails v2 (hO.full hl _) (fun _ _ => rfl)
      exact ⟨fun z => this.1 z, fun z => absurd (hO.is.1 hl) z⟩
theorem m_cell (H : HP sz f fre kc lc rc tk km lm rm π G) {i_s : Int32} {rk : Nat → Nat} {R : Nat} (hrk : ∀ c b, US sz f fre c → b < 200 → (kc c = 2 ∨ kc c = 4) → rc c = nI b → rk b < rk c ∧ US sz f fre b) (hR : ∀ c, US sz f fre c → rk c < R) : ∀ (k c : Nat), k ≤ 8 → US sz f fre c → PL kc lc rc c → MSH i_s km lm rm (8 - k) c (txt kc lc rc R k c) π := by
  intro k
  induction k with
  | zero =>
    intro c hk Uc pl T
    obtain ⟨l1, l2, l3⟩ := H.lt Uc
    rcases Nat.lt_or_ge T.length 80 with hl | hl
    · refine ⟨1, fun outs out tails hO fu post hp => ?_⟩
      have nf := hO.is.2 hl
      have n1 : ¬ (1 : Int32) = 0 := by decide
      refine ⟨fun z => absurd z nf, fun _ => ⟨fun z => absurd z n1, fun _ => ⟨fun z => absurd z n1, fun _ => ⟨fun z => absurd z n1, fun _ => H.mpair Uc (fun k2 => ⟨fun z => absurd z n1, fun _ => ⟨fun z => absurd z n1, fun _ => ⟨fun _ => m_show (c := 35) hO (fun o1 u1 h1 => hp o1 u1 tails _ ?_ (fun _ _ => rfl)), fun z => absurd rfl z⟩⟩⟩) (fun k2 => ⟨fun _ => m_simple H Uc (pl c (RCH.root rfl)) k2 hO (fun o1 u1 h1 => hp o1 u1 tails _ ?_ (fun _ _ => rfl)), fun z => absurd rfl z⟩)⟩⟩⟩⟩
      · have ex : txt kc lc rc R 0 c = [35] := if_pos k2
        rw [ex]; exact h1
      · have ex : txt kc lc rc R 0 c = atm kc lc c := if_neg k2
        rw [ex]; exact h1
    · refine ⟨0, fun outs out tails hO fu post hp => ?_⟩
      have := hp outs out tails 0 (hO.full hl _) (fun _ _ => rfl)
      exact ⟨fun z => this.1 z, fun z => absurd (hO.is.1 hl) z⟩
  | succ k ih =>
    intro c hk Uc pl T
    obtain ⟨l1, l2, l3⟩ := H.lt Uc
    have vc : vp_in (nI (π c)) 200 := vp_in_nI (by omega) (by decide)
    have ec : (nI (π c)).toNatClampNeg = π c := nI_clamp (by omega)
    have n1 : ¬ (1 : Int32) = 0 := by decide
    rcases Nat.lt_or_ge T.length 80 with hl | hl
    · by_cases k2 : kc c = 2
      · obtain ⟨mk, x, y, p1, p2, p3, p4, p5, p6⟩ := H.pr Uc k2
        have lx := H.lt p5
        have ly := H.lt p6
        have ex : txt kc lc rc R (k + 1) c = [40] ++ (txt kc lc rc R k x ++ rst kc lc rc (txt kc lc rc R k) R y) := by
          show (if kc c = 2 then _ else _) = _
          rw [if_pos k2, p1, p2, nI_clamp (n := x) (by omega), nI_clamp (n := y) (by omega)]
          rfl
        have e8 : 8 - k = 8 - (k + 1) + 1 := by omega
        have hsh : ∀ c, US sz f fre c → PL kc lc rc c → MSH i_s km lm rm (8 - (k + 1) + 1) c (txt kc lc rc R k c) π := fun c hc pc => by
          rw [← e8]; exact ih c (by omega) hc pc
        obtain ⟨N1, g1⟩ := hsh x p5 (pl.l H.2.1 p5 k2 p1) (T ++ [40])
        obtain ⟨N2, g2⟩ := m_rest H (i_s := i_s) hrk (h := 8 - (k + 1)) (by omega) hsh R y ((T ++ [40]) ++ txt kc lc rc R k x) (hR y p6) p6 (pl.r H.2.1 p6 k2 p2)
        refine ⟨N2 + N1 + 1, fun outs out tails hO fu post hp => ?_⟩
        have nf := hO.is.2 hl
        have n8 : ¬ nI (8 - (k + 1)) = 8 := fun z => absurd ((nI_eq (b := 8) (by omega) (by decide)).mp z) (by omega)
        refine ⟨fun z => absurd z nf, fun _ => ⟨fun z => absurd z n1, fun _ => ⟨fun z => absurd z n1, fun _ => ⟨fun z => absurd z n1, fun _ => H.mpair Uc (fun _ => ⟨fun z => absurd z n1, fun _ => ⟨fun z => absurd z n1, fun _ => ⟨fun z => absurd z n8, fun _ => ⟨fun z => absurd z n1, fun _ => m_show (c := 40) hO (fun o1 u1 h1 => ⟨vc, vp_in_nI (by omega) (by decide), vc, ?_⟩)⟩⟩⟩⟩) (fun z => absurd k2 z)⟩⟩⟩⟩
        rw [ec, p3, p4, nI_clamp (n := 8 - (k + 1)) (by omega)]
        unfold wp_Model_print_J188
        rw [nI_1]
        show wp_Model_print_L19 i_s km lm rm post (fu + 1 + (N2 + N1)) (nI (8 - (k + 1) + 1)) (nI (π x)) 1 o1 u1 (upd tails (8 - (k + 1)) (nI (π y)))
        rw [show fu + 1 + (N2 + N1) = (fu + N2) + 1 + N1 by omega]
        refine g1 o1 u1 _ h1 (fu + N2) post (fun o2 u2 t2 v2' h2 ht2 => ?_)
        rw [show fu + N2 + 1 = fu + 1 + N2 by omega]
        refine g2 o2 u2 t2 v2' h2 (by rw [ht2 _ (by omega), pk_us]) fu post (fun o3 u3 t3 v3' h3 ht3 => hp o3 u3 t3 v3' ?_ (fun i hi => ?_))
        · rw [ex, ← List.append_assoc, ← List.append_assoc]
          exact h3
        · rw [ht3 i hi, ht2 i (by omega), pk_un (by omega)]
      · refine ⟨1, fun outs out tails hO fu post hp => ?_⟩
        have nf := hO.is.2 hl
        have ex : txt kc lc rc R (k + 1) c = atm kc lc c := if_neg k2
        rw [ex] at hp
        exact ⟨fun z => absurd z nf, fun _ => ⟨fun z => absurd z n1, fun _ => ⟨fun z => absurd z n1, fun _ => ⟨fun z => absurd z n1, fun _ => H.mpair Uc (fun z => absurd z k2) (fun _ => ⟨fun _ => m_simple H Uc (pl c (RCH.root rfl)) k2 hO (fun o1 u1 h1 => hp o1 u1 tails _ h1 (fun _ _ => rfl)), fun z => absurd rfl z⟩)⟩⟩⟩⟩
    · refine ⟨0, fun outs out tails hO fu post hp => ?_⟩
      have := hp outs out tails 0 (hO.full hl _) (fun _ _ => rfl)
      exact ⟨fun z => this.1 z, fun z => absurd (hO.is.1 hl) z⟩
/-- the reference prints the head of S -/
theorem m_print (H : HP sz f fre kc lc rc tk km lm rm π G) {rk : Nat → Nat} {R : Nat} (hrk : ∀ c b, US sz f fre c → b < 200 → (kc c = 2 ∨ kc c = 4) → rc c = nI b → rk b < rk c ∧ US sz f fre b) (hR : ∀ c, US sz f fre c → rk c < R) {s c : Nat} (Us : US sz f fre s) (hc : US sz f fre c) (hl : lm (π s) = nI (π c)) (pl : PL kc lc rc c) {outs : Int32} {out tails : Nat → Int32} {post : Int32 → (Nat → Int32) → (Nat → Int32) → Prop} (hp : ∀ outs' out' tails', OUTM (txt kc lc rc R 8 c) outs' out' → post outs' out' tails') : wp_Model_print (nI (π s)) outs km lm out rm tails post := by
  obtain ⟨l1, l2, l3⟩ := H.lt Us
  obtain ⟨N, g⟩ := m_cell H (i_s := nI (π s)) hrk hR 8 c (by omega) hc pl []
  unfold wp_Model_print
  rw [nI_clamp (n := π s) (by omega), hl]
  refine ⟨vp_in_nI (by omega) (by decide), 0 + 1 + N, g 0 out tails ⟨rfl, fun i hi => absurd hi (Nat.not_lt_zero _)⟩ 0 post (fun o1 u1 t1 v2' h1 _ => ?_)⟩
  exact ⟨fun _ => hp o1 u1 t1 h1, fun _ => ⟨fun _ => ⟨fun _ => hp o1 u1 t1 h1, fun z => absurd (by decide) z⟩, fun z => absurd rfl z⟩⟩
end
/-! a run goes on, both; what is printed -/
theorem q_keep {g need mc ms a : Nat} {val : Nat → Int32} {post : Nat → Nat → (Nat → Int32) → Prop} (hg : g ≤ 3) (hn : need ≤ capOf g) (hp : post a (capOf g) val) : wp_ASB_ensure mc ms 0 a (capOf g) val (nI need) post := by
  obtain ⟨c1, c2⟩ := capOf_le hg
  unfold wp_ASB_ensure
  rw [show Int32.ofNat (capOf g) = nI (capOf g) from rfl, sr0 (by omega)]
  exact ⟨fun _ => hp, fun z => absurd ((nI_sle (by omega) (by omega)).mpr hn) z⟩
theorem q_cut {g k mc ms a : Nat} {T : List Nat} {val : Nat → Int32} {ml : Int32} {post : Int32 → Int32 → Nat → Nat → (Nat → Int32) → Prop} (hS : SBX g T val) (hk : k ≤ T.length) (hp : ∀ ml', post ml' (nI k) a (capOf g) val) : wp_SB_setLength mc ms 0 ml (nI T.length) a (capOf g) val (nI k) post := by
  obtain ⟨h1, h2, h3, h4⟩ := hS
  obtain ⟨c1, c2⟩ := capOf_le h1
  refine ⟨0, 0, by omega, by omega, fun _ => ⟨0, 0, by omega, by omega, q_keep h1 (by omega) ⟨fun _ => ⟨fun _ => hp _, fun _ => hp _⟩, fun z => absurd (nI_le hk (by omega)) z⟩⟩, fun z => absurd (nI_pos' (by omega)) z⟩
theorem SBX.take {g k : Nat} {T : List Nat} {val : Nat → Int32} (hS : SBX g T val) : SBX g (T.take k) val := by
  obtain ⟨h1, h2, h3, h4⟩ := hS
  have l : (T.take k).length = min k T.length := List.length_take
  refine ⟨h1, by omega, fun i hi => ?_, h4⟩
  rw [h3 i (by omega), List.getD_eq_getElem?_getD, List.getD_eq_getElem?_getD, List.getElem?_take, if_pos (by omega)]
theorem nmL_lt (E : Nat) : ∀ j, ∀ x ∈ nmL E j, x < 128
  | 0, x, h => (List.not_mem_nil h).elim
  | j + 1, x, h => by
    rcases List.mem_append.mp h with z | z
    · exact (nmD_facts E j).2 x z
    · exact nmL_lt E j x z
theorem atm_lt {kc lc : Nat → Int32} (c : Nat) : ∀ x ∈ atm kc lc c, x < 128 := fun x hx => by
  unfold atm at hx
  split at hx
  · exact (app_i (lc c)).2.2.1 x hx
  split at hx
  · exact nmL_lt _ _ x hx
  · rcases List.mem_cons.mp hx with z | z
    · omega
    · rw [List.mem_singleton.mp z]; decide
theorem rst_lt {kc lc rc : Nat → Int32} {tx : Nat → List Nat} (h : ∀ c, ∀ x ∈ tx c, x < 128) : ∀ r c, ∀ x ∈ rst kc lc rc tx r c, x < 128
  | 0, _, x, hx => (List.not_mem_nil hx).elim
  | r + 1, c, x, hx => by
    unfold rst at hx
    split at hx
    · rcases List.mem_cons.mp hx with z | z
      · omega
      · rcases List.mem_append.mp z with z | z
        · exact h _ x z
        · exact rst_lt h r _ x z
    split at hx
    · rw [List.mem_singleton.mp hx]; decide
    · rcases List.mem_append.mp hx with z | z
      · rcases List.mem_cons.mp z with z | z
        · omega
        · rcases List.mem_cons.mp z with z | z
          · omega
          · rw [List.mem_singleton.mp z]; decide
      · rcases List.mem_append.mp z with z | z
        · exact atm_lt c x z
        · rw [List.mem_singleton.mp z]; decide
theorem txt_lt {kc lc rc : Nat → Int32} {R : Nat} : ∀ k c, ∀ x ∈ txt kc lc rc R k c, x < 128
  | 0, c, x, hx => by
    unfold txt at hx
    split at hx
    · rw [List.mem_singleton.mp hx]; decide
    · exact atm_lt c x hx
  | k + 1, c, x, hx => by
    unfold txt at hx
    split at hx
    · rcases List.mem_cons.mp hx with z | z
      · omega
      · rcases List.mem_append.mp z with z | z
        · exact txt_lt k _ x z
        · exact rst_lt (fun c => txt_lt k c) _ _ x z
    · exact atm_lt c x hx
theorem rsum_ge {g : Nat → Nat} {c : Nat} : ∀ n, c < n → g c ≤ rsum g 0 n
  | 0, h => absurd h (Nat.not_lt_zero _)
  | n + 1, h => by
    show g c ≤ rsum g 0 n + g (0 + n)
    rcases Nat.lt_or_ge c n with z | z
    · have := rsum_ge (g := g) n z; omega
    · rw [show 0 + n = c by omega]; omega
section
variable {sz f : Nat} {fre kc lc rc tk km lm rm : Nat → Int32} {π : Nat → Nat} {G : Nat → Prop}
theorem print_class (H : HP sz f fre kc lc rc tk km lm rm π G) {rk : Nat → Nat} {R : Nat} (hrk : ∀ c b, US sz f fre c → b < 200 → (kc c = 2 ∨ kc c = 4) → rc c = nI b → rk b < rk c ∧ US sz f fre b) (hR : ∀ c, US sz f fre c → rk c < R) {c g : Nat} (Uc : US sz f fre c) (pl : PL kc lc rc c) {T : List Nat} {val : Nat → Int32} (hS : SBX g T val) :
    ∃ (g' : Nat) (val' : Nat → Int32), SBX g' ((txt kc lc rc R 8 c).take 80) val' ∧ g ≤ g' ∧ ∀ (mc ms a : Nat) (ml : Int32) (post : Int32 → Int32 → Nat → Nat → (Nat → Int32) → Prop), g' - g ≤ mc → 200 * (g' - g) ≤ ms → (∀ ml' a', post ml' (nI ((txt kc lc rc R 8 c).take 80).length) a' (capOf g') val') → wp_Printer_print mc ms sz sz sz kc lc rc 0 ml (nI T.length) a (capOf g) val (nI c) post := by
  have hS0 : SBX g [] val := ⟨hS.1, Nat.zero_le _, fun i hi => absurd hi (Nat.not_lt_zero _), hS.2.2.2⟩
  obtain ⟨T2, g', val', s1, s2, s3, s4, s5, s6⟩ := show_cell H hrk hR 8 10 c (by omega) (by omega) Uc pl g [] [] val hS0 EQ8.refl (Nat.zero_le _)
  have l2 := s5 (by show 0 < 80; omega)
  have e3 : EQ8 T2 (txt kc lc rc R 8 c) := s3
  have et : T2.take 80 = (txt kc lc rc R 8 c).take 80 := by
    rcases e3 with z | ⟨-, -, z⟩
    · rw [z]
    · exact z
  refine ⟨g', val', by rw [← et]; exact s1.take, s2, fun mc ms a ml post b1 b2 hp => ⟨0, 0, by omega, by omega, q_cut (k := 0) hS (Nat.zero_le _) (fun ml1 => ⟨g' - g, 200 * (g' - g), by omega, by omega, s6 _ _ _ _ (Nat.le_refl _) (Nat.le_refl _) (fun a1 => ⟨fun z => ?_, fun z => ⟨0, 0, by omega, by omega, q_cut (k := 80) s1 ?_ (fun ml2 => ?_)⟩⟩)⟩)⟩⟩
  · have : T2.length ≤ 80 := (nI_leI (b := 80) (by omega) (by decide)).mp z
    have hh := hp ml1 a1
    rw [← et, List.take_of_length_le this] at hh
    exact hh
  · rcases Nat.lt_or_ge T2.length 80 with y | y
    · exact absurd (nI_le (b := 80) (by omega) (by decide)) z
    · exact y
  · have y : 80 ≤ T2.length := by
      rcases Nat.lt_or_ge T2.length 80 with y | y
      · exact absurd (nI_le (b := 80) (by omega) (by decide)) z
      · exact y
    have hh := hp ml2 a1
    rw [← et, List.length_take, show min 80 T2.length = 80 by omega] at hh
    exact hh
end
/-- T is what the reference prints -/
def PRN (T : List Nat) (mS : Int32) (km lm rm : Nat → Int32) : Prop := (∀ x ∈ T, x < 128) ∧ T.length ≤ 80 ∧ ∀ (outs : Int32) (out tails : Nat → Int32) (post : Int32 → (Nat → Int32) → (Nat → Int32) → Prop), (∀ outs' out' tails', outs' = nI T.length → (∀ i, i < T.length → out' i = nI (T.getD i 0)) → post outs' out' tails') → wp_Model_print mS outs km lm out rm tails post
section
variable {bk sz : Nat} {psz clc cS cE cD cX cT cP cF cG cfc mU mT mF mP mX mS mE mD mG : Int32} {pwo op x1 x2 fx cons fre kc lc rc cn km lm rm tk : Nat → Int32}
theorem printed_both {T : List Nat} (R : RUN bk sz psz pwo op x1 x2 fx clc cS cE cD cX cT cP cF cG cons cfc fre kc lc rc mU mT mF mP mX mS mE mD mG cn km lm rm tk (PRN T mS km lm rm)) {outs : Int32} {out tails : Nat → Int32} {PM : Int32 → Int32 → Int32 → (Nat → Int32) → (Nat → Int32) → Prop} (hJ : ∀ r outs' out' tails', PM r r outs' out' tails') : wp_Secd_printed cT (nI T.length) (fun r => wp_Model_printed mT mS outs km lm out rm tails (PM r)) := by
  unfold wp_Secd_printed wp_Model_printed
  have two : cT = mT ∧ (mT = 2 → PRN T mS km lm rm) := by
    rcases R with ⟨h1, h2⟩ | ⟨cd, n, nco, f, s, e, d, pc, st, π, s1, s2, s3, s4, s5, -, ⟨r1, r2, r3, r4, r5, r6, r7⟩, ⟨m1, m2, m3, m4, m5, m6⟩, -, -, -, hP⟩
    · exact ⟨h1.trans h2.symm, fun z => absurd (h2.symm.trans z) (by decide)⟩
    · exact ⟨r6.trans m2.symm, fun z => hP ((nI_eq (b := 2) (by omega) (by decide)).mp (m2.symm.trans z))⟩
  obtain ⟨e1, e2⟩ := two
  subst e1
  refine ⟨fun z => ⟨fun _ => (e2 z).2.2 _ _ _ _ (fun o u t h1 h2 => ?_), fun y => absurd z y⟩, fun z => ⟨fun y => absurd y z, fun _ => hJ _ _ _ _⟩⟩
  rw [h1]
  exact hJ _ _ _ _
theorem char_at {g : Nat} {T : List Nat} {val : Nat → Int32} (hS : SBX g T val) (hT : ∀ x ∈ T, x < 128) {k : Nat} (hk : k < T.length) {post : Int32 → Prop} (hp : post (nI (T.getD k 0))) : wp_SB_charAt 0 (nI T.length) (capOf g) val (nI k) post := by
  obtain ⟨h1, h2, h3, h4⟩ := hS
  obtain ⟨c1, c2⟩ := capOf_le h1
  have lt : T.getD k 0 < 128 := hT _ (getD_mem hk)
  have ev : ((val k &&& (255 : Int32)).toUInt32 % 65536).toInt32 = nI (T.getD k 0) := by
    rw [h3 k hk, pk_andN (by omega) 8 (by decide), pk_char, pk_tn (by have := Nat.mod_lt (T.getD k 0) (show 0 < 2 ^ 8 by decide); omega), Nat.mod_eq_of_lt (show T.getD k 0 < 2 ^ 8 by omega), Nat.mod_eq_of_lt (by omega)]
  intro x4 hx4
  rw [show Int32.ofNat (capOf g) = nI (capOf g) from rfl, sr0 (by omega)] at hx4
  have hx : nI k < x4 := by
    rw [hx4]
    split
    · exact nI_lt (by omega) (by omega)
    · exact nI_lt hk (by omega)
  have ckx : ∀ Q : Prop, Q → wp_String_checkIndex (nI k) x4 Q := fun Q hQ => ⟨⟨fun z => absurd z (nI_pos (by omega)), fun _ => ⟨fun _ => hQ, fun z => absurd hx z⟩⟩, ⟨fun z => absurd z (nI_pos (by omega)), fun _ => ⟨fun _ => hQ, fun z => absurd hx z⟩⟩⟩
  refine ckx _ ⟨fun _ => ⟨vp_in_nI (by omega) (by omega), ?_⟩, fun z => absurd rfl z⟩
  rw [nI_clamp (n := k) (by omega)]
  refine ⟨pk_nc _, pk_nc _, ?_⟩
  rw [ev]
  exact hp
theorem character_both {HQ : Prop} (hQ : HQ) {g : Nat} {T : List Nat} {val : Nat → Int32} (hS : SBX g T val) (R : RUN bk sz psz pwo op x1 x2 fx clc cS cE cD cX cT cP cF cG cons cfc fre kc lc rc mU mT mF mP mX mS mE mD mG cn km lm rm tk (PRN T mS km lm rm)) {outs x : Int32} {out tails : Nat → Int32} {PM : Int32 → Int32 → Int32 → (Nat → Int32) → (Nat → Int32) → Prop} (hJ : ∀ r outs' out' tails', PM r r outs' out' tails') : wp_Secd_character cT 0 (nI T.length) (capOf g) val x (fun r => HQ ∧ wp_Model_character mT mS outs km lm out rm tails x (PM r)) := by
  unfold wp_Secd_character wp_Model_character
  have two : cT = mT ∧ (mT = 2 → PRN T mS km lm rm) := by
    rcases R with ⟨h1, h2⟩ | ⟨cd, n, nco, f, s, e, d, pc, st, π, s1, s2, s3, s4, s5, -, ⟨r1, r2, r3, r4, r5, r6, r7⟩, ⟨m1, m2, m3, m4, m5, m6⟩, -, -, -, hP⟩
    · exact ⟨h1.trans h2.symm, fun z => absurd (h2.symm.trans z) (by decide)⟩
    · exact ⟨r6.trans m2.symm, fun z => hP ((nI_eq (b := 2) (by omega) (by decide)).mp (m2.symm.trans z))⟩
  obtain ⟨e1, e2⟩ := two
  subst e1
  refine ⟨fun z => ⟨fun c => ⟨hQ, fun _ => (e2 z).2.2 _ _ _ _ (fun o u t h1 h2 => ⟨fun _ => hJ _ _ _ _, fun y => absurd c y⟩), fun y => absurd z y⟩, fun c => ⟨fun c2 => ?_, fun c2 => ⟨hQ, fun _ => (e2 z).2.2 _ _ _ _ (fun o u t h1 h2 => ⟨fun y => absurd y c, fun _ => ⟨fun y => absurd (h1 ▸ y) c2, fun _ => hJ _ _ _ _⟩⟩), fun y => absurd z y⟩⟩⟩, fun z => ⟨hQ, fun y => absurd y z, fun _ => hJ _ _ _ _⟩⟩
  obtain ⟨k, hk, rfl⟩ := nI_of c
  obtain ⟨p1, p2, p3⟩ := e2 z
  have kl : k < T.length := (nI_ltI hk (by omega)).mp c2
  refine char_at hS p1 kl ⟨hQ, fun _ => p3 _ _ _ _ (fun o u t h1 h2 => ⟨fun y => absurd y c, fun _ => ⟨fun _ => ⟨vp_in_nI (by omega) (by decide), ?_⟩, fun y => absurd (h1 ▸ c2) y⟩⟩), fun y => absurd z y⟩
  rw [nI_clamp (n := k) hk, h2 k kl]
  exact hJ _ _ _ _
end
section
variable {bk sz : Nat} {psz clc cS cE cD cX cT cP cF cG cfc crn ml mU mT mF mP mX mS mE mD mG x : Int32} {pwo op x1 x2 fx cons fre ir kc lc rw rc cn km lm rm tk w costs takes : Nat → Int32}
theorem run_both {HQ : Prop} (hQ : HQ) {g mc ms a : Nat} {T : List Nat} {val : Nat → Int32} {PM : Int32 → Int32 → Int32 → Int32 → Int32 → Int32 → Int32 → Int32 → Int32 → Int32 → (Nat → Int32) → (Nat → Int32) → (Nat → Int32) → (Nat → Int32) → (Nat → Int32) → (Nat → Int32) → Int32 → Int32 → Nat → Nat → (Nat → Int32) → Int32 → Int32 → Int32 → Int32 → Int32 → Int32 → Int32 → Int32 → Int32 → (Nat → Int32) → (Nat → Int32) → (Nat → Int32) → (Nat → Int32) → (Nat → Int32) → Prop} (hS : SBX g T val) (R : RUN bk sz psz pwo op x1 x2 fx clc cS cE cD cX cT cP cF cG cons cfc fre kc lc rc mU mT mF mP mX mS mE mD mG cn km lm rm tk (PRN T mS km lm rm)) (hbk : bk < 2) (hco : ∀ k, k < 21 → costs k = cycL.getD k 0) (hta : ∀ k, k < 21 → takes k = celL.getD k 0) (hmc : 3 ≤ mc) (hms : 600 ≤ ms)
    (hJ : ∀ (r cS' cE' cD' cX' cT' cP' cG' cfc' crn' ml' mU' mT' mP' mX' mS' mE' mD' mG' : Int32) (g' a' : Nat) (T' : List Nat) (fre' ir' kc' lc' rw' rc' val' km' lm' w' rm' tk' : Nat → Int32), SBX g' T' val' → RUN bk sz psz pwo op x1 x2 fx clc cS' cE' cD' cX' cT' cP' cF cG' cons cfc' fre' kc' lc' rc' mU' mT' mF mP' mX' mS' mE' mD' mG' cn km' lm' rm' tk' (PRN T' mS' km' lm' rm') →
      PM r cS' cE' cD' cX' cT' cP' cG' cfc' crn' fre' ir' kc' lc' rw' rc' ml' (nI T'.length) a' (capOf g') val' r mU' mT' mP' mX' mS' mE' mD' mG' km' lm' w' rm' tk') :
    wp_Secd_run mc ms sz sz sz sz sz sz clc cS cE cD cX cT cP cF cG cons (nI sz) cfc crn fre ir kc lc rw rc 0 ml (nI T.length) a (capOf g) val psz pwo x (fun a1 a2 a3 a4 a5 a6 a7 a8 a9 a10 a11 a12 a13 a14 a15 a16 a17 a18 a19 a20 a21 => HQ ∧ wp_Model_run (nI bk) (nI sz) mU mT mF mP mX mS mE mD mG cn costs fx km lm op w rm tk takes x1 x2 x (PM a1 a2 a3 a4 a5 a6 a7 a8 a9 a10 a11 a12 a13 a14 a15 a16 a17 a18 a19 a20 a21)) := by
  have J0 : PM (-1) cS cE cD cX cT cP cG cfc crn fre ir kc lc rw rc ml (nI T.length) a (capOf g) val (-1) mU mT mP mX mS mE mD mG km lm w rm tk := hJ (-1) _ _ _ _ _ _ _ _ _ _ _ _ _ _ _ _ _ _ g a T _ _ _ _ _ _ _ _ _ _ _ _ hS R
  unfold wp_Secd_run wp_Model_run
  refine ⟨fun c => ⟨hQ, fun _ => J0, fun _ => ⟨fun _ => J0, fun z => absurd c z⟩⟩, fun c => ⟨fun c2 => ⟨hQ, fun _ => J0, fun _ => ⟨fun z => absurd z c, fun _ => ⟨fun z => absurd (Int32.lt_of_lt_of_le c2 z) (Int32.lt_irrefl), fun _ => J0⟩⟩⟩, fun c2 => ?_⟩⟩
  have c3 : x ≤ 1000 := Int32.not_lt.mp c2
  have c4 : ¬ x < 0 := fun z => c (Int32.lt_of_lt_of_le z (by decide))
  obtain ⟨N, n1, n2⟩ := nI_of2 (n := 1000) (by decide) c4 c3
  subst n2
  have R0 := R
  rcases R with ⟨h1, h2⟩ | ⟨cd, n, nco, f, s, e, d, pc, st, π, s1, s2, s3, s4, s5, M, ⟨r1, r2, r3, r4, r5, r6, r7⟩, ⟨m1, m2, m3, m4, m5, m6⟩, e1, e2, e3, hP⟩
  · rw [h1, h2] at J0 ⊢
    exact ⟨fun _ => ⟨fun z => absurd z (by decide), fun _ => ⟨hQ, fun _ => J0, fun z => absurd rfl z⟩⟩, fun z => absurd rfl z⟩
  · have lsz := M.1.2.1
    obtain ⟨D, st', f', s', e', d', pc', sp', co', rn', fre', ir', rw', kc', lc', rc', tk', km', lm', rm', w', π', q1, q2, q3, q4, q5, q6, q7, q8⟩ := runs_both (sz := sz) (cons := cons) (cn := cn) s5 hbk s3 s4 hco hta cF N n1 N f s e d pc st fre kc lc rc tk km lm rm π cP cG crn ir rw w (Nat.le_refl _) s1 s2 M
    subst r1 r2 r3 r4 r5 r6 r7 m1 m2 m3 m4 m5 m6 e1 e2 e3
    have nst : ¬ nI st = 0 := nI_ne0 (by omega) (by omega)
    -- the reference, at the end
    have mfin : ∀ (b1 b2 : Int32) (b3 b4 : Nat) (b5 : Nat → Int32), PM (nI D) (nI s') (nI e') (nI d') (nI pc') (nI st') sp' co' (nI f') rn' fre' ir' kc' lc' rw' rc' b1 b2 b3 b4 b5 (nI D) (nI (sz - f')) (nI st') sp' (nI pc') (nI (π' s')) (nI (π' e')) (nI (π' d')) co' km' lm' w' rm' tk' →
        ((nI st = 0 → (PM (nI D) (nI s') (nI e') (nI d') (nI pc') (nI st') sp' co' (nI f') rn' fre' ir' kc' lc' rw' rc' b1 b2 b3 b4 b5 (-1 : Int32) (nI (sz - f)) (nI st) cP (nI pc) (nI (π s)) (nI (π e)) (nI (π d)) cG km lm w rm tk)) ∧ (¬ nI st = 0 → (((nI N < (1 : Int32) → (PM (nI D) (nI s') (nI e') (nI d') (nI pc') (nI st') sp' co' (nI f') rn' fre' ir' kc' lc' rw' rc' b1 b2 b3 b4 b5 (-1 : Int32) (nI (sz - f)) (nI st) cP (nI pc) (nI (π s)) (nI (π e)) (nI (π d)) cG km lm w rm tk)) ∧ (¬ nI N < (1 : Int32) → (((nI N ≤ (1000 : Int32) → (∃ fu25 : Nat, wp_Model_run_L25 (nI bk) (nI sz) cF cn costs fx op takes x1 x2 (PM (nI D) (nI s') (nI e') (nI d') (nI pc') (nI st') sp' co' (nI f') rn' fre' ir' kc' lc' rw' rc' b1 b2 b3 b4 b5) fu25 (nI N) (0 : Int32) (0 : Int32) (nI (sz - f)) (nI st) cP (nI pc) (nI (π s)) (nI (π e)) (nI (π d)) cG km lm w rm tk)) ∧ (¬ nI N ≤ (1000 : Int32) → (PM (nI D) (nI s') (nI e') (nI d') (nI pc') (nI st') sp' co' (nI f') rn' fre' ir' kc' lc' rw' rc' b1 b2 b3 b4 b5 (-1 : Int32) (nI (sz - f)) (nI st) cP (nI pc) (nI (π s)) (nI (π e)) (nI (π d)) cG km lm w rm tk))))))))) := fun b1 b2 b3 b4 b5 hp => by
      refine ⟨fun z => absurd z nst, fun _ => ⟨fun z => absurd z c, fun _ => ⟨fun _ => ⟨N + 1, ?_⟩, fun z => absurd c3 z⟩⟩⟩
      have := q8 0 (PM (nI D) (nI s') (nI e') (nI d') (nI pc') (nI st') sp' co' (nI f') rn' fre' ir' kc' lc' rw' rc' b1 b2 b3 b4 b5) (by rw [Nat.zero_add]; exact hp)
      rw [Nat.sub_self] at this
      exact this
    have run' : ∀ (T' : List Nat), (st' = 2 → PRN T' (nI (π' s')) km' lm' rm') → RUN bk sz psz pwo op x1 x2 fx (nI nco) (nI s') (nI e') (nI d') (nI pc') (nI st') sp' cF co' cons (nI f') fre' kc' lc' rc' (nI (sz - f')) (nI st') cF sp' (nI pc') (nI (π' s')) (nI (π' e')) (nI (π' d')) co' cn km' lm' rm' tk' (PRN T' (nI (π' s')) km' lm' rm') := fun T' hp => Or.inr ⟨cd, n, nco, f', s', e', d', pc', st', π', q2, q3, s3, s4, s5, q6, ⟨rfl, rfl, rfl, rfl, rfl, rfl, rfl⟩, ⟨rfl, rfl, rfl, rfl, rfl, rfl⟩, rfl, rfl, rfl, hp⟩
    refine ⟨fun z => absurd z nst, fun _ => ⟨fun _ => ⟨mc, ms, by omega, by omega, N + 1, ?_⟩, fun z => absurd rfl z⟩⟩
    have cl := q7 mc ms 0 (wp_Machine_advance_J33 mc ms sz sz sz sz sz sz (nI nco) cF cons (nI sz) 0 psz pwo (fun a1 a2 a3 a4 a5 a6 a7 a8 a9 a10 a11 a12 a13 a14 a15 a16 a17 a18 a19 a20 a21 => HQ ∧ wp_Model_run (nI bk) (nI sz) (nI (sz - f)) (nI st) cF cP (nI pc) (nI (π s)) (nI (π e)) (nI (π d)) cG cn costs fx km lm op w rm tk takes x1 x2 (nI N) (PM a1 a2 a3 a4 a5 a6 a7 a8 a9 a10 a11 a12 a13 a14 a15 a16 a17 a18 a19 a20 a21)) ) (fun a1 a2 a3 a4 a5 a6 a7 a8 a9 a10 a11 a12 a13 a14 a15 a16 a17 a18 a19 a20 a21 => HQ ∧ wp_Model_run (nI bk) (nI sz) (nI (sz - f)) (nI st) cF cP (nI pc) (nI (π s)) (nI (π e)) (nI (π d)) cG cn costs fx km lm op w rm tk takes x1 x2 (nI N) (PM a1 a2 a3 a4 a5 a6 a7 a8 a9 a10 a11 a12 a13 a14 a15 a16 a17 a18 a19 a20 a21)) 0 ml (nI T.length) a (capOf g) val 0 0
    rw [Nat.sub_self] at cl
    refine cl ?_
    rw [Nat.zero_add]
    have fin : ∀ (ml' : Int32) (a' g' : Nat) (T' : List Nat) (val' : Nat → Int32), SBX g' T' val' → (st' = 2 → PRN T' (nI (π' s')) km' lm' rm') → HQ ∧ wp_Model_run (nI bk) (nI sz) (nI (sz - f)) (nI st) cF cP (nI pc) (nI (π s)) (nI (π e)) (nI (π d)) cG cn costs fx km lm op w rm tk takes x1 x2 (nI N) (PM (nI D) (nI s') (nI e') (nI d') (nI pc') (nI st') sp' co' (nI f') rn' fre' ir' kc' lc' rw' rc' ml' (nI T'.length) a' (capOf g') val') := fun ml' a' g' T' val' hS' hp => ⟨hQ, mfin _ _ _ _ _ (hJ _ _ _ _ _ _ _ _ _ _ _ _ _ _ _ _ _ _ _ g' a' T' _ _ _ _ _ _ _ _ _ _ _ _ hS' (run' T' hp))⟩
    refine ⟨fun z => fin ml a g T val hS (fun hst => ?_), fun z => ⟨fun zs => ?_, fun zs => fin ml a g T val hS (fun hst => absurd (by rw [hst]; rfl) zs)⟩⟩
    · have D0 : D = 0 := by
        rcases Nat.eq_zero_or_pos D with y | y
        · exact y
        · exact absurd z (nI_ge (b := D) (a := 0) y (by omega))
      by_cases s1' : st = 1
      · have := q4 hst s1'
        omega
      · obtain ⟨-, y1, y2, y3, y4, y5, y6, y7, y8, y9, y10, y11, y12⟩ := q5 s1'
        subst y1 y3 y9 y10 y11 y12
        exact hP hst
    · have hst : st' = 2 := (nI_eq (b := 2) (by omega) (by decide)).mp zs
      obtain ⟨H', Us', Ue', Ud', hcn', hT', hPL', hnc'⟩ := q6
      obtain ⟨ps, ks⟩ := hPL' hst
      obtain ⟨hd, w1, w2, w3, w4⟩ := H'.head Us'
      have plh := PL.h H' w1 w2 w3 ps
      obtain ⟨rk, hrk⟩ := H'.2.2.2.2.2.2.2.2.2
      have hR : ∀ c, US sz f' fre' c → rk c < rsum rk 0 sz + 1 := fun c hc => by
        have := rsum_ge (g := rk) sz hc.1
        omega
      obtain ⟨g', val', p1, p2, p3⟩ := print_class H' hrk hR w1 plh hS
      have g3 := p1.1
      have prn : PRN ((txt kc' lc' rc' (rsum rk 0 sz + 1) 8 hd).take 80) (nI (π' s')) km' lm' rm' := by
        refine ⟨fun y hy => txt_lt _ _ y (List.mem_of_mem_take hy), by rw [List.length_take]; omega, fun outs out tails post hp => ?_⟩
        exact m_print H' hrk hR Us' w1 (w2 ks).2 plh (fun o u t h => hp o u t h.1 h.2)
      refine w4 _ ⟨g' - g, 200 * (g' - g), by omega, by omega, p3 _ _ _ _ _ (Nat.le_refl _) (Nat.le_refl _) (fun ml' a' => fin ml' a' g' _ val' p1 (fun _ => prn))⟩
end
