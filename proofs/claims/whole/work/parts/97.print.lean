/-! printing: the text of a cell, whole -/
def atm (kc lc : Nat → Int32) (c : Nat) : List Nat := if kc c = 0 then numT (lc c) else if kc c = 1 then nmL (lc c).toNatClampNeg 6 else [102, 110]
/-- what comes behind the first part of a list -/
def rst (kc lc rc : Nat → Int32) (tx : Nat → List Nat) : Nat → Nat → List Nat
  | 0, _ => []
  | r + 1, c => if kc c = 2 then 32 :: (tx (lc c).toNatClampNeg ++ rst kc lc rc tx r (rc c).toNatClampNeg) else if c = 0 then [41] else [32, 46, 32] ++ (atm kc lc c ++ [41])
def txt (kc lc rc : Nat → Int32) (R : Nat) : Nat → Nat → List Nat
  | 0, c => if kc c = 2 then [35] else atm kc lc c
  | k + 1, c => if kc c = 2 then 40 :: (txt kc lc rc R k (lc c).toNatClampNeg ++ rst kc lc rc (txt kc lc rc R k) R (rc c).toNatClampNeg) else atm kc lc c
/-- the same, as far as 80 characters show it -/
def EQ8 (A B : List Nat) : Prop := A = B ∨ (80 ≤ A.length ∧ 80 ≤ B.length ∧ A.take 80 = B.take 80)
theorem EQ8.refl {A : List Nat} : EQ8 A A := Or.inl rfl
theorem EQ8.app {A B : List Nat} (h : EQ8 A B) (X : List Nat) : EQ8 (A ++ X) (B ++ X) := by
  rcases h with h | ⟨h1, h2, h3⟩
  · exact Or.inl (by rw [h])
  · refine Or.inr ⟨by rw [List.length_append]; omega, by rw [List.length_append]; omega, ?_⟩
    rw [List.take_append_of_le_length h1, List.take_append_of_le_length h2, h3]
theorem EQ8.full {A B : List Nat} (h : EQ8 A B) (hA : 80 ≤ A.length) (X Y : List Nat) : EQ8 (A ++ X) (B ++ Y) := by
  rcases h with h | ⟨h1, h2, h3⟩
  · subst h
    refine Or.inr ⟨by rw [List.length_append]; omega, by rw [List.length_append]; omega, ?_⟩
    rw [List.take_append_of_le_length hA, List.take_append_of_le_length hA]
  · refine Or.inr ⟨by rw [List.length_append]; omega, by rw [List.length_append]; omega, ?_⟩
    rw [List.take_append_of_le_length h1, List.take_append_of_le_length h2, h3]
theorem EQ8.trans {A B C : List Nat} (h : EQ8 A B) (h' : EQ8 B C) : EQ8 A C := by
  rcases h with rfl | ⟨h1, h2, h3⟩
  · exact h'
  · rcases h' with rfl | ⟨g1, g2, g3⟩
    · exact Or.inr ⟨h1, h2, h3⟩
    · exact Or.inr ⟨h1, g2, h3.trans g3⟩
theorem EQ8.short {A B : List Nat} (h : EQ8 A B) (hA : A.length < 80) : A = B := by
  rcases h with h | ⟨h1, -⟩
  · exact h
  · omega
section
variable {sz f : Nat} {fre kc lc rc tk km lm rm : Nat → Int32} {π : Nat → Nat} {G : Nat → Prop}
theorem HP.nameE (H : HP sz f fre kc lc rc tk km lm rm π G) {c : Nat} (Uc : US sz f fre c) (hk : kc c = 1) : ∃ E, E < 2 ^ 31 ∧ lc c = nI E ∧ 1 ≤ (nmL E 6).length ∧ (nmL E 6).length ≤ 6 ∧ (∀ x ∈ nmL E 6, x < 128) ∧ ∃ l, isNm l ∧ nmL E 6 = l.map (fun x => 96 + x) ∧ lm (π c) = nI (enc 27 l) := by
  have hn : nameR (lc c) (lm (π c)) := by
    rcases (H.2.2.2.2.2.1 c Uc).2.2 with z | z | z | z | z
    · exact absurd (hk.symm.trans z.1) (by decide)
    · exact z.2.2
    · exact absurd (hk.symm.trans z.1) (by decide)
    · exact absurd (hk.symm.trans z.1) (by decide)
    · exact absurd (hk.symm.trans z.1) (by decide)
  obtain ⟨l, h1, h2, h3⟩ := hn
  have hb := enc_bound (q := 32) (by decide) (by decide) h1
  have e := nmL_name h1
  refine ⟨enc 32 l, by omega, h2, ?_, ?_, fun x hx => ?_, l, h1, e, h3⟩
  · rw [e, List.length_map]
    rcases l with _ | ⟨x, t⟩
    · exact absurd rfl h1.1
    · show 1 ≤ t.length + 1; omega
  · rw [e, List.length_map]; exact h1.2.1
  · rw [e] at hx
    obtain ⟨d, d1, d2⟩ := List.mem_map.mp hx
    have := h1.2.2 d d1
    omega
/-- what show leaves: T' for T, where the whole text would be T0 and X behind it -/
def SHO (W : Nat → Nat → Int32 → Nat → Nat → (Nat → Int32) → (Int32 → Nat → Nat → (Nat → Int32) → Prop) → Prop) (X : List Nat) (bd : Nat) : Prop := ∀ (g : Nat) (T T0 : List Nat) (val : Nat → Int32), SBX g T val → EQ8 T T0 → T.length ≤ bd → ∃ (T' : List Nat) (g' : Nat) (val' : Nat → Int32), SBX g' T' val' ∧ g ≤ g' ∧ EQ8 T' (T0 ++ X) ∧ (80 ≤ T.length → T' = T) ∧ (T.length < 80 → T.length < T'.length ∧ T'.length ≤ bd) ∧ ∀ (mc ms a : Nat) (post : Int32 → Nat → Nat → (Nat → Int32) → Prop), g' - g ≤ mc → 200 * (g' - g) ≤ ms → (∀ a', post (nI T'.length) a' (capOf g') val') → W mc ms (nI T.length) a (capOf g) val post
theorem q_full {T : List Nat} (hT : T.length ≤ 142) {post : Int32 → Prop} (h0 : T.length < 80 → post 0) (h1 : 80 ≤ T.length → post 1) : wp_Printer_isFull (nI T.length) post := by
  refine ⟨fun z => h0 ?_, fun z => h1 ?_⟩
  · exact (nI_ltI (b := 80) (by omega) (by decide)).mp z
  · rcases Nat.lt_or_ge T.length 80 with y | y
    · exact absurd (nI_lt (b := 80) y (by decide)) z
    · exact y
/-- an atom is shown, at any depth -/
theorem show_atom (H : HP sz f fre kc lc rc tk km lm rm π G) {c d : Nat} (Uc : US sz f fre c) (h4 : ¬ kc c = 4) (h2 : ¬ kc c = 2) {bd : Nat} (hbd : 90 ≤ bd) (hbd2 : bd ≤ 138) (x2 : Int32) : SHO (fun mc ms cnt a n val post => wp_Printer_show (d + 1) mc ms sz sz sz kc lc rc 0 cnt a n val (nI c) x2 post) (atm kc lc c) bd := fun g T T0 val hS hE hb => by
  obtain ⟨l1, l2, l3⟩ := H.lt Uc
  by_cases hf : 80 ≤ T.length
  · refine ⟨T, g, val, hS, Nat.le_refl _, by have := hE.full hf [] (atm kc lc c); rw [List.append_nil] at this; exact this, fun _ => rfl, fun z => absurd z (by omega), fun mc ms a post b1 b2 hp => ?_⟩
    unfold wp_Printer_show wp_Printer_show_body
    exact q_full (by omega) (fun z => absurd z (by omega)) (fun _ => ⟨fun z => absurd z (by decide), fun _ => hp a⟩)
  · have hl : T.length < 80 := by omega
    have e0 := hE.short hl
    subst e0
    -- the three kinds
    have key : ∀ (W : Nat → Nat → Int32 → Nat → Nat → (Nat → Int32) → (Int32 → Nat → Nat → (Nat → Int32) → Prop) → Prop), APP W (atm kc lc c) → 1 ≤ (atm kc lc c).length → (atm kc lc c).length ≤ 11 → (∀ (mc ms : Nat) (cnt : Int32) (a n : Nat) (val : Nat → Int32) (post : Int32 → Nat → Nat → (Nat → Int32) → Prop), W mc ms cnt a n val post → cnt = nI T.length → wp_Printer_show (d + 1) mc ms sz sz sz kc lc rc 0 cnt a n val (nI c) x2 post) → ∃ (T' : List Nat) (g' : Nat) (val' : Nat → Int32), SBX g' T' val' ∧ g ≤ g' ∧ EQ8 T' (T ++ atm kc lc c) ∧ (80 ≤ T.length → T' = T) ∧ (T.length < 80 → T.length < T'.length ∧ T'.length ≤ bd) ∧ ∀ (mc ms a : Nat) (post : Int32 → Nat → Nat → (Nat → Int32) → Prop), g' - g ≤ mc → 200 * (g' - g) ≤ ms → (∀ a', post (nI T'.length) a' (capOf g') val') → wp_Printer_show (d + 1) mc ms sz sz sz kc lc rc 0 (nI T.length) a (capOf g) val (nI c) x2 post := fun W hW w1 w2 hsh => by
      obtain ⟨g', val', i1, i2, i3⟩ := hW g T val hS (by omega)
      refine ⟨T ++ atm kc lc c, g', val', i1, i2, EQ8.refl, fun z => absurd z hf, fun _ => ?_, fun mc ms a post b1 b2 hp => hsh _ _ _ _ _ _ _ (i3 mc ms a post b1 b2 hp) rfl⟩
      rw [List.length_append]
      omega
    by_cases k0 : kc c = 0
    · have ea : atm kc lc c = numT (lc c) := if_pos k0
      obtain ⟨n1, n2, n3, n4⟩ := app_i (lc c)
      refine key _ (by rw [ea]; exact n4) (by rw [ea]; exact n2) (by rw [ea]; exact n1) (fun mc ms cnt a n val post hW ec => ?_)
      subst ec
      unfold wp_Printer_show wp_Printer_show_body
      refine q_full (by omega) (fun _ => ⟨fun _ => H.kindOf Uc ⟨fun _ => ⟨vp_in_nI l1 (by omega), mc, ms, by omega, by omega, ?_⟩, fun z => absurd k0 z⟩, fun z => absurd rfl z⟩) (fun z => absurd z hf)
      rw [nI_clamp (n := c) (by omega)]
      exact hW
    · by_cases k1 : kc c = 1
      · obtain ⟨E, e1, e2, e3, e4, e5, -⟩ := H.nameE Uc k1
        have ea : atm kc lc c = nmL E 6 := by unfold atm; rw [if_neg k0, if_pos k1, e2, nI_clamp (by omega)]
        refine key _ (by rw [ea]; exact app_n e1) (by rw [ea]; exact e3) (by rw [ea]; omega) (fun mc ms cnt a n val post hW ec => ?_)
        subst ec
        unfold wp_Printer_show wp_Printer_show_body
        refine q_full (by omega) (fun _ => ⟨fun _ => H.kindOf Uc ⟨fun z => absurd z k0, fun _ => ⟨fun _ => ⟨vp_in_nI l1 (by omega), mc, ms, by omega, by omega, ?_⟩, fun z => absurd k1 z⟩⟩, fun z => absurd rfl z⟩) (fun z => absurd z hf)
        rw [nI_clamp (n := c) (by omega), e2]
        exact hW
      · have ea : atm kc lc c = [102, 110] := by unfold atm; rw [if_neg k0, if_neg k1]
        refine key _ (by rw [ea]; exact app_fn) (by rw [ea]; decide) (by rw [ea]; decide) (fun mc ms cnt a n val post hW ec => ?_)
        subst ec
        unfold wp_Printer_show wp_Printer_show_body
        exact q_full (by omega) (fun _ => ⟨fun _ => H.kindOf Uc ⟨fun z => absurd z k0, fun _ => ⟨fun z => absurd z k1, fun _ => ⟨fun z => absurd z h2, fun _ => ⟨mc, ms, by omega, by omega, hW⟩⟩⟩⟩, fun z => absurd rfl z⟩) (fun z => absurd z hf)
theorem show_full {d : Nat} {T : List Nat} {mc ms a n : Nat} {val : Nat → Int32} {x1 x2 : Int32} {post : Int32 → Nat → Nat → (Nat → Int32) → Prop} (h : 80 ≤ T.length) (h2 : T.length ≤ 142) (hp : post (nI T.length) a n val) : wp_Printer_show (d + 1) mc ms sz sz sz kc lc rc 0 (nI T.length) a n val x1 x2 post := by
  unfold wp_Printer_show wp_Printer_show_body
  exact q_full h2 (fun z => absurd z (by omega)) (fun _ => ⟨fun z => absurd z (by decide), fun _ => hp⟩)
/-- a list is closed -/
theorem show_close (H : HP sz f fre kc lc rc tk km lm rm π G) {c d : Nat} (Uc : US sz f fre c) (pl : PL kc lc rc c) {bd : Nat} (hbd : 90 ≤ bd) (hbd2 : bd ≤ 122) (x2 : Int32) (tx : Nat → List Nat) (r : Nat) {g : Nat} {T T0 : List Nat} {val : Nat → Int32} (hS : SBX g T val) (hE : EQ8 T T0) (hT : T.length ≤ bd) (hc : 80 ≤ T.length ∨ ¬ kc c = 2) :
    ∃ (T' : List Nat) (g' : Nat) (val' : Nat → Int32), SBX g' T' val' ∧ g ≤ g' ∧ EQ8 T' (T0 ++ rst kc lc rc tx (r + 1) c) ∧ T.length < T'.length ∧ T'.length ≤ bd + 4 ∧ ∀ (mc ms a kc0 ks0 : Nat) (post : Int32 → Nat → Nat → (Nat → Int32) → Prop), kc0 + (g' - g) ≤ mc → ks0 + 200 * (g' - g) ≤ ms → (∀ a', post (nI T'.length) a' (capOf g') val') → wp_Printer_showPair_J119 mc ms (wp_Printer_show (d + 1)) sz sz sz kc lc rc 0 post x2 (nI c) (nI T.length) a (capOf g) val kc0 ks0 := by
  obtain ⟨l1, l2, l3⟩ := H.lt Uc
  by_cases c0 : c = 0
  · subst c0
    have k0 := (H.nil (c := 0) (by omega)).2.2
    have er : rst kc lc rc tx (r + 1) 0 = [41] := by
      unfold rst
      rw [if_neg (by rw [k0]; decide), if_pos rfl]
    rw [er]
    obtain ⟨g', val', i1, i2, i3⟩ := app_c (c := 41) (by decide) g T val hS (by show T.length + 1 ≤ 142; omega)
    have el : (T ++ [41]).length = T.length + 1 := List.length_append
    exact ⟨T ++ [41], g', val', i1, i2, hE.app _, by omega, by omega, fun mc ms a kc0 ks0 post b1 b2 hp => ⟨fun _ => ⟨g' - g, 200 * (g' - g), by omega, by omega, i3 _ _ _ _ (Nat.le_refl _) (Nat.le_refl _) hp⟩, fun z => absurd rfl z⟩⟩
  · have nz : ¬ nI c = 0 := nI_ne0 (by omega) (by omega)
    obtain ⟨g1, val1, i1, i2, i3⟩ := app_dot g T val hS (by show T.length + 3 ≤ 142; omega)
    have el : (T ++ [32, 46, 32]).length = T.length + 3 := List.length_append
    by_cases hf : 80 ≤ (T ++ [32, 46, 32]).length
    · obtain ⟨g', val', j1, j2, j3⟩ := app_c (c := 41) (by decide) g1 _ val1 i1 (by show (T ++ [32, 46, 32]).length + 1 ≤ 142; omega)
      have el2 : ((T ++ [32, 46, 32]) ++ [41]).length = T.length + 4 := by rw [List.length_append, el]; rfl
      refine ⟨(T ++ [32, 46, 32]) ++ [41], g', val', j1, by omega, ?_, by omega, by omega, fun mc ms a kc0 ks0 post b1 b2 hp => ⟨fun z => absurd z nz, fun _ => ⟨g1 - g, 200 * (g1 - g), by omega, by omega, i3 _ _ _ _ (Nat.le_refl _) (Nat.le_refl _) (fun a1 => ⟨0, 0, by omega, by omega, show_full hf (by omega) ⟨g' - g1, 200 * (g' - g1), by omega, by omega, j3 _ _ _ _ (Nat.le_refl _) (Nat.le_refl _) hp⟩⟩)⟩⟩⟩
      by_cases hf2 : 80 ≤ T.length
      · rw [List.append_assoc]
        exact hE.full hf2 _ _
      · have hk : ¬ kc c = 2 := by
          rcases hc with z | z
          · omega
          · exact z
        have er : rst kc lc rc tx (r + 1) c = [32, 46, 32] ++ (atm kc lc c ++ [41]) := by
          unfold rst
          rw [if_neg hk, if_neg c0]
        rw [er, ← List.append_assoc]
        exact (hE.app [32, 46, 32]).full hf _ _
    · have hk : ¬ kc c = 2 := by
        rcases hc with z | z
        · omega
        · exact z
      have er : rst kc lc rc tx (r + 1) c = [32, 46, 32] ++ (atm kc lc c ++ [41]) := by
        unfold rst
        rw [if_neg hk, if_neg c0]
      have h4 : ¬ kc c = 4 := pl c (RCH.root rfl)
      obtain ⟨T2, g2, val2, s1, s2, s3, s4, s5, s6⟩ := show_atom H (d := d) Uc h4 hk (bd := bd) hbd (by omega) x2 g1 _ _ val1 i1 (hE.app [32, 46, 32]) (by omega)
      have lt2 := s5 (by omega)
      obtain ⟨g', val', j1, j2, j3⟩ := app_c (c := 41) (by decide) g2 _ val2 s1 (by show T2.length + 1 ≤ 142; omega)
      have el2 : (T2 ++ [41]).length = T2.length + 1 := List.length_append
      refine ⟨T2 ++ [41], g', val', j1, by omega, ?_, by omega, by omega, fun mc ms a kc0 ks0 post b1 b2 hp => ⟨fun z => absurd z nz, fun _ => ⟨g1 - g, 200 * (g1 - g), by omega, by omega, i3 _ _ _ _ (Nat.le_refl _) (Nat.le_refl _) (fun a1 => ⟨g2 - g1, 200 * (g2 - g1), by omega, by omega, s6 _ _ _ _ (Nat.le_refl _) (Nat.le_refl _) (fun a2 => ⟨g' - g2, 200 * (g' - g2), by omega, by omega, j3 _ _ _ _ (Nat.le_refl _) (Nat.le_refl _) hp⟩)⟩)⟩⟩⟩
      rw [er]
      have := s3.app [41]
      rw [List.append_assoc, List.append_assoc] at this
      exact this
/-- the parts of a list behind its first -/
theorem show_rest (H : HP sz f fre kc lc rc tk km lm rm π G) {rk : Nat → Nat} (hrk : ∀ c b, US sz f fre c → b < 200 → (kc c = 2 ∨ kc c = 4) → rc c = nI b → rk b < rk c ∧ US sz f fre b) {d bd : Nat} (hbd : 90 ≤ bd) (hbd2 : bd ≤ 122) {x2 : Int32} {tx : Nat → List Nat}
    (hsh : ∀ c, US sz f fre c → PL kc lc rc c → SHO (fun mc ms cnt a n val post => wp_Printer_show (d + 1) mc ms sz sz sz kc lc rc 0 cnt a n val (nI c) (x2 + 1) post) (tx c) bd) :
    ∀ (r c i g : Nat) (T T0 : List Nat) (val : Nat → Int32), rk c < r → US sz f fre c → PL kc lc rc c → SBX g T val → EQ8 T T0 → T.length ≤ bd → i ≤ T.length → i ≤ 80 →
    ∃ (T' : List Nat) (g' : Nat) (val' : Nat → Int32), SBX g' T' val' ∧ g ≤ g' ∧ EQ8 T' (T0 ++ rst kc lc rc tx r c) ∧ T.length < T'.length ∧ T'.length ≤ bd + 4 ∧ ∀ (mc ms a kc0 ks0 : Nat) (post : Int32 → Nat → Nat → (Nat → Int32) → Prop), kc0 + (g' - g) ≤ mc → ks0 + 200 * (g' - g) ≤ ms → (∀ a', post (nI T'.length) a' (capOf g') val') → wp_Printer_showPair_L54 mc ms (wp_Printer_show (d + 1)) sz sz sz kc lc rc 0 (wp_Printer_showPair_J119 mc ms (wp_Printer_show (d + 1)) sz sz sz kc lc rc 0 post) post r x2 (nI c) (nI i) (nI T.length) a (capOf g) val kc0 ks0 := by
  intro r
  induction r with
  | zero => intro c i g T T0 val h; exact absurd h (Nat.not_lt_zero _)
  | succ r ih =>
    intro c i g T T0 val hr Uc pl hS hE hT hi hi8
    obtain ⟨l1, l2, l3⟩ := H.lt Uc
    by_cases hex : 80 ≤ T.length ∨ ¬ kc c = 2
    · obtain ⟨T', g', val', s1, s2, s3, s4, s5, s6⟩ := show_close H (d := d) Uc pl hbd hbd2 x2 tx r hS hE hT hex
      refine ⟨T', g', val', s1, s2, s3, s4, s5, fun mc ms a kc0 ks0 post b1 b2 hp => ?_⟩
      have fin := s6 mc ms a kc0 ks0 post b1 b2 hp
      refine ⟨fun _ => fin, fun _ => H.isPair Uc (fun k2 => ⟨fun z => absurd z (by decide), fun _ => q_full (by omega) (fun z => ?_) (fun _ => ⟨fun z => absurd z (by decide), fun _ => fin⟩)⟩) (fun _ => ⟨fun _ => fin, fun z => absurd rfl z⟩)⟩
      rcases hex with y | y
      · omega
      · exact absurd k2 y
    · have hl : T.length < 80 := by omega
      have hk : kc c = 2 := Classical.byContradiction fun z => hex (Or.inr z)
      obtain ⟨-, x, y, p1, p2, p3, p4, p5, p6⟩ := H.pr Uc hk
      have lx := H.lt p5
      have ly := H.lt p6
      obtain ⟨rl, -⟩ := hrk c y Uc (by omega) (Or.inl hk) p2
      obtain ⟨hd, w1, w2, w3, w4⟩ := H.head Uc
      obtain ⟨tl, u1, u2, u3, u4⟩ := H.tail Uc
      have lhd := H.lt w1
      have ltl := H.lt u1
      have f1 : hd = x := (nI_eq (by omega) (by omega)).mp ((w2 hk).1.symm.trans p1)
      have f2 : tl = y := (nI_eq (by omega) (by omega)).mp ((u2 hk).1.symm.trans p2)
      subst f1 f2
      have er : rst kc lc rc tx (r + 1) c = [32] ++ (tx hd ++ rst kc lc rc tx r tl) := by
        show (if kc c = 2 then _ else _) = _
        rw [if_pos hk, p1, p2, nI_clamp (n := hd) (by omega), nI_clamp (n := tl) (by omega)]
        rfl
      obtain ⟨g1, val1, i1, i2, i3⟩ := app_c (c := 32) (by decide) g T val hS (by show T.length + 1 ≤ 142; omega)
      have el : (T ++ [32]).length = T.length + 1 := List.length_append
      obtain ⟨T2, g2, val2, s1, s2, s3, s4, s5, s6⟩ := hsh hd w1 (pl.l H.2.1 w1 hk p1) g1 _ _ val1 i1 (hE.app [32]) (by omega)
      have l2b : (T ++ [32]).length ≤ T2.length ∧ T2.length ≤ bd := by
        rcases Nat.lt_or_ge (T ++ [32]).length 80 with z | z
        · have := s5 z; omega
        · rw [s4 z]; omega
      obtain ⟨T', g', val', t1, t2, t3, t4, t5, t6⟩ := ih tl (i + 1) g2 T2 _ val2 (by omega) u1 (pl.r H.2.1 u1 hk p2) s1 s3 l2b.2 (by omega) (by omega)
      refine ⟨T', g', val', t1, by omega, ?_, by omega, t5, fun mc ms a kc0 ks0 post b1 b2 hp => ?_⟩
      · rw [er]
        rw [List.append_assoc, List.append_assoc] at t3
        exact t3
      · refine ⟨fun z => absurd z (nI_ge (b := 80) (by omega) (by decide)), fun _ => H.isPair Uc (fun _ => ⟨fun z => absurd z (by decide), fun _ => q_full (by omega) (fun _ => ⟨fun _ => ⟨g1 - g, 200 * (g1 - g), by omega, by omega, i3 _ _ _ _ (Nat.le_refl _) (Nat.le_refl _) (fun a1 => w4 _ ⟨g2 - g1, 200 * (g2 - g1), by omega, by omega, s6 _ _ _ _ (Nat.le_refl _) (Nat.le_refl _) (fun a2 => u4 _ ?_)⟩)⟩, fun z => absurd rfl z⟩) (fun z => absurd z (by omega))⟩) (fun z => absurd hk z)⟩
        rw [nI_1]
        exact t6 mc ms a2 _ _ post (by omega) (by omega) hp
/-- a cell is shown; k levels are left -/
theorem show_cell (H : HP sz f fre kc lc rc tk km lm rm π G) {rk : Nat → Nat} {R : Nat} (hrk : ∀ c b, US sz f fre c → b < 200 → (kc c = 2 ∨ kc c = 4) → rc c = nI b → rk b < rk c ∧ US sz f fre b) (hR : ∀ c, US sz f fre c → rk c < R) : ∀ (k d c : Nat), k ≤ d → k ≤ 8 → US sz f fre c → PL kc lc rc c → SHO (fun mc ms cnt a n val post => wp_Printer_show (d + 1) mc ms sz sz sz kc lc rc 0 cnt a n val (nI c) (nI (9 - k)) post) (txt kc lc rc R k c) (90 + 4 * k) := by
  intro k
  induction k with
  | zero =>
    intro d c hd hk Uc pl
    have h4 : ¬ kc c = 4 := pl c (RCH.root rfl)
    by_cases k2 : kc c = 2
    · intro g T T0 val hS hE hb
      have ex : txt kc lc rc R 0 c = [35] := if_pos k2
      rw [ex]
      by_cases hf : 80 ≤ T.length
      · refine ⟨T, g, val, hS, Nat.le_refl _, by have := hE.full hf [] [35]; rw [List.append_nil] at this; exact this, fun _ => rfl, fun z => absurd z (by omega), fun mc ms a post b1 b2 hp => show_full hf (by omega) (hp a)⟩
      · obtain ⟨g', val', i1, i2, i3⟩ := app_c (c := 35) (by decide) g T val hS (by show T.length + 1 ≤ 142; omega)
        have el : (T ++ [35]).length = T.length + 1 := List.length_append
        refine ⟨T ++ [35], g', val', i1, i2, hE.app _, fun z => absurd z hf, fun _ => ⟨by omega, by omega⟩, fun mc ms a post b1 b2 hp => ?_⟩
        unfold wp_Printer_show wp_Printer_show_body wp_Printer_showPair
        exact q_full (by omega) (fun _ => ⟨fun _ => H.kindOf Uc ⟨fun z => absurd (k2.symm.trans z) (by decide), fun _ => ⟨fun z => absurd (k2.symm.trans z) (by decide), fun _ => ⟨fun _ => ⟨g' - g, 200 * (g' - g), by omega, by omega, fun z => absurd z (nI_ge (b := 9) (a := 8) (by decide) (by decide)), fun _ => ⟨g' - g, 200 * (g' - g), by omega, by omega, i3 _ _ _ _ (Nat.le_refl _) (Nat.le_refl _) hp⟩⟩, fun z => absurd k2 z⟩⟩⟩, fun z => absurd rfl z⟩) (fun z => absurd z hf)
    · have ex : txt kc lc rc R 0 c = atm kc lc c := if_neg k2
      rw [ex]
      exact show_atom H Uc h4 k2 (by omega) (by omega) _
  | succ k ih =>
    intro d c hd hk Uc pl
    have h4 : ¬ kc c = 4 := pl c (RCH.root rfl)
    by_cases k2 : kc c = 2
    · obtain ⟨d', rfl⟩ : ∃ d', d = d' + 1 := ⟨d - 1, by omega⟩
      obtain ⟨-, x, y, p1, p2, p3, p4, p5, p6⟩ := H.pr Uc k2
      have lx := H.lt p5
      have ly := H.lt p6
      obtain ⟨hd', w1, w2, w3, w4⟩ := H.head Uc
      obtain ⟨tl, u1, u2, u3, u4⟩ := H.tail Uc
      have lhd := H.lt w1
      have ltl := H.lt u1
      have f1 : hd' = x := (nI_eq (by omega) (by omega)).mp ((w2 k2).1.symm.trans p1)
      have f2 : tl = y := (nI_eq (by omega) (by omega)).mp ((u2 k2).1.symm.trans p2)
      subst f1 f2
      have ex : txt kc lc rc R (k + 1) c = [40] ++ (txt kc lc rc R k hd' ++ rst kc lc rc (txt kc lc rc R k) R tl) := by
        show (if kc c = 2 then _ else _) = _
        rw [if_pos k2, p1, p2, nI_clamp (n := hd') (by omega), nI_clamp (n := tl) (by omega)]
        rfl
      rw [ex]
      have e9 : nI (9 - (k + 1)) + 1 = nI (9 - k) := by rw [nI_1, show 9 - (k + 1) + 1 = 9 - k by omega]
      have hsh : ∀ c, US sz f fre c → PL kc lc rc c → SHO (fun mc ms cnt a n val post => wp_Printer_show (d' + 1) mc ms sz sz sz kc lc rc 0 cnt a n val (nI c) (nI (9 - (k + 1)) + 1) post) (txt kc lc rc R k c) (90 + 4 * k) := fun c hc pc => by
        rw [e9]
        exact ih d' c (by omega) (by omega) hc pc
      intro g T T0 val hS hE hb
      by_cases hf : 80 ≤ T.length
      · refine ⟨T, g, val, hS, Nat.le_refl _, by have := hE.full hf [] ([40] ++ (txt kc lc rc R k hd' ++ rst kc lc rc (txt kc lc rc R k) R tl)); rw [List.append_nil] at this; exact this, fun _ => rfl, fun z => absurd z (by omega), fun mc ms a post b1 b2 hp => show_full hf (by omega) (hp a)⟩
      · obtain ⟨g1, val1, i1, i2, i3⟩ := app_c (c := 40) (by decide) g T val hS (by show T.length + 1 ≤ 142; omega)
        have el : (T ++ [40]).length = T.length + 1 := List.length_append
        obtain ⟨T2, g2, val2, s1, s2, s3, s4, s5, s6⟩ := hsh hd' w1 (pl.l H.2.1 w1 k2 p1) g1 _ _ val1 i1 (hE.app [40]) (by omega)
        have l2b : (T ++ [40]).length ≤ T2.length ∧ T2.length ≤ 90 + 4 * k := by
          rcases Nat.lt_or_ge (T ++ [40]).length 80 with z | z
          · have := s5 z; omega
          · rw [s4 z]; omega
        obtain ⟨T', g', val', t1, t2, t3, t4, t5, t6⟩ := show_rest H hrk (d := d') (bd := 90 + 4 * k) (by omega) (by omega) (x2 := nI (9 - (k + 1))) hsh R tl 0 g2 T2 _ val2 (hR tl u1) u1 (pl.r H.2.1 u1 k2 p2) s1 s3 l2b.2 (Nat.zero_le _) (Nat.zero_le _)
        refine ⟨T', g', val', t1, by omega, ?_, fun z => absurd z hf, fun _ => ⟨by omega, by omega⟩, fun mc ms a post b1 b2 hp => ?_⟩
        · rw [List.append_assoc, List.append_assoc] at t3
          exact t3
        · have t7 := fun a2 => t6 (g' - g) (200 * (g' - g)) a2 (0 + (g1 - g) + (g2 - g1)) (0 + 200 * (g1 - g) + 200 * (g2 - g1)) post (by omega) (by omega) hp
          show wp_Printer_show_body mc ms (wp_Printer_show (d' + 1)) sz sz sz kc lc rc 0 (nI T.length) a (capOf g) val (nI c) (nI (9 - (k + 1))) post
          unfold wp_Printer_show_body wp_Printer_showPair
          exact q_full (by omega) (fun _ => ⟨fun _ => H.kindOf Uc ⟨fun z => absurd (k2.symm.trans z) (by decide), fun _ => ⟨fun z => absurd (k2.symm.trans z) (by decide), fun _ => ⟨fun _ => ⟨g' - g, 200 * (g' - g), by omega, by omega, fun _ => ⟨g1 - g, 200 * (g1 - g), by omega, by omega, i3 _ _ _ _ (Nat.le_refl _) (Nat.le_refl _) (fun a1 => w4 _ ⟨g2 - g1, 200 * (g2 - g1), by omega, by omega, s6 _ _ _ _ (Nat.le_refl _) (Nat.le_refl _) (fun a2 => u4 _ ⟨R, t7 a2⟩)⟩)⟩, fun z => absurd (nI_le (b := 8) (by omega) (by decide)) z⟩, fun z => absurd k2 z⟩⟩⟩, fun z => absurd rfl z⟩) (fun z => absurd z hf)
    · have ex : txt kc lc rc R (k + 1) c = atm kc lc c := if_neg k2
      rw [ex]
      exact show_atom H Uc h4 k2 (by omega) (by omega) _
end
