/-! what both translate a node to -/
def plc (K V : Nat → Int32) (kids : Nat → List Nat) (v : Int32) : List Nat → Nat → Option Nat
  | [], _ => none
  | j :: t, k => if V (mem0 K kids j) = v then some k else plc K V kids v t (k + 1)
def look (K V : Nat → Int32) (kids : Nat → List Nat) (v : Int32) : List (List Nat) → Nat → Option (Nat × Nat)
  | [], _ => none
  | l :: t, i => match plc K V kids v l 0 with
    | some k => some (i, k)
    | none => look K V kids v t (i + 1)
theorem plc_hit {K V : Nat → Int32} {kids : Nat → List Nat} {v : Int32} : ∀ {l : List Nat} {i k : Nat}, i < l.length → V (mem0 K kids (l.getD i 0)) = v → (∀ i', i' < i → V (mem0 K kids (l.getD i' 0)) ≠ v) → plc K V kids v l k = some (k + i)
  | [], _, _, h, _, _ => absurd h (Nat.not_lt_zero _)
  | j :: l, 0, k, _, h, _ => if_pos h
  | j :: l, i + 1, k, h0, h, h1 => by
    unfold plc
    rw [if_neg (show V (mem0 K kids j) ≠ v from h1 0 (by omega)), plc_hit (i := i) (Nat.lt_of_succ_lt_succ h0) h (fun i' hi => h1 (i' + 1) (by omega)), show k + 1 + i = k + (i + 1) by omega]
theorem plc_miss {K V : Nat → Int32} {kids : Nat → List Nat} {v : Int32} : ∀ {l : List Nat} {k : Nat}, (∀ j ∈ l, V (mem0 K kids j) ≠ v) → plc K V kids v l k = none
  | [], _, _ => rfl
  | j :: l, k, h => by
    unfold plc
    rw [if_neg (h j List.mem_cons_self), plc_miss (fun y hy => h y (List.mem_cons_of_mem _ hy))]
/-- the form that a name is, if it is one -/
def formIx (K V : Nat → Int32) (h : Nat) : Option Nat := if K h = 1 then (List.range 16).find? (fun i => decide (V h = formC.getD i 0)) else none
theorem formIx_some {K V : Nat → Int32} {h i : Nat} (e : formIx K V h = some i) : i < 16 ∧ K h = 1 ∧ V h = formC.getD i 0 := by
  unfold formIx at e
  by_cases c : K h = 1
  · rw [if_pos c] at e
    have h1 := List.find?_some e
    have h2 := List.mem_of_find?_eq_some e
    exact ⟨List.mem_range.mp h2, c, of_decide_eq_true h1⟩
  · rw [if_neg c] at e
    cases e
theorem formIx_none {K V : Nat → Int32} {h : Nat} (e : formIx K V h = none) : K h = 1 → ∀ i, i < 16 → V h ≠ formC.getD i 0 := by
  intro c i hi e2
  unfold formIx at e
  rw [if_pos c] at e
  have := List.find?_eq_none.mp e i (List.mem_range.mpr hi)
  exact this (decide_eq_true e2)
/-- a form's code; c translates a node within frames -/
def cform (kids : Nat → List Nat) (c : List (List Nat) → Nat → GG) (fs : List (List Nat)) (i : Nat) (t : List Nat) : GG :=
  if i ≤ 2 then gseq (c fs (t.getD 0 0)) (gput (9 + i) 0 0)
  else if i = 3 then gseq (c fs (t.getD 1 0)) (gseq (c fs (t.getD 0 0)) (gput 12 0 0))
  else if i < 11 then gseq (c fs (t.getD 0 0)) (gseq (c fs (t.getD 1 0)) (gput (9 + i) 0 0))
  else if i = 11 then gcon (t.getD 0 0)
  else if i = 12 then gseq (c fs (t.getD 0 0)) (gsel (c fs (t.getD 1 0)) (c fs (t.getD 2 0)))
  else if i = 13 then gfn (c (kids (t.getD 0 0) :: fs) (t.getD 1 0))
  else if i = 14 then gseq (gargs (fun j => c fs ((kids j).getD 1 0)) (t.drop 1)) (gseq (gfn (c (t.drop 1 :: fs) (t.getD 0 0))) (gput 3 0 0))
  else gseq (gput 5 0 0) (gseq (gargs (fun j => c (t.drop 1 :: fs) ((kids j).getD 1 0)) (t.drop 1)) (gseq (gfn (c (t.drop 1 :: fs) (t.getD 0 0))) (gput 6 0 0)))
noncomputable def comp (K V : Nat → Int32) (kids : Nat → List Nat) : Nat → List (List Nat) → Nat → GG
  | 0, _, _ => gerr (-2)
  | d + 1, fs, j => if K j = 0 then gcon j
    else if K j = 1 then match look K V kids (V j) fs 0 with
      | some x => gput 0 x.1 x.2
      | none => gerr (-3)
    else match kids j with
      | [] => gerr (-2)
      | h :: t => match formIx K V h with
        | none => gseq (gargs (comp K V kids d fs) t) (gseq (comp K V kids d fs h) (gput 3 0 0))
        | some i => @ite _ (shp K kids i (h :: t)) (Classical.propDecidable _) (cform kids (comp K V kids d) fs i t) (gerr (-2))
/-! the class: a variable -/
theorem q_var_L2 {m : Nat} {F K V fr wo : Nat → Int32} {kids : Nat → List Nat} {n : Nat} {v er sz : Int32} {K34 : Int32 → Int32 → Int32 → Int32 → (Nat → Int32) → Prop} {post : Int32 → Int32 → (Nat → Int32) → Prop} (hm : m ≤ 200) (hn : n ≤ 12) (hT : ∀ j, j < m → K j = 2 → ch F (V j) (kids j) ∧ inc 0 m (kids j)) : ∀ (fs : List (List Nat)) (i : Nat), i + fs.length = n → FRC m F K kids fr fs → (∀ a k, look K V kids v fs i = some (a, k) → K34 (nI a) (nI k) er sz wo) → (look K V kids v fs i = none → post (-3) sz wo) → wp_Translator_variable_L2 (nI n) fr (nI m) F K V K34 post (fs.length + 1) v (nI i) er sz wo
  | [], i, hi, hF, h1, h0 => by
    have e : i = n := hi
    subst e
    exact ⟨fun _ => h0 rfl, fun z => absurd (Int32.le_refl _) z⟩
  | l :: t, i, hi, hF, h1, h0 => by
    have hi' : i + (t.length + 1) = n := hi
    have ex : (nI n - 1) - nI i = nI t.length := by
      rw [show n = (i + t.length) + 1 by omega, nI_pred, pk_sub (by omega), show i + t.length - i = t.length by omega]
    refine ⟨fun z => absurd z (nI_ge (by omega) (by omega)), fun _ => ?_⟩
    rw [ex, nI_clamp (n := t.length) (by omega), nI_1]
    refine ⟨vp_in_nI (by omega) (by decide), ?_⟩
    have unf : look K V kids v (l :: t) i = match plc K V kids v l 0 with
      | some k => some (i, k)
      | none => look K V kids v t (i + 1) := rfl
    have hlen := hF.1.2.1.len
    refine q_place hm hT hF.1.1 hF.1.2.1 hF.1.2.2 (fun k hk c1 c2 => ?_) (fun c => ?_)
    · rw [plc_hit hk c1 c2, Nat.zero_add] at unf
      exact ⟨fun z => absurd z (nI_m1 (by omega)), fun _ => h1 i k unf⟩
    · rw [plc_miss c] at unf
      exact ⟨fun _ => q_var_L2 hm hn hT t (i + 1) (by omega) hF.2 (fun a k e => h1 a k (unf.trans e)) (fun e => h0 (unf.trans e)), fun z => absurd rfl z⟩
theorem dsum_cons (f : Nat → Nat) (a : Nat) (l : List Nat) : ∀ k, dsum f (a :: l) (k + 1) = f a + dsum f l k
  | 0 => rfl
  | k + 1 => by
    have := dsum_cons f a l k
    show f ((a :: l).getD (k + 1) 0) + dsum f (a :: l) (k + 1) = f a + (f (l.getD k 0) + dsum f l k)
    rw [this]
    show f (l.getD k 0) + (f a + dsum f l k) = _
    omega
theorem dsum_all (f : Nat → Nat) : ∀ l : List Nat, dsum f l l.length = wsum f l
  | [] => rfl
  | a :: l => by
    rw [show (a :: l).length = l.length + 1 from rfl, dsum_cons, dsum_all f l]
    rfl
theorem wsum_le {f g : Nat → Nat} : ∀ {l : List Nat}, (∀ j ∈ l, f j ≤ g j) → wsum f l ≤ wsum g l
  | [], _ => Nat.le_refl _
  | a :: l, h => Nat.add_le_add (h a List.mem_cons_self) (wsum_le (fun j hj => h j (List.mem_cons_of_mem _ hj)))
theorem wsum_mul (c : Nat) (f : Nat → Nat) : ∀ l : List Nat, wsum (fun j => c * f j) l = c * wsum f l
  | [] => rfl
  | a :: l => by
    show c * f a + wsum (fun j => c * f j) l = c * (f a + wsum f l)
    rw [wsum_mul c f l, Nat.mul_add]
/-! the class translates a node as comp says -/
def TC (m : Nat) (K V F : Nat → Int32) (kids : Nat → List Nat) (w dp : Nat → Nat) : Prop := m ≤ 200 ∧ ∀ j, j < m → 1 ≤ w j ∧ dp j ≤ 12 ∧
  (K j = 0 ∨ K j = 1 ∨ (K j = 2 ∧ dp j ≤ 11 ∧ ch F (V j) (kids j) ∧ inc (j + 1) m (kids j) ∧ wsum w (kids j) + 2 ≤ w j ∧ ∀ c ∈ kids j, dp c = dp j + 1))
theorem TREE.tc {b m q : Nat} {K V F S W C N : Nat → Int32} {kids : Nat → List Nat} {w dp : Nat → Nat} (h : TREE b m q K V F S W C N kids w dp) : TC m K V F kids w dp :=
  ⟨h.1, fun j hj => by
    obtain ⟨h1, h2, h3, h4⟩ := h.2 j hj
    refine ⟨h1, h3, ?_⟩
    rcases h4 with h4 | h4 | h4
    · exact Or.inl h4.1
    · exact Or.inr (Or.inl h4.1)
    · exact Or.inr (Or.inr ⟨h4.1, h4.2.2.1, h4.2.2.2.1, h4.2.2.2.2.2.1, h4.2.2.2.2.2.2.1, h4.2.2.2.2.2.2.2⟩)⟩
theorem TC.hT {m : Nat} {K V F : Nat → Int32} {kids : Nat → List Nat} {w dp : Nat → Nat} (h : TC m K V F kids w dp) : ∀ j, j < m → K j = 2 → ch F (V j) (kids j) ∧ inc 0 m (kids j) := fun j hj e => by
  rcases (h.2 j hj).2.2 with z | z | z
  · exact absurd (e.symm.trans z) (by decide)
  · exact absurd (e.symm.trans z) (by decide)
  · exact ⟨z.2.2.1, z.2.2.2.1.weak (by omega)⟩
theorem wsum_mem {w : Nat → Nat} : ∀ {l : List Nat} {j : Nat}, j ∈ l → w j ≤ wsum w l
  | a :: l, j, h => by
    show w j ≤ w a + wsum w l
    rcases List.mem_cons.mp h with e | h
    · rw [e]; omega
    · have := wsum_mem (w := w) h; omega
/-- the value of a binding -/
theorem TC.val {m : Nat} {K V F : Nat → Int32} {kids : Nat → List Nat} {w dp : Nat → Nat} (h : TC m K V F kids w dp) {j : Nat} (hj : j < m) (hb : bnd K kids j) : (kids j).getD 1 0 < m ∧ w ((kids j).getD 1 0) + 3 ≤ w j ∧ dp ((kids j).getD 1 0) = dp j + 1 := by
  obtain ⟨z1, z2, z3⟩ := hb
  rcases (h.2 j hj).2.2 with z | z | ⟨-, -, -, t1, t2, t3⟩
  · exact absurd (z1.symm.trans z) (by decide)
  · exact absurd (z1.symm.trans z) (by decide)
  cases e : kids j with
  | nil => rw [e] at z2; exact absurd z2 (by decide)
  | cons a t =>
    cases t with
    | nil => rw [e] at z2; exact absurd (show 1 = 2 from z2) (by decide)
    | cons v t =>
      rw [e] at t1 t2 t3
      have hw : w a + (w v + wsum w t) + 2 ≤ w j := t2
      have := (h.2 a t1.2.1).1
      exact ⟨t1.2.2.2.1, by show w v + 3 ≤ w j; omega, t3 v (List.mem_cons_of_mem _ List.mem_cons_self)⟩
theorem gargs_bound {m : Nat} {K V F : Nat → Int32} {kids : Nat → List Nat} {w dp : Nat → Nat} (h : TC m K V F kids w dp) {l : List Nat} {v : Nat → Nat} (hl : ∀ j ∈ l, v j < m ∧ w (v j) ≤ w j) : dsum (fun j => (2 * w (v j) - 1) + 1) l l.length ≤ 2 * wsum w l ∧ dsum (fun j => w (v j)) l l.length ≤ wsum w l := by
  rw [dsum_all, dsum_all, ← wsum_mul]
  refine ⟨wsum_le (fun j hj => ?_), wsum_le (fun j hj => (hl j hj).2)⟩
  obtain ⟨a, b⟩ := hl j hj
  have := (h.2 _ a).1
  show 2 * w (v j) - 1 + 1 ≤ 2 * w j
  omega
theorem len0 {t : List Nat} (h : t.length = 0) : t = [] := List.eq_nil_of_length_eq_zero h
theorem len1 {t : List Nat} (h : t.length = 1) : ∃ a, t = [a] := by
  match t, h with
  | [a], _ => exact ⟨a, rfl⟩
theorem len2 {t : List Nat} (h : t.length = 2) : ∃ a b, t = [a, b] := by
  match t, h with
  | [a, b], _ => exact ⟨a, b, rfl⟩
theorem CR.within {m : Nat} {K F : Nat → Int32} {kids : Nat → List Nat} {fs : List (List Nat)} {bl bc : Nat} {g : GG} {M : CMT} {l : List Nat} {x : Int32} (hg : CR m F K kids (l :: fs) bl bc g M) (hl : ch F x l ∧ inc 0 m l ∧ ∀ j ∈ l, K j = 1 ∨ bnd K kids j) (hn : fs.length < 12) : CR m F K kids fs bl bc g (fun fc er fr sz lc co wo post => wp_Translator_enterFrame fc fr x (fun fc fr => M fc er fr sz lc co wo (fun fc er fr sz lc co wo => wp_Translator_leaveFrame fc (fun fc => post fc er fr sz lc co wo)))) := by
  refine ⟨hg.1, fun er fr pc nc co wo post h1 h2 h3 hF hp => ?_⟩
  refine ⟨fun c => absurd c (nI_ge (a := fs.length) (b := 12) hn (by decide)), fun _ => ⟨vp_in_nI hn (by decide), ?_⟩⟩
  rw [nI_clamp (n := fs.length) (by omega), nI_1]
  refine hg.2 er (upd fr fs.length x) pc nc co wo _ h1 h2 h3 ⟨by rw [pk_us]; exact hl, hF.to (fun k hk => pk_un (by omega))⟩ (fun er2 fr2 pc2 nc2 co2 wo2 b1 b2 b3 b4 b5 => ?_)
  refine ⟨fun c => absurd c (nI_nle (by show 0 < _ + 1; omega) (by show fs.length + 1 < _; omega)), fun _ => ?_⟩
  rw [show nI (l :: fs).length - 1 = nI fs.length from nI_pred _]
  exact hp er2 fr2 pc2 nc2 co2 wo2 b1 b2 (fun k hk => (b3 k (by show k < _ + 1; omega)).trans (pk_un (by omega))) b4 b5
theorem CR.form {m : Nat} {K V F fn : Nat → Int32} {kids : Nat → List Nat} {w dp : Nat → Nat} {RE : RET} {c : List (List Nat) → Nat → GG} (hT : TC m K V F kids w dp) {fs : List (List Nat)} {j i h x : Nat} {t : List Nat} (hj : j < m) (hk : K j = 2) (hkids : kids j = h :: x :: t) (hi : i < 16) (hs : shp K kids i (h :: x :: t)) (hfs : fs.length ≤ dp j)
    (kid : ∀ q, q < m → dp j + 1 ≤ dp q → ∀ fs', fs'.length ≤ dp j + 1 → CR m F K kids fs' (2 * w q - 1) (w q) (c fs' q) (atN RE m F K V fn (nI q))) :
    CR m F K kids fs (2 * w j - 1) (w j) (cform kids c fs i (x :: t)) (fun fc er fr sz lc co wo post => wp_Translator_form RE fc er fn fr sz lc co (nI m) F K V wo (nI i) (nI x) post) := by
  have hm := hT.1
  obtain ⟨hw1, -, hk2⟩ := hT.2 j hj
  rcases hk2 with z | z | ⟨-, hd11, hch, hinc, hws, hdk⟩
  · exact absurd (hk.symm.trans z) (by decide)
  · exact absurd (hk.symm.trans z) (by decide)
  rw [hkids] at hch hinc hws hdk
  obtain ⟨s11, s12, s13, s14, s3, s2⟩ := hs
  have hwj : w h + (w x + wsum w t) + 2 ≤ w j := hws
  have hhm : h < m := hinc.2.1
  have hwh := (hT.2 h hhm).1
  have hcht : ch F (F x) t := hch.2.2
  have hinct : inc (h + 1) m (x :: t) := hinc.2.2
  have hdt : ∀ q ∈ x :: t, dp q = dp j + 1 := fun q hq => hdk q (List.mem_cons_of_mem _ hq)
  have ne : ∀ {a : Nat}, i ≠ a → a < 16 → ¬ nI i = nI a := fun {a} z1 z2 z3 => z1 ((nI_eq (by omega) (by omega)).mp z3)
  have kq : ∀ q ∈ x :: t, q < m ∧ 1 ≤ w q ∧ ∀ fs', fs'.length ≤ dp j + 1 → CR m F K kids fs' (2 * w q - 1) (w q) (c fs' q) (atN RE m F K V fn (nI q)) := fun q hq => ⟨(hinct.mem hq).2, (hT.2 q (hinct.mem hq).2).1, kid q (hinct.mem hq).2 (by rw [hdt q hq]; omega)⟩
  obtain ⟨k1, k2, k3⟩ := kq x List.mem_cons_self
  have vx : vp_in (nI x) 200 := vp_in_nI (by omega) (by decide)
  have ex : (nI x).toNatClampNeg = x := nI_clamp (by omega)
  -- operations
  have oper : i < 11 → CR m F K kids fs (2 * w j - 1) (w j) (cform kids c fs i (x :: t)) (fun fc er fr sz lc co wo post => wp_Translator_operation RE fc er fn fr sz lc co (nI m) F K V wo (nI i) (nI x) post) := fun h11 => by
    by_cases h2 : i ≤ 2
    · have et := len0 (Nat.succ.inj (Nat.succ.inj (s2 h2)))
      subst et
      have hw : w h + (w x + 0) + 2 ≤ w j := hwj
      have ec : cform kids c fs i [x] = gseq (c fs x) (gput (9 + i) 0 0) := by unfold cform; rw [if_pos h2]; rfl
      rw [ec]
      exact (CR.op1 (k3 fs (by omega)) (by omega) h2 rfl).mono (by omega) (by omega)
    · obtain ⟨b, rfl⟩ := len1 (Nat.succ.inj (Nat.succ.inj (s3 ⟨by omega, h11⟩)))
      obtain ⟨l1, l2, l3⟩ := kq b (List.mem_cons_of_mem _ List.mem_cons_self)
      have hw : w h + (w x + (w b + 0)) + 2 ≤ w j := hwj
      by_cases h3 : i = 3
      · have ec : cform kids c fs i [x, b] = gseq (c fs b) (gseq (c fs x) (gput 12 0 0)) := by unfold cform; rw [if_neg h2, if_pos h3]; rfl
        rw [ec]
        exact (CR.op3 (k3 fs (by omega)) (l3 fs (by omega)) (by omega) hcht.1 (by rw [h3])).mono (by omega) (by omega)
      · have ec : cform kids c fs i [x, b] = gseq (c fs x) (gseq (c fs b) (gput (9 + i) 0 0)) := by unfold cform; rw [if_neg h2, if_neg h3, if_pos h11]; rfl
        rw [ec]
        exact (CR.op2 (k3 fs (by omega)) (l3 fs (by omega)) (by omega) hcht.1 (by omega) h11 rfl).mono (by omega) (by omega)
  by_cases h11 : i < 11
  · refine (oper h11).of (fun fc er fr sz lc co wo post z => ?_)
    unfold wp_Translator_form wp_Datum_followerOf
    exact ⟨vx, fun q => absurd q (ne (a := 11) (by omega) (by omega)), fun _ => ⟨fun q => absurd q (ne (a := 12) (by omega) (by omega)), fun _ => ⟨fun q => absurd q (ne (a := 13) (by omega) (by omega)), fun _ => ⟨fun q => absurd q (ne (a := 14) (by omega) (by omega)), fun _ => ⟨fun q => absurd q (ne (a := 15) (by omega) (by omega)), fun _ => z⟩⟩⟩⟩⟩
  by_cases i11 : i = 11
  · subst i11
    have ec : cform kids c fs 11 (x :: t) = gcon x := rfl
    rw [ec]
    refine ((CR.con (j := x)).of (fun fc er fr sz lc co wo post z => ?_)).mono (by omega) (by omega)
    exact ⟨vx, fun _ => z, fun q => absurd rfl q⟩
  by_cases i12 : i = 12
  · subst i12
    obtain ⟨b, d, rfl⟩ := len2 (Nat.succ.inj (Nat.succ.inj (s12 rfl)))
    obtain ⟨l1, l2, l3⟩ := kq b (List.mem_cons_of_mem _ List.mem_cons_self)
    obtain ⟨n1, n2, n3⟩ := kq d (List.mem_cons_of_mem _ (List.mem_cons_of_mem _ List.mem_cons_self))
    have hw : w h + (w x + (w b + (w d + 0))) + 2 ≤ w j := hwj
    have ec : cform kids c fs 12 [x, b, d] = gseq (c fs x) (gsel (c fs b) (c fs d)) := rfl
    rw [ec]
    refine ((CR.sel (k3 fs (by omega)) (l3 fs (by omega)) (n3 fs (by omega)) (by omega) (by omega) hcht.1 hcht.2.1).of (fun fc er fr sz lc co wo post z => ?_)).mono (by omega) (by omega)
    exact ⟨vx, fun q => absurd q (by decide), fun _ => ⟨fun _ => z, fun q => absurd rfl q⟩⟩
  by_cases i13 : i = 13
  · subst i13
    obtain ⟨z1, z2, z3⟩ := s13 rfl
    obtain ⟨b, rfl⟩ := len1 (Nat.succ.inj (Nat.succ.inj z1))
    obtain ⟨l1, l2, l3⟩ := kq b (List.mem_cons_of_mem _ List.mem_cons_self)
    have hw : w h + (w x + (w b + 0)) + 2 ≤ w j := hwj
    have z2' : K x = 2 := z2
    have z3' : ∀ q ∈ kids x, K q = 1 := z3
    obtain ⟨c1, c2⟩ := hT.hT x k1 z2'
    have ec : cform kids c fs 13 [x, b] = gfn (c (kids x :: fs) b) := rfl
    rw [ec]
    refine ((CR.fun_ (l3 (kids x :: fs) (by show _ + 1 ≤ _; omega)) ⟨c1, c2, fun q hq => Or.inl (z3' q hq)⟩ (by omega)).of (fun fc er fr sz lc co wo post z => ?_)).mono (by omega) (by omega)
    unfold wp_Translator_form wp_Datum_followerOf wp_Datum_firstPartOf
    rw [ex, z2', show F x = nI b from hcht.1]
    exact ⟨vx, fun q => absurd q (by decide), fun _ => ⟨fun q => absurd q (by decide), fun _ => ⟨fun _ => ⟨vx, fun _ => ⟨vx, z⟩, fun q => absurd rfl q⟩, fun q => absurd rfl q⟩⟩⟩
  -- let and letrec
  obtain ⟨z1, z2⟩ := s14 (by omega)
  have z2' : ∀ q ∈ t, bnd K kids q := z2
  have vq : ∀ q ∈ t, (kids q).getD 1 0 < m ∧ w ((kids q).getD 1 0) ≤ w q := fun q hq => by
    obtain ⟨v1, v2, v3⟩ := hT.val (hinct.mem (List.mem_cons_of_mem _ hq)).2 (z2' q hq)
    exact ⟨v1, by omega⟩
  have vc : ∀ fs', fs'.length ≤ dp j + 1 → ∀ q ∈ t, CR m F K kids fs' (2 * w ((kids q).getD 1 0) - 1) (w ((kids q).getD 1 0)) (c fs' ((kids q).getD 1 0)) (atN RE m F K V fn (nI ((kids q).getD 1 0))) := fun fs' hf q hq => by
    obtain ⟨v1, v2, v3⟩ := hT.val (hinct.mem (List.mem_cons_of_mem _ hq)).2 (z2' q hq)
    exact kid _ v1 (by rw [v3, hdt q (List.mem_cons_of_mem _ hq)]; omega) fs' hf
  obtain ⟨bd1, bd2⟩ := gargs_bound hT (l := t) (v := fun q => (kids q).getD 1 0) vq
  have hi0 : inc 0 m t := (hinct.2.2).weak (by omega)
  have hfr : ch F (F x) t ∧ inc 0 m t ∧ ∀ q ∈ t, K q = 1 ∨ bnd K kids q := ⟨hcht, hi0, fun q hq => Or.inr (z2' q hq)⟩
  by_cases i14 : i = 14
  · subst i14
    have ec : cform kids c fs 14 (x :: t) = gseq (gargs (fun q => c fs ((kids q).getD 1 0)) t) (gseq (gfn (c (t :: fs) x)) (gput 3 0 0)) := rfl
    rw [ec]
    have b1 := CR.vals (x := F x) hm hT.hT hcht hi0 z2' (vc fs (by omega))
    have b2 := CR.fun_ (y := nI x) (k3 (t :: fs) (by show _ + 1 ≤ _; omega)) hfr (by omega)
    refine ((CR.seq b1 (CR.seq b2 (CR.put (o := 3) (a := 0) (b := 0) rfl rfl rfl))).of (fun fc er fr sz lc co wo post z => ?_)).mono (by omega) (by omega)
    unfold wp_Translator_form wp_Datum_followerOf
    rw [ex]
    exact ⟨vx, fun q => absurd q (by decide), fun _ => ⟨fun q => absurd q (by decide), fun _ => ⟨fun q => absurd q (by decide), fun _ => ⟨fun _ => z, fun q => absurd rfl q⟩⟩⟩⟩
  · have i15 : i = 15 := by omega
    subst i15
    have ec : cform kids c fs 15 (x :: t) = gseq (gput 5 0 0) (gseq (gargs (fun q => c (t :: fs) ((kids q).getD 1 0)) t) (gseq (gfn (c (t :: fs) x)) (gput 6 0 0))) := rfl
    rw [ec]
    have b1 := CR.within (CR.vals (x := F x) hm hT.hT hcht hi0 z2' (vc (t :: fs) (by show _ + 1 ≤ _; omega))) hfr (by omega)
    have b2 := CR.fun_ (y := nI x) (k3 (t :: fs) (by show _ + 1 ≤ _; omega)) hfr (by omega)
    refine ((CR.seq (CR.put (o := 5) (a := 0) (b := 0) rfl rfl rfl) (CR.seq b1 (CR.seq b2 (CR.put (o := 6) (a := 0) (b := 0) rfl rfl rfl)))).of (fun fc er fr sz lc co wo post z => ?_)).mono (by omega) (by omega)
    unfold wp_Translator_form wp_Datum_followerOf
    rw [ex]
    exact ⟨vx, fun q => absurd q (by decide), fun _ => ⟨fun q => absurd q (by decide), fun _ => ⟨fun q => absurd q (by decide), fun _ => ⟨fun q => absurd q (by decide), fun _ => ⟨fun _ => z, fun q => absurd rfl q⟩⟩⟩⟩⟩
theorem expr_class {m : Nat} {K V F : Nat → Int32} {kids : Nat → List Nat} {w dp : Nat → Nat} (hT : TC m K V F kids w dp) : ∀ (d : Nat) (fs : List (List Nat)) (j : Nat), j < m → 13 ≤ d + dp j → fs.length ≤ dp j → CR m F K kids fs (2 * w j - 1) (w j) (comp K V kids d fs j) (atN (wp_Translator_expression d) m F K V (fun x => formC.getD x 0) (nI j)) := by
  intro d
  induction d with
  | zero => intro fs j hj hd; exact absurd (hT.2 j hj).2.1 (by omega)
  | succ d ih =>
    intro fs j hj hd hfs
    have hm := hT.1
    obtain ⟨hw1, hdp, hk⟩ := hT.2 j hj
    have vj : vp_in (nI j) 200 := vp_in_nI (by omega) (by decide)
    have ej : (nI j).toNatClampNeg = j := nI_clamp (by omega)
    -- a call begins with a look at the error
    have start : ∀ {b0 k0 : Nat} {g : GG} {M : CMT}, CR m F K kids fs b0 k0 g M → (∀ fc fr sz lc co wo post, M fc 0 fr sz lc co wo post → wp_Datum_kindOf K (nI j) (fun r_2 => ((r_2 = 0 → (wp_Translator_constant sz lc co wo (nI j) (fun sz_4 lc_5 co_6 wo_7 => post fc 0 fr sz_4 lc_5 co_6 wo_7))) ∧ (¬ r_2 = 0 → (((r_2 = 1 → (wp_Datum_valueOf V (nI j) (fun r_9 => wp_Translator_variable fc 0 fr sz (nI m) F K V wo r_9 (fun er_10 sz_11 wo_12 => post fc er_10 fr sz_11 lc co wo_12)))) ∧ (¬ r_2 = 1 → (wp_Translator_list (wp_Translator_expression d) fc 0 (fun x => formC.getD x 0) fr sz lc co (nI m) F K V wo (nI j) post)))))))) → CR m F K kids fs b0 k0 g (atN (wp_Translator_expression (d + 1)) m F K V (fun x => formC.getD x 0) (nI j)) := fun hc hM => by
      refine ⟨hc.1, fun er fr pc nc co wo post a1 a2 a3 a4 a5 => ?_⟩
      by_cases e : er = 0
      · subst e
        exact ⟨fun _ => hM _ _ _ _ _ _ _ (hc.2 0 fr pc nc co wo post a1 a2 a3 a4 a5), fun z => absurd rfl z⟩
      · exact ⟨fun z => absurd z e, fun _ => a5 er fr pc nc co wo a1 a2 (fun _ _ => rfl) (fun _ => rfl) (fun z => absurd z e)⟩
    -- an error that is found here
    have fault : ∀ {x : Int32} {g : GG} {b0 k0 : Nat}, x ≠ 0 → g = gerr x → CR m F K kids fs b0 k0 g (fun fc er fr sz lc co wo post => (er = 0 → post fc x fr sz lc co wo) ∧ (er ≠ 0 → post fc er fr sz lc co wo)) := fun hx e => by
      subst e
      refine ⟨(GB.err hx).mono (by omega) (by omega), fun er fr pc nc co wo post a1 a2 a3 a4 a5 => ⟨fun z => a5 _ fr pc nc co wo a1 a2 (fun _ _ => rfl) (fun z2 => absurd z z2) (fun _ => rfl), fun z => a5 _ fr pc nc co wo a1 a2 (fun _ _ => rfl) (fun _ => rfl) (fun z2 => absurd z2 z)⟩⟩
    rcases hk with hk | hk | ⟨hk, hd11, hch, hinc, hws, hdk⟩
    · have ec : comp K V kids (d + 1) fs j = gcon j := by unfold comp; rw [if_pos hk]
      rw [ec]
      refine (start (CR.con (j := j)) (fun fc fr sz lc co wo post h => ?_)).mono (by omega) (by omega)
      unfold wp_Datum_kindOf
      rw [ej, hk]
      exact ⟨vj, fun _ => h, fun z => absurd rfl z⟩
    · -- what the loop over the frames asks
      have vr : ∀ (er : Int32) (fr : Nat → Int32) (sz : Int32) (wo : Nat → Int32) (post : Int32 → Int32 → (Nat → Int32) → Prop), FRC m F K kids fr fs → (∀ a k, look K V kids (V j) fs 0 = some (a, k) → wp_Program_emit sz wo 0 (nI a) (nI k) (fun r_5 sz wo => post er sz wo)) → (look K V kids (V j) fs 0 = none → post (-3) sz wo) → wp_Translator_variable (nI fs.length) er fr sz (nI m) F K V wo (V j) post := fun er fr sz wo post hF h1 h0 => ⟨_, q_var_L2 hm (by omega) hT.hT fs 0 (by omega) hF h1 h0⟩
      have enter : ∀ fc fr sz lc co wo (post : Int32 → Int32 → (Nat → Int32) → Int32 → Int32 → (Nat → Int32) → (Nat → Int32) → Prop), wp_Translator_variable fc 0 fr sz (nI m) F K V wo (V j) (fun er_10 sz_11 wo_12 => post fc er_10 fr sz_11 lc co wo_12) → wp_Datum_kindOf K (nI j) (fun r_2 => ((r_2 = 0 → (wp_Translator_constant sz lc co wo (nI j) (fun sz_4 lc_5 co_6 wo_7 => post fc 0 fr sz_4 lc_5 co_6 wo_7))) ∧ (¬ r_2 = 0 → (((r_2 = 1 → (wp_Datum_valueOf V (nI j) (fun r_9 => wp_Translator_variable fc 0 fr sz (nI m) F K V wo r_9 (fun er_10 sz_11 wo_12 => post fc er_10 fr sz_11 lc co wo_12)))) ∧ (¬ r_2 = 1 → (wp_Translator_list (wp_Translator_expression d) fc 0 (fun x => formC.getD x 0) fr sz lc co (nI m) F K V wo (nI j) post))))))) := fun fc fr sz lc co wo post h => by
        unfold wp_Datum_kindOf wp_Datum_valueOf
        rw [ej, hk]
        exact ⟨vj, fun z => absurd z (by decide), fun _ => ⟨fun _ => ⟨vj, h⟩, fun z => absurd rfl z⟩⟩
      cases el : look K V kids (V j) fs 0 with
      | none =>
        have ec : comp K V kids (d + 1) fs j = gerr (-3) := by unfold comp; rw [if_neg (by rw [hk]; decide), if_pos hk, el]
        rw [ec]
        have hf := fault (x := -3) (b0 := 0) (k0 := 0) (by decide) (rfl : gerr (-3) = _)
        refine ⟨hf.1.mono (by omega) (by omega), fun er fr pc nc co wo post a1 a2 a3 a4 a5 => ?_⟩
        by_cases e : er = 0
        · subst e
          refine ⟨fun _ => enter _ _ _ _ _ _ _ (vr 0 fr _ wo _ a4 (fun a k z => by rw [el] at z; cases z) (fun _ => a5 (-3) fr pc nc co wo a1 a2 (fun _ _ => rfl) (fun z => absurd rfl z) (fun _ => rfl))), fun z => absurd rfl z⟩
        · exact ⟨fun z => absurd z e, fun _ => a5 er fr pc nc co wo a1 a2 (fun _ _ => rfl) (fun _ => rfl) (fun z => absurd z e)⟩
      | some x =>
        have ec : comp K V kids (d + 1) fs j = gput 0 x.1 x.2 := by unfold comp; rw [if_neg (by rw [hk]; decide), if_pos hk, el]
        rw [ec]
        have hp := CR.put (m := m) (F := F) (K := K) (kids := kids) (fs := fs) (o := 0) (a := x.1) (b := x.2) rfl rfl rfl
        refine ⟨hp.1.mono (by omega) (by omega), fun er fr pc nc co wo post a1 a2 a3 a4 a5 => ?_⟩
        by_cases e : er = 0
        · subst e
          refine ⟨fun _ => enter _ _ _ _ _ _ _ (vr 0 fr _ wo _ a4 (fun a k z => ?_) (fun z => by rw [el] at z; cases z)), fun z => absurd rfl z⟩
          rw [el] at z
          have e2 := Option.some.inj z
          subst e2
          exact hp.2 0 fr pc nc co wo post a1 a2 (fun e => ⟨by have := (a3 e).1; omega, by omega⟩) a4 a5
        · exact ⟨fun z => absurd z e, fun _ => a5 er fr pc nc co wo a1 a2 (fun _ _ => rfl) (fun _ => rfl) (fun z => absurd z e)⟩
    · have ne0 : ¬ K j = 0 := by rw [hk]; decide
      have ne1 : ¬ K j = 1 := by rw [hk]; decide
      have enter : ∀ fc fr sz lc co wo (post : Int32 → Int32 → (Nat → Int32) → Int32 → Int32 → (Nat → Int32) → (Nat → Int32) → Prop), wp_Translator_list (wp_Translator_expression d) fc 0 (fun x => formC.getD x 0) fr sz lc co (nI m) F K V wo (nI j) post → wp_Datum_kindOf K (nI j) (fun r_2 => ((r_2 = 0 → (wp_Translator_constant sz lc co wo (nI j) (fun sz_4 lc_5 co_6 wo_7 => post fc 0 fr sz_4 lc_5 co_6 wo_7))) ∧ (¬ r_2 = 0 → (((r_2 = 1 → (wp_Datum_valueOf V (nI j) (fun r_9 => wp_Translator_variable fc 0 fr sz (nI m) F K V wo r_9 (fun er_10 sz_11 wo_12 => post fc er_10 fr sz_11 lc co wo_12)))) ∧ (¬ r_2 = 1 → (wp_Translator_list (wp_Translator_expression d) fc 0 (fun x => formC.getD x 0) fr sz lc co (nI m) F K V wo (nI j) post))))))) := fun fc fr sz lc co wo post h => by
        unfold wp_Datum_kindOf
        rw [ej, hk]
        exact ⟨vj, fun z => absurd z (by decide), fun _ => ⟨fun z => absurd z (by decide), fun _ => h⟩⟩
      cases hkids : kids j with
      | nil =>
        rw [hkids] at hch
        have ec : comp K V kids (d + 1) fs j = gerr (-2) := by unfold comp; rw [if_neg ne0, if_neg ne1, hkids]
        rw [ec]
        refine start (fault (x := -2) (by decide) rfl) (fun fc fr sz lc co wo post h => enter fc fr sz lc co wo post ?_)
        unfold wp_Translator_list wp_Datum_firstPartOf
        rw [ej, hk, show V j = -1 from hch]
        exact ⟨vj, fun _ => ⟨vj, fun _ => ⟨fun _ => h.1 rfl, fun z => absurd rfl z⟩, fun z => absurd rfl z⟩, fun z => absurd rfl z⟩
      | cons h t =>
        have hkids2 := hkids
        rw [hkids] at hch hinc hws hdk
        have hhm : h < m := hinc.2.1
        have hwj : w h + wsum w t + 2 ≤ w j := hws
        have hwh := (hT.2 h hhm).1
        have hinct : inc 0 m t := hinc.2.2.weak (by omega)
        have vh : vp_in (nI h) 200 := vp_in_nI (by omega) (by decide)
        have eh : (nI h).toNatClampNeg = h := nI_clamp (by omega)
        have nh : ¬ nI h = -1 := nI_m1 (by omega)
        have hcht : ch F (F h) t := hch.2
        -- up to the form
        have enter2 : ∀ fc fr sz lc co wo (post : Int32 → Int32 → (Nat → Int32) → Int32 → Int32 → (Nat → Int32) → (Nat → Int32) → Prop), wp_Translator_formOf (fun x => formC.getD x 0) K V (nI h) (fun r_34 => wp_Translator_list_J23 (wp_Translator_expression d) (fun x => formC.getD x 0) (nI m) F K V post (nI h) r_34 fc 0 fr sz lc co wo) → wp_Translator_list (wp_Translator_expression d) fc 0 (fun x => formC.getD x 0) fr sz lc co (nI m) F K V wo (nI j) post := fun fc fr sz lc co wo post z => by
          unfold wp_Translator_list wp_Datum_firstPartOf
          rw [ej, hk, show V j = nI h from hch.1]
          exact ⟨vj, fun _ => ⟨vj, fun z => absurd z nh, fun _ => z⟩, fun z => absurd rfl z⟩
        have kq : ∀ q ∈ h :: t, ∀ fs', fs'.length ≤ dp j + 1 → CR m F K kids fs' (2 * w q - 1) (w q) (comp K V kids d fs' q) (atN (wp_Translator_expression d) m F K V (fun x => formC.getD x 0) (nI q)) := fun q hq fs' hf => ih fs' q (hinc.mem hq).2 (by rw [hdk q hq]; omega) (by rw [hdk q hq]; exact hf)
        cases hfi : formIx K V h with
        | none =>
          have ec : comp K V kids (d + 1) fs j = gseq (gargs (comp K V kids d fs) t) (gseq (comp K V kids d fs h) (gput 3 0 0)) := by conv => lhs; unfold comp; rw [if_neg ne0, if_neg ne1, hkids]; simp only; rw [hfi]
          rw [ec]
          obtain ⟨bd1, bd2⟩ := gargs_bound hT (l := t) (v := fun q => q) (fun q hq => ⟨(hinct.mem hq).2, Nat.le_refl _⟩)
          have bd3 : dsum w t t.length ≤ wsum w t := bd2
          have b1 := CR.args (x := F h) hT.1 hcht hinct (fun q hq => kq q (List.mem_cons_of_mem _ hq) fs (by omega))
          refine (start (CR.seq b1 (CR.seq (kq h List.mem_cons_self fs (by omega)) (CR.put (o := 3) (a := 0) (b := 0) rfl rfl rfl))) (fun fc fr sz lc co wo post z => enter fc fr sz lc co wo post (enter2 fc fr sz lc co wo post ?_))).mono (by omega) (by omega)
          refine q_formOf_miss (by omega) (fun c i hi e => formIx_none hfi c i hi e.symm) ?_
          refine ⟨fun q => absurd q nh, fun _ => ⟨fun _ => ⟨fun _ => ?_, fun q => absurd rfl q⟩, fun q => absurd rfl q⟩⟩
          unfold wp_Datum_followerOf
          rw [eh]
          exact ⟨vh, z⟩
        | some i =>
          obtain ⟨f1, f2, f3⟩ := formIx_some hfi
          have nm1 : ¬ nI i = -1 := nI_m1 (by omega)
          have hit : ∀ post : Int32 → Prop, post (nI i) → wp_Translator_formOf (fun x => formC.getD x 0) K V (nI h) post := fun post hp => q_formOf_hit (by omega) f2 f1 f3.symm (fun k hk => by rw [f3]; exact form_dist.1 i f1 k hk) hp
          by_cases hs : shp K kids i (h :: t)
          · have ec : comp K V kids (d + 1) fs j = cform kids (comp K V kids d) fs i t := by conv => lhs; unfold comp; rw [if_neg ne0, if_neg ne1, hkids]; simp only; rw [hfi]; simp only; rw [if_pos hs]
            rw [ec]
            cases t with
            | nil =>
              exfalso
              obtain ⟨s11, s12, s13, s14, s3, s2⟩ := hs
              have l1 : [h].length = 1 := rfl
              rw [l1] at s11 s12 s13 s14 s3 s2
              by_cases a : i ≤ 2
              · exact absurd (s2 a) (by decide)
              by_cases b : i < 11
              · exact absurd (s3 ⟨by omega, b⟩) (by decide)
              by_cases c : i = 11
              · exact absurd (s11 c) (by decide)
              by_cases c : i = 12
              · exact absurd (s12 c) (by decide)
              by_cases c : i = 13
              · exact absurd (s13 c).1 (by decide)
              exact absurd (s14 (by omega)).1 (by decide)
            | cons x t =>
              refine start (CR.form hT hj hk hkids f1 hs hfs (fun q hq hdq fs' hf => ih fs' q hq (by omega) (by omega))) (fun fc fr sz lc co wo post z => enter fc fr sz lc co wo post (enter2 fc fr sz lc co wo post (hit _ ?_)))
              refine ⟨fun q => absurd q nh, fun _ => ⟨fun q => absurd q nm1, fun _ => ?_⟩⟩
              refine q_hasParts hT.1 f1 hT.hT ⟨rfl, hcht⟩ (hinc.weak (by omega)) (fun _ => ⟨fun q => absurd q (by decide), fun _ => ⟨fun q => absurd q nm1, fun _ => ?_⟩⟩) (fun z => absurd hs z)
              unfold wp_Datum_followerOf
              rw [eh, show F h = nI x from hcht.1]
              exact ⟨vh, z⟩
          · have ec : comp K V kids (d + 1) fs j = gerr (-2) := by conv => lhs; unfold comp; rw [if_neg ne0, if_neg ne1, hkids]; simp only; rw [hfi]; simp only; rw [if_neg hs]
            rw [ec]
            refine start (fault (x := -2) (by decide) rfl) (fun fc fr sz lc co wo post z => enter fc fr sz lc co wo post (enter2 fc fr sz lc co wo post (hit _ ?_)))
            refine ⟨fun q => absurd q nh, fun _ => ⟨fun q => absurd q nm1, fun _ => ?_⟩⟩
            exact q_hasParts hT.1 f1 hT.hT ⟨rfl, hcht⟩ (hinc.weak (by omega)) (fun q => absurd q hs) (fun _ => ⟨fun _ => z.1 rfl, fun q => absurd rfl q⟩)
