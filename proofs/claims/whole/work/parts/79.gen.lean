/-! generators of code: from the next line and the last constant, an error, or the lines and the nodes of the constants -/
abbrev GG : Type := Nat → Nat → Except Int32 (List (Nat × Nat × Nat) × List Nat)
def gput (o a b : Nat) : GG := fun _ _ => .ok ([(o, a, b)], [])
def gskip : GG := fun _ _ => .ok ([], [])
def gcon (j : Nat) : GG := fun _ nc => .ok ([(1, nc + 1, 0)], [j])
def gerr (e : Int32) : GG := fun _ _ => .error e
def gseq (g h : GG) : GG := fun pc nc => match g pc nc with
  | .error e => .error e
  | .ok r => match h (pc + r.1.length) (nc + r.2.length) with
    | .error e => .error e
    | .ok s => .ok (r.1 ++ s.1, r.2 ++ s.2)
def gfn (g : GG) : GG := fun pc nc => match g (pc + 1) nc with
  | .error e => .error e
  | .ok r => .ok ((2, pc + r.1.length + 2, 0) :: (r.1 ++ [(4, 0, 0)]), r.2)
def gsel (g h : GG) : GG := fun pc nc => match g (pc + 1) nc with
  | .error e => .error e
  | .ok r => match h (pc + r.1.length + 2) (nc + r.2.length) with
    | .error e => .error e
    | .ok s => .ok ((7, pc + r.1.length + 2, pc + r.1.length + s.1.length + 3) :: (r.1 ++ (8, 0, 0) :: (s.1 ++ [(8, 0, 0)])), r.2 ++ s.2)
/-- the values of a list, the last one first, each put before the others -/
def gdown (c : Nat → GG) (l : List Nat) : Nat → GG
  | 0 => gskip
  | k + 1 => gseq (c (l.getD k 0)) (gseq (gput 12 0 0) (gdown c l k))
def gargs (c : Nat → GG) (l : List Nat) : GG := gseq (gput 1 0 0) (gdown c l l.length)
/-- no more than bl lines and bc constants, and an error is not 0 -/
def GB (g : GG) (bl bc : Nat) : Prop := ∀ pc nc, match g pc nc with
  | .error e => e ≠ 0
  | .ok r => r.1.length ≤ bl ∧ r.2.length ≤ bc
theorem GB.mono {g : GG} {bl bc bl' bc' : Nat} (h : GB g bl bc) (h1 : bl ≤ bl') (h2 : bc ≤ bc') : GB g bl' bc' := fun pc nc => by
  have := h pc nc
  cases e : g pc nc with
  | error x => rw [e] at this; exact this
  | ok r => rw [e] at this; exact ⟨Nat.le_trans this.1 h1, Nat.le_trans this.2 h2⟩
theorem GB.put {o a b : Nat} : GB (gput o a b) 1 0 := fun _ _ => ⟨Nat.le_refl _, Nat.le_refl _⟩
theorem GB.skip : GB gskip 0 0 := fun _ _ => ⟨Nat.le_refl _, Nat.le_refl _⟩
theorem GB.con {j : Nat} : GB (gcon j) 1 1 := fun _ _ => ⟨Nat.le_refl _, Nat.le_refl _⟩
theorem GB.err {e : Int32} (h : e ≠ 0) : GB (gerr e) 0 0 := fun _ _ => h
theorem GB.seq {g h : GG} {a b a' b' : Nat} (hg : GB g a b) (hh : GB h a' b') : GB (gseq g h) (a + a') (b + b') := fun pc nc => by
  have h1 := hg pc nc
  unfold gseq
  cases e : g pc nc with
  | error x => rw [e] at h1; exact h1
  | ok r =>
    rw [e] at h1
    have h2 := hh (pc + r.1.length) (nc + r.2.length)
    simp only
    cases e2 : h (pc + r.1.length) (nc + r.2.length) with
    | error x => rw [e2] at h2; exact h2
    | ok s =>
      rw [e2] at h2
      simp only [List.length_append]
      exact ⟨Nat.add_le_add h1.1 h2.1, Nat.add_le_add h1.2 h2.2⟩
theorem GB.fn {g : GG} {a b : Nat} (hg : GB g a b) : GB (gfn g) (a + 2) b := fun pc nc => by
  have h1 := hg (pc + 1) nc
  unfold gfn
  cases e : g (pc + 1) nc with
  | error x => rw [e] at h1; exact h1
  | ok r =>
    rw [e] at h1
    simp only [List.length_append, List.length_cons, List.length_nil]
    exact ⟨by omega, h1.2⟩
theorem GB.sel {g h : GG} {a b a' b' : Nat} (hg : GB g a b) (hh : GB h a' b') : GB (gsel g h) (a + a' + 3) (b + b') := fun pc nc => by
  have h1 := hg (pc + 1) nc
  unfold gsel
  cases e : g (pc + 1) nc with
  | error x => rw [e] at h1; exact h1
  | ok r =>
    rw [e] at h1
    have h2 := hh (pc + r.1.length + 2) (nc + r.2.length)
    simp only
    cases e2 : h (pc + r.1.length + 2) (nc + r.2.length) with
    | error x => rw [e2] at h2; exact h2
    | ok s =>
      rw [e2] at h2
      simp only [List.length_append, List.length_cons, List.length_nil]
      exact ⟨by omega, by omega⟩
/-- the word of a line -/
def wd (x : Nat × Nat × Nat) : Int32 := nI (x.1 + 32 * x.2.1 + 16384 * x.2.2)
theorem wd_eq (o a b : Nat) : (nI o + (32 : Int32) * nI a) + (16384 : Int32) * nI b = wd (o, a, b) := by
  rw [show (32 : Int32) * nI a = nI (32 * a) from pk_mul 32 _, show (16384 : Int32) * nI b = nI (16384 * b) from pk_mul 16384 _, nI_add, nI_add]
  rfl
/-- from p on, the row holds the words of the lines -/
def WL (wo : Nat → Int32) : Nat → List (Nat × Nat × Nat) → Prop
  | _, [] => True
  | p, x :: t => wo p = wd x ∧ WL wo (p + 1) t
theorem WL.app {wo : Nat → Int32} : ∀ {L M : List (Nat × Nat × Nat)} {p : Nat}, WL wo p L → WL wo (p + L.length) M → WL wo p (L ++ M)
  | [], _, _, _, h => h
  | _ :: l, _, p, h1, h2 => ⟨h1.1, WL.app h1.2 (by rw [show p + 1 + l.length = p + (l.length + 1) from by omega]; exact h2)⟩
theorem WL.to {wo wo' : Nat → Int32} : ∀ {L : List (Nat × Nat × Nat)} {p : Nat}, WL wo p L → (∀ k, p ≤ k → k < p + L.length → wo' k = wo k) → WL wo' p L
  | [], _, _, _ => trivial
  | _ :: l, p, h1, h2 => ⟨by rw [h2 p (Nat.le_refl _) (by show p < p + (l.length + 1); omega)]; exact h1.1, WL.to h1.2 (fun k hk hk2 => h2 k (by omega) (by show k < p + (l.length + 1); omega))⟩
theorem WL.at {wo : Nat → Int32} : ∀ {L : List (Nat × Nat × Nat)} {p k : Nat}, WL wo p L → k < L.length → wo (p + k) = wd (L.getD k (0, 0, 0))
  | [], _, _, _, h => absurd h (Nat.not_lt_zero _)
  | _ :: _, _, 0, h1, _ => h1.1
  | _ :: _, p, k + 1, h1, h2 => by
    have := WL.at (k := k) h1.2 (Nat.lt_of_succ_lt_succ h2)
    rw [show p + (k + 1) = p + 1 + k from by omega]
    exact this
/-- behind p, the row holds the nodes -/
def CL (co : Nat → Int32) : Nat → List Nat → Prop
  | _, [] => True
  | p, x :: t => co (p + 1) = nI x ∧ CL co (p + 1) t
theorem CL.app {co : Nat → Int32} : ∀ {L M : List Nat} {p : Nat}, CL co p L → CL co (p + L.length) M → CL co p (L ++ M)
  | [], _, _, _, h => h
  | _ :: l, _, p, h1, h2 => ⟨h1.1, CL.app h1.2 (by rw [show p + 1 + l.length = p + (l.length + 1) from by omega]; exact h2)⟩
theorem CL.to {co co' : Nat → Int32} : ∀ {L : List Nat} {p : Nat}, CL co p L → (∀ k, p < k → k ≤ p + L.length → co' k = co k) → CL co' p L
  | [], _, _, _ => trivial
  | _ :: l, p, h1, h2 => ⟨by rw [h2 (p + 1) (by omega) (by show p + 1 ≤ p + (l.length + 1); omega)]; exact h1.1, CL.to h1.2 (fun k hk hk2 => h2 k (by omega) (by show k ≤ p + (l.length + 1); omega))⟩
/-! the class puts out what a generator says -/
abbrev CMT : Type := Int32 → Int32 → (Nat → Int32) → Int32 → Int32 → (Nat → Int32) → (Nat → Int32) → (Int32 → Int32 → (Nat → Int32) → Int32 → Int32 → (Nat → Int32) → (Nat → Int32) → Prop) → Prop
def OUT (g : GG) (pc nc : Nat) (co wo : Nat → Int32) (er' : Int32) (pc' nc' : Nat) (co' wo' : Nat → Int32) : Prop := match g pc nc with
  | .error e => er' = e
  | .ok r => er' = 0 ∧ pc' = pc + r.1.length ∧ nc' = nc + r.2.length ∧ (∀ k, k < pc → wo' k = wo k) ∧ WL wo' pc r.1 ∧ (∀ k, k ≤ nc → co' k = co k) ∧ CL co' nc r.2
/-- the frames of the class: the innermost first -/
def FRC (m : Nat) (F K : Nat → Int32) (kids : Nat → List Nat) (fr : Nat → Int32) : List (List Nat) → Prop
  | [] => True
  | l :: t => (ch F (fr t.length) l ∧ inc 0 m l ∧ ∀ j ∈ l, K j = 1 ∨ bnd K kids j) ∧ FRC m F K kids fr t
theorem FRC.to {m : Nat} {F K : Nat → Int32} {kids : Nat → List Nat} {fr fr' : Nat → Int32} : ∀ {fs : List (List Nat)}, FRC m F K kids fr fs → (∀ k, k < fs.length → fr' k = fr k) → FRC m F K kids fr' fs
  | [], _, _ => trivial
  | l :: t, h, e => ⟨by rw [e t.length (by show _ < _ + 1; omega)]; exact h.1, FRC.to h.2 (fun k hk => e k (by show k < t.length + 1; omega))⟩
def CR (m : Nat) (F K : Nat → Int32) (kids : Nat → List Nat) (fs : List (List Nat)) (bl bc : Nat) (g : GG) (M : CMT) : Prop := GB g bl bc ∧
  ∀ (er : Int32) (fr : Nat → Int32) (pc nc : Nat) (co wo : Nat → Int32) (post : Int32 → Int32 → (Nat → Int32) → Int32 → Int32 → (Nat → Int32) → (Nat → Int32) → Prop), pc ≤ 512 → nc ≤ 200 → (er = 0 → pc + bl ≤ 512 ∧ nc + bc ≤ 200) → FRC m F K kids fr fs →
    (∀ er' fr' pc' nc' co' wo', pc' ≤ 512 → nc' ≤ 200 → (∀ k, k < fs.length → fr' k = fr k) → (er ≠ 0 → er' = er) → (er = 0 → OUT g pc nc co wo er' pc' nc' co' wo') → post (nI fs.length) er' fr' (nI pc') (nI nc') co' wo') → M (nI fs.length) er fr (nI pc) (nI nc) co wo post
section
variable {m : Nat} {F K V fn : Nat → Int32} {kids : Nat → List Nat} {fs : List (List Nat)} {bl bc bl' bc' : Nat} {g h : GG} {M M' : CMT}
theorem CR.mono (hg : CR m F K kids fs bl bc g M) (h1 : bl ≤ bl') (h2 : bc ≤ bc') : CR m F K kids fs bl' bc' g M :=
  ⟨hg.1.mono h1 h2, fun er fr pc nc co wo post a1 a2 a3 a4 a5 => hg.2 er fr pc nc co wo post a1 a2 (fun e => ⟨by have := (a3 e).1; omega, by have := (a3 e).2; omega⟩) a4 a5⟩
theorem CR.seq (hg : CR m F K kids fs bl bc g M) (hh : CR m F K kids fs bl' bc' h M') : CR m F K kids fs (bl + bl') (bc + bc') (gseq g h) (fun fc er fr sz lc co wo post => M fc er fr sz lc co wo (fun fc er fr sz lc co wo => M' fc er fr sz lc co wo post)) := by
  refine ⟨hg.1.seq hh.1, fun er fr pc nc co wo post h1 h2 h3 hF hp => ?_⟩
  refine hg.2 er fr pc nc co wo _ h1 h2 (fun e => ⟨by have := (h3 e).1; omega, by have := (h3 e).2; omega⟩) hF (fun er1 fr1 pc1 nc1 co1 wo1 a1 a2 a3 a4 a5 => ?_)
  refine hh.2 er1 fr1 pc1 nc1 co1 wo1 post a1 a2 (fun e1 => ?_) (hF.to a3) (fun er2 fr2 pc2 nc2 co2 wo2 b1 b2 b3 b4 b5 => hp er2 fr2 pc2 nc2 co2 wo2 b1 b2 (fun k hk => (b3 k hk).trans (a3 k hk)) (fun e => ?_) (fun e => ?_))
  · by_cases e : er = 0
    · have o := a5 e
      have gb := hg.1 pc nc
      unfold OUT at o
      cases eg : g pc nc with
      | error x => rw [eg] at o gb; exact absurd (o.symm.trans e1) gb
      | ok r =>
        rw [eg] at o gb
        have := h3 e
        obtain ⟨-, o2, o3, -⟩ := o
        exact ⟨by have := gb.1; omega, by have := gb.2; omega⟩
    · exact absurd ((a4 e).symm.trans e1) e
  · have := a4 e
    rw [b4 (by rw [this]; exact e), this]
  · have o := a5 e
    have gb := hg.1 pc nc
    unfold OUT at o
    unfold OUT gseq
    cases eg : g pc nc with
    | error x =>
      rw [eg] at o gb
      simp only at o gb ⊢
      rw [b4 (by rw [o]; exact gb), o]
    | ok r =>
      rw [eg] at o
      simp only at o ⊢
      obtain ⟨o1, o2, o3, o4, o5, o6, o7⟩ := o
      have q := b5 o1
      unfold OUT at q
      rw [o2, o3] at q
      cases eh : h (pc + r.1.length) (nc + r.2.length) with
      | error x => rw [eh] at q; exact q
      | ok s =>
        rw [eh] at q
        simp only at q ⊢
        obtain ⟨q1, q2, q3, q4, q5, q6, q7⟩ := q
        refine ⟨q1, by rw [List.length_append]; omega, by rw [List.length_append]; omega, fun k hk => (q4 k (by omega)).trans (o4 k hk), WL.app (o5.to (fun k hk hk2 => q4 k (by omega))) q5, fun k hk => (q6 k (by omega)).trans (o6 k hk), CL.app (o7.to (fun k hk hk2 => q6 k (by omega))) q7⟩
theorem CR.skip : CR m F K kids fs 0 0 gskip (fun fc er fr sz lc co wo post => post fc er fr sz lc co wo) :=
  ⟨GB.skip, fun er fr pc nc co wo post h1 h2 h3 hF hp => hp er fr pc nc co wo h1 h2 (fun _ _ => rfl) (fun _ => rfl) (fun e => ⟨e, rfl, rfl, fun _ _ => rfl, trivial, fun _ _ => rfl, trivial⟩)⟩
theorem q_emit {pc : Nat} {wo : Nat → Int32} {o a b : Int32} {post : Int32 → Int32 → (Nat → Int32) → Prop} (h : pc ≤ 512) (hk : ∀ pc' wo', pc' ≤ 512 → (pc < 512 → pc' = pc + 1 ∧ wo' = upd wo pc ((o + (32 : Int32) * a) + (16384 : Int32) * b)) → post (nI pc) (nI pc') wo') : wp_Program_emit (nI pc) wo o a b post := by
  refine ⟨fun c => hk pc wo h (fun z => absurd c (nI_ge (a := pc) (b := 512) z (by decide))), fun c => ?_⟩
  have hp : pc < 512 := by
    rcases Nat.lt_or_ge pc 512 with z | z
    · exact z
    · exact absurd (nI_le (a := 512) z (by omega)) c
  rw [nI_clamp (n := pc) (by omega), nI_1]
  exact ⟨vp_in_nI hp (by decide), hk (pc + 1) _ (by omega) (fun _ => ⟨rfl, rfl⟩)⟩
theorem q_addA {pc a : Nat} {wo : Nat → Int32} {x y : Int32} {post : (Nat → Int32) → Prop} (h : pc ≤ 512) (ha : a ≤ 512) (hk : ∀ wo', (a < pc → wo' = upd wo a (wo a + ((32 : Int32) * x + (16384 : Int32) * y))) → post wo') : wp_Program_addAddresses (nI pc) wo (nI a) x y post := by
  refine ⟨fun c => hk wo (fun z => absurd c (nI_ge z (by omega))), fun c => ?_⟩
  have hp : a < pc := by
    rcases Nat.lt_or_ge a pc with z | z
    · exact z
    · exact absurd (nI_le z (by omega)) c
  have va : vp_in (nI a) 512 := vp_in_nI (by omega) (by decide)
  rw [nI_clamp (n := a) (by omega)]
  exact ⟨va, va, hk _ (fun _ => rfl)⟩
theorem CR.put {o a b : Nat} {x y z : Int32} (hx : x = nI o) (hy : y = nI a) (hz : z = nI b) : CR m F K kids fs 1 0 (gput o a b) (fun fc er fr sz lc co wo post => wp_Program_emit sz wo x y z (fun _ sz wo => post fc er fr sz lc co wo)) := by
  subst hx hy hz
  refine ⟨GB.put, fun er fr pc nc co wo post h1 h2 h3 hF hp => q_emit h1 (fun pc1 wo1 a1 a2 => hp er fr pc1 nc co wo1 a1 h2 (fun _ _ => rfl) (fun _ => rfl) (fun e => ?_))⟩
  obtain ⟨e1, e2⟩ := a2 (by have := (h3 e).1; omega)
  subst e1 e2
  exact ⟨e, rfl, rfl, fun k hk => pk_un (by omega), ⟨by rw [pk_us]; exact wd_eq o a b, trivial⟩, fun _ _ => rfl, trivial⟩
theorem CR.con {j : Nat} : CR m F K kids fs 1 1 (gcon j) (fun fc er fr sz lc co wo post => wp_Translator_constant sz lc co wo (nI j) (fun sz lc co wo => post fc er fr sz lc co wo)) := by
  refine ⟨GB.con, fun er fr pc nc co wo post h1 h2 h3 hF hp => ?_⟩
  have fin : ∀ (nc1 : Nat) (co1 : Nat → Int32), nc1 ≤ 200 → (er = 0 → nc1 = nc + 1 ∧ co1 = upd co (nc + 1) (nI j)) → wp_Program_emit (nI pc) wo (1 : Int32) (nI nc1) (0 : Int32) (fun r_4 sz wo => post (nI fs.length) er fr sz (nI nc1) co1 wo) := fun nc1 co1 hn hc => by
    refine q_emit h1 (fun pc1 wo1 a1 a2 => hp er fr pc1 nc1 co1 wo1 a1 hn (fun _ _ => rfl) (fun _ => rfl) (fun e => ?_))
    obtain ⟨e1, e2⟩ := a2 (by have := (h3 e).1; omega)
    obtain ⟨e3, e4⟩ := hc e
    subst e1 e2 e3 e4
    exact ⟨e, rfl, rfl, fun k hk => pk_un (by omega), ⟨by rw [pk_us]; exact wd_eq 1 (nc + 1) 0, trivial⟩, fun k hk => pk_un (by omega), ⟨pk_us, trivial⟩⟩
  refine ⟨fun c => fin nc co h2 (fun e => absurd c (nI_ge (a := nc) (b := 200) (by have := (h3 e).2; omega) (by decide))), fun c => ?_⟩
  have hn : nc < 200 := by
    rcases Nat.lt_or_ge nc 200 with z | z
    · exact z
    · exact absurd (nI_le (a := 200) z (by omega)) c
  rw [nI_1, nI_clamp (n := nc + 1) (by omega)]
  exact ⟨vp_in_nI (by omega) (by decide), fin (nc + 1) _ (by omega) (fun _ => ⟨rfl, rfl⟩)⟩
end
/-! functions, choices, arguments and the values of bindings, the class's side -/
abbrev RET : Type := Int32 → Int32 → (Nat → Int32) → (Nat → Int32) → Int32 → Int32 → (Nat → Int32) → Int32 → (Nat → Int32) → (Nat → Int32) → (Nat → Int32) → (Nat → Int32) → Int32 → (Int32 → Int32 → (Nat → Int32) → Int32 → Int32 → (Nat → Int32) → (Nat → Int32) → Prop) → Prop
/-- a call of the translator at a node -/
def atN (RE : RET) (m : Nat) (F K V fn : Nat → Int32) (x : Int32) : CMT := fun fc er fr sz lc co wo post => RE fc er fn fr sz lc co (nI m) F K V wo x post
section
variable {m : Nat} {F K V fn : Nat → Int32} {kids : Nat → List Nat} {fs : List (List Nat)} {bl bc bl' bc' : Nat} {g h : GG} {M M' : CMT} {RE : RET}
theorem CR.fun_ {l : List Nat} {x y : Int32} (hg : CR m F K kids (l :: fs) bl bc g (atN RE m F K V fn y)) (hl : ch F x l ∧ inc 0 m l ∧ ∀ j ∈ l, K j = 1 ∨ bnd K kids j) (hn : fs.length < 12) : CR m F K kids fs (bl + 2) bc (gfn g) (fun fc er fr sz lc co wo post => wp_Translator_function RE fc er fn fr sz lc co (nI m) F K V wo x y post) := by
  refine ⟨hg.1.fn, fun er fr pc nc co wo post h1 h2 h3 hF hp => ?_⟩
  refine q_emit h1 (fun pc1 wo1 a1 a2 => ?_)
  refine ⟨fun c => absurd c (nI_ge (a := fs.length) (b := 12) hn (by decide)), fun _ => ⟨vp_in_nI hn (by decide), ?_⟩⟩
  rw [nI_clamp (n := fs.length) (by omega), nI_1]
  refine hg.2 er (upd fr fs.length x) pc1 nc co wo1 _ a1 h2 (fun e => ?_) ⟨by rw [pk_us]; exact hl, hF.to (fun k hk => pk_un (by omega))⟩ (fun er2 fr2 pc2 nc2 co2 wo2 b1 b2 b3 b4 b5 => ?_)
  · have := h3 e
    have := (a2 (by omega)).1
    omega
  refine ⟨fun c => absurd c (nI_nle (by show 0 < _ + 1; omega) (by show fs.length + 1 < _; omega)), fun _ => ?_⟩
  rw [show nI (l :: fs).length - 1 = nI fs.length from nI_pred _]
  refine q_emit b1 (fun pc3 wo3 c1 c2 => q_addA c1 h1 (fun wo4 d1 => hp er2 fr2 pc3 nc2 co2 wo4 c1 b2 (fun k hk => (b3 k (by show k < _ + 1; omega)).trans (pk_un (by omega))) b4 (fun e => ?_)))
  have hb := h3 e
  obtain ⟨e1, e2⟩ := a2 (by omega)
  have o := b5 e
  have gb := hg.1 (pc + 1) nc
  unfold OUT at o
  unfold OUT gfn
  rw [e1] at o
  cases eg : g (pc + 1) nc with
  | error x => rw [eg] at o; exact o
  | ok r =>
    rw [eg] at o gb
    simp only at o gb ⊢
    obtain ⟨o1, o2, o3, o4, o5, o6, o7⟩ := o
    obtain ⟨e3, e4⟩ := c2 (by omega)
    have e5 := d1 (by omega)
    have w1 : wo3 pc = nI 2 := by
      rw [e4, pk_un (by omega), o4 pc (by omega), e2, pk_us]
      rfl
    refine ⟨o1, by simp only [List.length_cons, List.length_append, List.length_nil]; omega, o3, fun k hk => ?_, ⟨?_, WL.app ?_ ⟨?_, trivial⟩⟩, o6, o7⟩
    · rw [e5, pk_un (by omega), e4, pk_un (by omega), o4 k (by omega), e2, pk_un (by omega)]
    · rw [e5, pk_us, w1, ← Int32.add_assoc, show pc3 = pc + r.1.length + 2 by omega]
      exact wd_eq 2 (pc + r.1.length + 2) 0
    · exact o5.to (fun k hk hk2 => by rw [e5, pk_un (by omega), e4, pk_un (by omega)])
    · rw [e5, pk_un (by omega), e4, o2, pk_us]
      exact wd_eq 4 0 0
theorem CR.sel {gc : GG} {c0 c1 c2 b0 k0 b1 k1 b2 k2 : Nat} (h0 : CR m F K kids fs b0 k0 gc (atN RE m F K V fn (nI c0))) (h1 : CR m F K kids fs b1 k1 g (atN RE m F K V fn (nI c1))) (h2 : CR m F K kids fs b2 k2 h (atN RE m F K V fn (nI c2))) (hc0 : c0 < 200) (hc1 : c1 < 200) (e0 : F c0 = nI c1) (e1 : F c1 = nI c2) : CR m F K kids fs (b0 + (b1 + b2 + 3)) (k0 + (k1 + k2)) (gseq gc (gsel g h)) (fun fc er fr sz lc co wo post => wp_Translator_choice RE fc er fn fr sz lc co (nI m) F K V wo (nI c0) post) := by
  have key : CR m F K kids fs (b1 + b2 + 3) (k1 + k2) (gsel g h) (fun fc er fr sz lc co wo post => wp_Program_emit sz wo (7 : Int32) (0 : Int32) (0 : Int32) (fun r_9 sz_10 wo_11 => RE fc er fn fr sz_10 lc co (nI m) F K V wo_11 (nI c1) (fun fc_12 er_13 fr_14 sz_15 lc_16 co_17 wo_18 => wp_Program_emit sz_15 wo_18 (8 : Int32) (0 : Int32) (0 : Int32) (fun r_19 sz_20 wo_21 => wp_Datum_followerOf F (nI c1) (fun r_22 => RE fc_12 er_13 fn fr_14 sz_20 lc_16 co_17 (nI m) F K V wo_21 r_22 (fun fc_23 er_24 fr_25 sz_26 lc_27 co_28 wo_29 => wp_Program_emit sz_26 wo_29 (8 : Int32) (0 : Int32) (0 : Int32) (fun r_30 sz_31 wo_32 => wp_Program_addAddresses sz_31 wo_32 r_9 sz_20 sz_31 (fun wo_33 => post fc_23 er_24 fr_25 sz_31 lc_27 co_28 wo_33)))))))) := by
    refine ⟨h1.1.sel h2.1, fun er fr pc nc co wo post a1 a2 a3 hF hp => ?_⟩
    refine q_emit a1 (fun pc1 wo1 q1 q2 => ?_)
    refine h1.2 er fr pc1 nc co wo1 _ q1 a2 (fun e => ?_) hF (fun er2 fr2 pc2 nc2 co2 wo2 r1 r2 r3 r4 r5 => ?_)
    · have := a3 e
      have := (q2 (by omega)).1
      omega
    refine q_emit r1 (fun pc3 wo3 s1 s2 => ?_)
    unfold wp_Datum_followerOf
    rw [nI_clamp (n := c1) (by omega), e1]
    refine ⟨vp_in_nI hc1 (by decide), ?_⟩
    have ok : er = 0 → er2 = 0 → ∃ r, g (pc + 1) nc = .ok r ∧ r.1.length ≤ b1 ∧ r.2.length ≤ k1 ∧ pc2 = pc + 1 + r.1.length ∧ nc2 = nc + r.2.length ∧ (∀ k, k < pc + 1 → wo2 k = wo1 k) ∧ WL wo2 (pc + 1) r.1 ∧ (∀ k, k ≤ nc → co2 k = co k) ∧ CL co2 nc r.2 := fun e e2 => by
      have hb := a3 e
      have hq := (q2 (by omega)).1
      have o := r5 e
      have gb := h1.1 (pc + 1) nc
      unfold OUT at o
      rw [hq] at o
      cases eg : g (pc + 1) nc with
      | error x => rw [eg] at o gb; exact absurd (o.symm.trans e2) gb
      | ok r =>
        rw [eg] at o gb
        exact ⟨r, rfl, gb.1, gb.2, o.2.1, o.2.2.1, o.2.2.2.1, o.2.2.2.2.1, o.2.2.2.2.2.1, o.2.2.2.2.2.2⟩
    refine h2.2 er2 fr2 pc3 nc2 co2 wo3 _ s1 r2 (fun e2 => ?_) (hF.to r3) (fun er4 fr4 pc4 nc4 co4 wo4 t1 t2 t3 t4 t5 => ?_)
    · by_cases e : er = 0
      · obtain ⟨r, -, o1, o2, o3, o4, -⟩ := ok e e2
        have hb := a3 e
        have := (s2 (by omega)).1
        omega
      · exact absurd ((r4 e).symm.trans e2) e
    refine q_emit t1 (fun pc5 wo5 u1 u2 => q_addA u1 a1 (fun wo6 v1 => hp er4 fr4 pc5 nc4 co4 wo6 u1 t2 (fun k hk => (t3 k hk).trans (r3 k hk)) (fun e => ?_) (fun e => ?_)))
    · have := r4 e
      rw [t4 (by rw [this]; exact e), this]
    by_cases e2 : er2 = 0
    · obtain ⟨r, er0, o1, o2, o3, o4, o5, o6, o7, o8⟩ := ok e e2
      have hb := a3 e
      obtain ⟨q3, q4⟩ := q2 (by omega)
      obtain ⟨s3, s4⟩ := s2 (by omega)
      have o := t5 e2
      have gb := h2.1 (pc + r.1.length + 2) (nc + r.2.length)
      unfold OUT at o
      rw [show pc3 = pc + r.1.length + 2 by omega, o4] at o
      unfold OUT gsel
      rw [er0]
      simp only
      cases eh : h (pc + r.1.length + 2) (nc + r.2.length) with
      | error x => rw [eh] at o; exact o
      | ok s =>
        rw [eh] at o gb
        simp only at o gb ⊢
        obtain ⟨p1, p2, p3, p4, p5, p6, p7⟩ := o
        obtain ⟨u3, u4⟩ := u2 (by omega)
        have v2 := v1 (by omega)
        have w1 : wo5 pc = nI 7 := by
          rw [u4, pk_un (by omega), p4 pc (by omega), s4, pk_un (by omega), o5 pc (by omega), q4, pk_us]
          rfl
        refine ⟨p1, by simp only [List.length_cons, List.length_append, List.length_nil]; omega, by rw [List.length_append]; omega, fun k hk => ?_, ⟨?_, WL.app ?_ ⟨?_, WL.app ?_ ⟨?_, trivial⟩⟩⟩, fun k hk => (p6 k (by omega)).trans (o7 k hk), CL.app (o8.to (fun k hk hk2 => p6 k (by omega))) p7⟩
        · rw [v2, pk_un (by omega), u4, pk_un (by omega), p4 k (by omega), s4, pk_un (by omega), o5 k (by omega), q4, pk_un (by omega)]
        · rw [v2, pk_us, w1, ← Int32.add_assoc, show pc3 = pc + r.1.length + 2 by omega, show pc5 = pc + r.1.length + s.1.length + 3 by omega]
          exact wd_eq 7 (pc + r.1.length + 2) (pc + r.1.length + s.1.length + 3)
        · exact o6.to (fun k hk hk2 => by rw [v2, pk_un (by omega), u4, pk_un (by omega), p4 k (by omega), s4, pk_un (by omega)])
        · rw [v2, pk_un (by omega), u4, pk_un (by omega), p4 _ (by omega), s4, o3, pk_us]
          exact wd_eq 8 0 0
        · rw [show pc + 1 + r.1.length + 1 = pc + r.1.length + 2 by omega]
          exact p5.to (fun k hk hk2 => by rw [v2, pk_un (by omega), u4, pk_un (by omega)])
        · rw [v2, pk_un (by omega), u4, show pc + 1 + r.1.length + 1 + s.1.length = pc4 by omega, pk_us]
          exact wd_eq 8 0 0
    · have o := r5 e
      have hb := a3 e
      have hq := (q2 (by omega)).1
      unfold OUT at o
      rw [hq] at o
      unfold OUT gsel
      cases eg : g (pc + 1) nc with
      | error x =>
        rw [eg] at o
        simp only at o ⊢
        rw [t4 e2, o]
      | ok r => rw [eg] at o; exact absurd o.1 e2
  have res := CR.seq h0 key
  refine ⟨res.1, fun er fr pc nc co wo post a1 a2 a3 hF hp => ?_⟩
  unfold wp_Translator_choice wp_Datum_followerOf
  rw [nI_clamp (n := c0) (by omega), e0]
  exact ⟨vp_in_nI hc0 (by decide), res.2 er fr pc nc co wo post a1 a2 a3 hF hp⟩
end
/-! arguments, values of bindings, operations: the class's side -/
def dsum (f : Nat → Nat) (l : List Nat) : Nat → Nat
  | 0 => 0
  | k + 1 => f (l.getD k 0) + dsum f l k
theorem getD_mem {l : List Nat} {k : Nat} (h : k < l.length) : l.getD k 0 ∈ l := by
  rw [List.getD_eq_getElem?_getD, List.getElem?_eq_getElem h]
  exact List.getElem_mem h
theorem drop_hdp {l : List Nat} {k : Nat} (h : k < l.length) : hdp (l.drop k) = nI (l.getD k 0) := by
  rw [List.drop_eq_getElem_cons h, List.getD_eq_getElem?_getD, List.getElem?_eq_getElem h]
  rfl
theorem inc.mem {m : Nat} : ∀ {l : List Nat} {lo j : Nat}, inc lo m l → j ∈ l → lo ≤ j ∧ j < m
  | _ :: _, _, _, h, hj => by
    rcases List.mem_cons.mp hj with e | hj
    · rw [e]; exact ⟨h.1, h.2.1⟩
    · have := inc.mem h.2.2 hj
      exact ⟨by have := h.1; omega, this.2⟩
section
variable {m : Nat} {F K V fn : Nat → Int32} {kids : Nat → List Nat} {fs : List (List Nat)} {bl bc : Nat → Nat} {g h : GG} {M M' : CMT} {RE : RET} {c : Nat → GG}
theorem CR.of {b0 k0 : Nat} (h : CR m F K kids fs b0 k0 g M') (hM : ∀ fc er fr sz lc co wo post, M' fc er fr sz lc co wo post → M fc er fr sz lc co wo post) : CR m F K kids fs b0 k0 g M :=
  ⟨h.1, fun er fr pc nc co wo post a1 a2 a3 a4 a5 => hM _ _ _ _ _ _ _ _ (h.2 er fr pc nc co wo post a1 a2 a3 a4 a5)⟩
theorem CR.down {l : List Nat} {x : Int32} (hm : m ≤ 200) (hx : ch F x l) (hi : inc 0 m l) (hc : ∀ j ∈ l, CR m F K kids fs (bl j) (bc j) (c j) (atN RE m F K V fn (nI j))) : ∀ k, k ≤ l.length → CR m F K kids fs (dsum (fun j => bl j + 1) l k) (dsum bc l k) (gdown c l k) (fun fc er fr sz lc co wo post => wp_Translator_arguments_L22 RE fn (nI m) F K V post (k + 1) x (nI k + (-1)) fc er fr sz lc co wo)
  | 0, _ => CR.skip.of (fun fc er fr sz lc co wo post h => ⟨fun _ => h, fun z => absurd (by decide) z⟩)
  | k + 1, hk => by
    have hj := hc _ (getD_mem (l := l) (k := k) (by omega))
    have := hi.len
    refine CR.of (CR.mono (CR.seq hj (CR.seq (CR.put (o := 12) (a := 0) (b := 0) rfl rfl rfl) (CR.down hm hx hi hc k (by omega)))) (by show _ ≤ _ + 1 + _; omega) (by show _ ≤ _ + _; omega)) (fun fc er fr sz lc co wo post h => ⟨fun z => absurd z (by rw [pk_m1]; exact nI_pos (by omega)), fun _ => ?_⟩)
    rw [pk_m1]
    refine q_partBehind hm (by omega) hx hi ?_
    rw [drop_hdp (by omega)]
    exact h
theorem CR.args {l : List Nat} {x : Int32} (hm : m ≤ 200) (hx : ch F x l) (hi : inc 0 m l) (hc : ∀ j ∈ l, CR m F K kids fs (bl j) (bc j) (c j) (atN RE m F K V fn (nI j))) : CR m F K kids fs (1 + dsum (fun j => bl j + 1) l l.length) (dsum bc l l.length) (gargs c l) (fun fc er fr sz lc co wo post => wp_Translator_arguments RE fc er fn fr sz lc co (nI m) F K V wo x post) :=
  CR.of (CR.mono (CR.seq (CR.put (o := 1) (a := 0) (b := 0) rfl rfl rfl) (CR.down hm hx hi hc l.length (Nat.le_refl _))) (Nat.le_refl _) (by omega)) (fun fc er fr sz lc co wo post h => by
    unfold wp_Translator_arguments
    have e : ∀ (P Q : Int32 → Int32 → (Nat → Int32) → Prop), (∀ a b c, P a b c → Q a b c) → wp_Program_emit sz wo 1 0 0 P → wp_Program_emit sz wo 1 0 0 Q := fun P Q pq hP => ⟨fun z => pq _ _ _ (hP.1 z), fun z => ⟨(hP.2 z).1, pq _ _ _ (hP.2 z).2⟩⟩
    exact e _ _ (fun a b c h => q_countFrom hm hx hi ⟨l.length + 1, by rw [Int32.sub_eq_add_neg]; exact h⟩) h)
theorem CR.downB {l : List Nat} {x : Int32} (hm : m ≤ 200) (hT : ∀ j, j < m → K j = 2 → ch F (V j) (kids j) ∧ inc 0 m (kids j)) (hx : ch F x l) (hi : inc 0 m l) (hb : ∀ j ∈ l, bnd K kids j) (hc : ∀ j ∈ l, CR m F K kids fs (bl j) (bc j) (c j) (atN RE m F K V fn (nI ((kids j).getD 1 0)))) : ∀ k, k ≤ l.length → CR m F K kids fs (dsum (fun j => bl j + 1) l k) (dsum bc l k) (gdown c l k) (fun fc er fr sz lc co wo post => wp_Translator_bindingValues_L22 RE fn (nI m) F K V post (k + 1) x (nI k + (-1)) fc er fr sz lc co wo)
  | 0, _ => CR.skip.of (fun fc er fr sz lc co wo post h => ⟨fun _ => h, fun z => absurd (by decide) z⟩)
  | k + 1, hk => by
    have hmem := getD_mem (l := l) (k := k) (by omega)
    have hj := hc _ hmem
    have := hi.len
    refine CR.of (CR.mono (CR.seq hj (CR.seq (CR.put (o := 12) (a := 0) (b := 0) rfl rfl rfl) (CR.downB hm hT hx hi hb hc k (by omega)))) (by show _ ≤ _ + 1 + _; omega) (by show _ ≤ _ + _; omega)) (fun fc er fr sz lc co wo post h => ⟨fun z => absurd z (by rw [pk_m1]; exact nI_pos (by omega)), fun _ => ?_⟩)
    rw [pk_m1]
    refine q_partBehind hm (by omega) hx hi ?_
    rw [drop_hdp (by omega)]
    generalize l.getD k 0 = q at h hmem
    have hq := (hi.mem hmem).2
    obtain ⟨z1, z2, z3⟩ := hb q hmem
    obtain ⟨t1, t2⟩ := hT q hq z1
    unfold wp_Datum_firstPartOf wp_Datum_followerOf
    rw [nI_clamp (n := q) (by omega)]
    have vq : vp_in (nI q) 200 := vp_in_nI (by omega) (by decide)
    refine ⟨vq, fun _ => ⟨vq, ?_⟩, fun z => absurd z1 z⟩
    cases e : kids q with
    | nil => rw [e] at z2; exact absurd z2 (by decide)
    | cons a t =>
      cases t with
      | nil => rw [e] at z2; exact absurd (show 1 = 2 from z2) (by decide)
      | cons v t =>
        rw [e] at t1 t2 h
        rw [show V q = nI a from t1.1, nI_clamp (n := a) (by have := t2.2.1; omega)]
        refine ⟨vp_in_nI (by have := t2.2.1; omega) (by decide), ?_⟩
        rw [show F a = nI v from t1.2.1]
        exact h
theorem CR.vals {l : List Nat} {x : Int32} (hm : m ≤ 200) (hT : ∀ j, j < m → K j = 2 → ch F (V j) (kids j) ∧ inc 0 m (kids j)) (hx : ch F x l) (hi : inc 0 m l) (hb : ∀ j ∈ l, bnd K kids j) (hc : ∀ j ∈ l, CR m F K kids fs (bl j) (bc j) (c j) (atN RE m F K V fn (nI ((kids j).getD 1 0)))) : CR m F K kids fs (1 + dsum (fun j => bl j + 1) l l.length) (dsum bc l l.length) (gargs c l) (fun fc er fr sz lc co wo post => wp_Translator_bindingValues RE fc er fn fr sz lc co (nI m) F K V wo x post) :=
  CR.of (CR.mono (CR.seq (CR.put (o := 1) (a := 0) (b := 0) rfl rfl rfl) (CR.downB hm hT hx hi hb hc l.length (Nat.le_refl _))) (Nat.le_refl _) (by omega)) (fun fc er fr sz lc co wo post h => by
    unfold wp_Translator_bindingValues
    have e : ∀ (P Q : Int32 → Int32 → (Nat → Int32) → Prop), (∀ a b c, P a b c → Q a b c) → wp_Program_emit sz wo 1 0 0 P → wp_Program_emit sz wo 1 0 0 Q := fun P Q pq hP => ⟨fun z => pq _ _ _ (hP.1 z), fun z => ⟨(hP.2 z).1, pq _ _ _ (hP.2 z).2⟩⟩
    exact e _ _ (fun a b c h => q_countFrom hm hx hi ⟨l.length + 1, by rw [Int32.sub_eq_add_neg]; exact h⟩) h)
end
section
variable {m : Nat} {F K V fn : Nat → Int32} {kids : Nat → List Nat} {fs : List (List Nat)} {b0 b1 b2 k0 k1 k2 : Nat} {g h : GG} {M M' : CMT} {RE : RET}
/-- operations: of one value; of two; cons, whose second value comes first -/
theorem CR.op1 {i a : Nat} {x : Int32} (h0 : CR m F K kids fs b0 k0 g (atN RE m F K V fn (nI a))) (ha : a < 200) (hi : i ≤ 2) (hx : x = nI i) : CR m F K kids fs (b0 + 1) (k0 + 0) (gseq g (gput (9 + i) 0 0)) (fun fc er fr sz lc co wo post => wp_Translator_operation RE fc er fn fr sz lc co (nI m) F K V wo x (nI a) post) := by
  subst hx
  refine CR.of (CR.seq h0 (CR.put (x := (9 : Int32) + nI i) (y := 0) (z := 0) (nI_add 9 i) rfl rfl)) (fun fc er fr sz lc co wo post h => ?_)
  unfold wp_Translator_operation wp_Datum_followerOf
  refine ⟨vp_in_nI ha (by decide), fun z => absurd ((nI_eq (a := i) (b := 3) (by omega) (by decide)).mp z) (by omega), fun _ => ?_⟩
  have e : (fun fc_3 er_4 fr_5 sz_6 lc_7 co_8 wo_9 => (wp_Program_emit sz_6 wo_9 ((9 : Int32) + nI i) (0 : Int32) (0 : Int32) (fun _ sz_12 wo_13 => post fc_3 er_4 fr_5 sz_12 lc_7 co_8 wo_13))) = (fun (fc_3 er_4 : Int32) (fr_5 : Nat → Int32) (sz_6 lc_7 : Int32) (co_8 wo_9 : Nat → Int32) => ((nI i ≤ (2 : Int32) → (wp_Program_emit sz_6 wo_9 ((9 : Int32) + nI i) (0 : Int32) (0 : Int32) (fun r_11 sz_12 wo_13 => post fc_3 er_4 fr_5 sz_12 lc_7 co_8 wo_13))) ∧ (¬ nI i ≤ (2 : Int32) → (RE fc_3 er_4 fn fr_5 sz_6 lc_7 co_8 (nI m) F K V wo_9 (F (nI a).toNatClampNeg) (fun fc_14 er_15 fr_16 sz_17 lc_18 co_19 wo_20 => wp_Program_emit sz_17 wo_20 ((9 : Int32) + nI i) (0 : Int32) (0 : Int32) (fun r_21 sz_22 wo_23 => post fc_14 er_15 fr_16 sz_22 lc_18 co_19 wo_23)))))) := by
    funext a1 a2 a3 a4 a5 a6 a7
    have hle : nI i ≤ (2 : Int32) := nI_le (b := 2) hi (by decide)
    exact propext ⟨fun h => ⟨fun _ => h, fun z => absurd hle z⟩, fun h => h.1 hle⟩
  rw [← e]
  exact h
theorem CR.op2 {i a b : Nat} {x : Int32} (h0 : CR m F K kids fs b0 k0 g (atN RE m F K V fn (nI a))) (h1 : CR m F K kids fs b1 k1 h (atN RE m F K V fn (nI b))) (ha : a < 200) (hF : F a = nI b) (hi : 3 < i) (hi2 : i < 11) (hx : x = nI i) : CR m F K kids fs (b0 + (b1 + 1)) (k0 + (k1 + 0)) (gseq g (gseq h (gput (9 + i) 0 0))) (fun fc er fr sz lc co wo post => wp_Translator_operation RE fc er fn fr sz lc co (nI m) F K V wo x (nI a) post) := by
  subst hx
  refine CR.of (CR.seq h0 (CR.seq h1 (CR.put (x := (9 : Int32) + nI i) (y := 0) (z := 0) (nI_add 9 i) rfl rfl))) (fun fc er fr sz lc co wo post h => ?_)
  unfold wp_Translator_operation wp_Datum_followerOf
  refine ⟨vp_in_nI ha (by decide), fun z => absurd ((nI_eq (a := i) (b := 3) (by omega) (by decide)).mp z) (by omega), fun _ => ?_⟩
  rw [nI_clamp (n := a) (by omega), hF]
  have e : (fun fc_3 er_4 fr_5 sz_6 lc_7 co_8 wo_9 => (RE fc_3 er_4 fn fr_5 sz_6 lc_7 co_8 (nI m) F K V wo_9 (nI b) (fun fc_14 er_15 fr_16 sz_17 lc_18 co_19 wo_20 => wp_Program_emit sz_17 wo_20 ((9 : Int32) + nI i) (0 : Int32) (0 : Int32) (fun _ sz_22 wo_23 => post fc_14 er_15 fr_16 sz_22 lc_18 co_19 wo_23)))) = (fun (fc_3 er_4 : Int32) (fr_5 : Nat → Int32) (sz_6 lc_7 : Int32) (co_8 wo_9 : Nat → Int32) => ((nI i ≤ (2 : Int32) → (wp_Program_emit sz_6 wo_9 ((9 : Int32) + nI i) (0 : Int32) (0 : Int32) (fun r_11 sz_12 wo_13 => post fc_3 er_4 fr_5 sz_12 lc_7 co_8 wo_13))) ∧ (¬ nI i ≤ (2 : Int32) → (RE fc_3 er_4 fn fr_5 sz_6 lc_7 co_8 (nI m) F K V wo_9 (nI b) (fun fc_14 er_15 fr_16 sz_17 lc_18 co_19 wo_20 => wp_Program_emit sz_17 wo_20 ((9 : Int32) + nI i) (0 : Int32) (0 : Int32) (fun r_21 sz_22 wo_23 => post fc_14 er_15 fr_16 sz_22 lc_18 co_19 wo_23)))))) := by
    funext a1 a2 a3 a4 a5 a6 a7
    have hle : ¬ nI i ≤ (2 : Int32) := nI_ge (a := 2) (by omega) (by omega)
    exact propext ⟨fun h => ⟨fun z => absurd z hle, fun _ => h⟩, fun h => h.2 hle⟩
  rw [← e]
  exact h
theorem CR.op3 {a b : Nat} {x : Int32} (h0 : CR m F K kids fs b0 k0 g (atN RE m F K V fn (nI a))) (h1 : CR m F K kids fs b1 k1 h (atN RE m F K V fn (nI b))) (ha : a < 200) (hF : F a = nI b) (hx : x = nI 3) : CR m F K kids fs (b1 + (b0 + 1)) (k1 + (k0 + 0)) (gseq h (gseq g (gput 12 0 0))) (fun fc er fr sz lc co wo post => wp_Translator_operation RE fc er fn fr sz lc co (nI m) F K V wo x (nI a) post) := by
  subst hx
  refine CR.of (CR.seq h1 (CR.seq h0 (CR.put (x := (9 : Int32) + nI 3) (y := 0) (z := 0) (nI_add 9 3) rfl rfl))) (fun fc er fr sz lc co wo post h => ?_)
  unfold wp_Translator_operation wp_Datum_followerOf
  refine ⟨vp_in_nI ha (by decide), fun _ => ?_, fun z => absurd rfl z⟩
  rw [nI_clamp (n := a) (by omega), hF]
  exact h
end
