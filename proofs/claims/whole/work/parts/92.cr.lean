/-! the class puts out what a generator says -/
abbrev CMT : Type := Int32 → Int32 → (Nat → Int32) → Int32 → Int32 → (Nat → Int32) → (Nat → Int32) → (Int32 → Int32 → (Nat → Int32) → Int32 → Int32 → (Nat → Int32) → (Nat → Int32) → Prop) → Prop
def OUT (g : GG) (pc nc : Nat) (co wo : Nat → Int32) (er' : Int32) (pc' nc' : Nat) (co' wo' : Nat → Int32) : Prop := match g pc nc with
  | .error e => er' = e
  | .ok r => er' = 0 ∧ pc' = pc + r.1.length ∧ nc' = nc + r.2.length ∧ (∀ k, k < pc → wo' k = wo k) ∧ WL wo' pc r.1 ∧ (∀ k, k ≤ nc → co' k = co k) ∧ CL co' nc r.2
/-- the frames of the class: the innermost first -/
def FRC (m : Nat) (F K : Nat → Int32) (kids : Nat → List Nat) (fr : Nat → Int32) : List (List Nat) → Prop
  | [] => True
  | l :: t => (ch F (fr t.length) l ∧ inc 0 m l ∧ ∀ j ∈ l, K j = 1 ∨ bnd K kids j) ∧ FRC m F K kids fr t
theorem FRC.to {m : Nat} {F K : Nat → Int32} {kids : Nat → List Nat} {fr fr' : Nat → Int32} : ∀ {fs : List (List Nat)}, FRC m F K kids fr fs → (∀ k, k < fs.length → fr' k = fr k) → FRC m F K kids fr' fs
  | [], _, _ => trivial
  | l :: t, h, e => ⟨by rw [e t.length (by show _ < _ + 1; omega)]; exact h.1, FRC.to h.2 (fun k hk => e k (by show k < t.length + 1; omega))⟩
def CR (m : Nat) (F K : Nat → Int32) (kids : Nat → List Nat) (fs : List (List Nat)) (bl bc : Nat) (g : GG) (M : CMT) : Prop := GB g bl bc ∧
  ∀ (er : Int32) (fr : Nat → Int32) (pc nc : Nat) (co wo : Nat → Int32) (post : Int32 → Int32 → (Nat → Int32) → Int32 → Int32 → (Nat → Int32) → (Nat → Int32) → Prop), pc ≤ 512 → nc ≤ 200 → (er = 0 → pc + bl ≤ 512 ∧ nc + bc ≤ 200) → FRC m F K kids fr fs →
    (∀ er' fr' pc' nc' co' wo', pc' ≤ 512 → nc' ≤ 200 → (∀ k, k < fs.length → fr' k = fr k) → (er ≠ 0 → er' = er) → (er = 0 → OUT g pc nc co wo er' pc' nc' co' wo') → post (nI fs.length) er' fr' (nI pc') (nI nc') co' wo') → M (nI fs.length) er fr (nI pc) (nI nc) co wo post
section
variable {m : Nat} {F K V fn : Nat → Int32} {kids : Nat → List Nat} {fs : List (List Nat)} {bl bc bl' bc' : Nat} {g h : GG} {M M' : CMT}
theorem CR.mono (hg : CR m F K kids fs bl bc g M) (h1 : bl ≤ bl') (h2 : bc ≤ bc') : CR m F K kids fs bl' bc' g M :=
  ⟨hg.1.mono h1 h2, fun er fr pc nc co wo post a1 a2 a3 a4 a5 => hg.2 er fr pc nc co wo post a1 a2 (fun e => ⟨by have := (a3 e).1; omega, by have := (a3 e).2; omega⟩) a4 a5⟩
theorem CR.seq (hg : CR m F K kids fs bl bc g M) (hh : CR m F K kids fs bl' bc' h M') : CR m F K kids fs (bl + bl') (bc + bc') (gseq g h) (fun fc er fr sz lc co wo post => M fc er fr sz lc co wo (fun fc er fr sz lc co wo => M' fc er fr sz lc co wo post)) := by
  refine ⟨hg.1.seq hh.1, fun er fr pc nc co wo post h1 h2 h3 hF hp => ?_⟩
  refine hg.2 er fr pc nc co wo _ h1 h2 (fun e => ⟨by have := (h3 e).1; omega, by have := (h3 e).2; omega⟩) hF (fun er1 fr1 pc1 nc1 co1 wo1 a1 a2 a3 a4 a5 => ?_)
  refine hh.2 er1 fr1 pc1 nc1 co1 wo1 post a1 a2 (fun e1 => ?_) (hF.to a3) (fun er2 fr2 pc2 nc2 co2 wo2 b1 b2 b3 b4 b5 => hp er2 fr2 pc2 nc2 co2 wo2 b1 b2 (fun k hk => (b3 k hk).trans (a3 k hk)) (fun e => ?_) (fun e => ?_))
  · by_cases e : er = 0
    · have o := a5 e
      have gb := hg.1 pc nc
      unfold OUT at o
      cases eg : g pc nc with
      | error x => rw [eg] at o gb; exact absurd (o.symm.trans e1) gb
      | ok r =>
        rw [eg] at o gb
        have := h3 e
        obtain ⟨-, o2, o3, -⟩ := o
        exact ⟨by have := gb.1; omega, by have := gb.2; omega⟩
    · exact absurd ((a4 e).symm.trans e1) e
  · have := a4 e
    rw [b4 (by rw [this]; exact e), this]
  · have o := a5 e
    have gb := hg.1 pc nc
    unfold OUT at o
    unfold OUT gseq
    cases eg : g pc nc with
    | error x =>
      rw [eg] at o gb
      simp only at o gb ⊢
      rw [b4 (by rw [o]; exact gb), o]
    | ok r =>
      rw [eg] at o
      simp only at o ⊢
      obtain ⟨o1, o2, o3, o4, o5, o6, o7⟩ := o
      have q := b5 o1
      unfold OUT at q
      rw [o2, o3] at q
      cases eh : h (pc + r.1.length) (nc + r.2.length) with
      | error x => rw [eh] at q; exact q
      | ok s =>
        rw [eh] at q
        simp only at q ⊢
        obtain ⟨q1, q2, q3, q4, q5, q6, q7⟩ := q
        refine ⟨q1, by rw [List.length_append]; omega, by rw [List.length_append]; omega, fun k hk => (q4 k (by omega)).trans (o4 k hk), WL.app (o5.to (fun k hk hk2 => q4 k (by omega))) q5, fun k hk => (q6 k (by omega)).trans (o6 k hk), CL.app (o7.to (fun k hk hk2 => q6 k (by omega))) q7⟩
theorem CR.skip : CR m F K kids fs 0 0 gskip (fun fc er fr sz lc co wo post => post fc er fr sz lc co wo) :=
  ⟨GB.skip, fun er fr pc nc co wo post h1 h2 h3 hF hp => hp er fr pc nc co wo h1 h2 (fun _ _ => rfl) (fun _ => rfl) (fun e => ⟨e, rfl, rfl, fun _ _ => rfl, trivial, fun _ _ => rfl, trivial⟩)⟩
theorem q_emit {pc : Nat} {wo : Nat → Int32} {o a b : Int32} {post : Int32 → Int32 → (Nat → Int32) → Prop} (h : pc ≤ 512) (hk : ∀ pc' wo', pc' ≤ 512 → (pc < 512 → pc' = pc + 1 ∧ wo' = upd wo pc ((o + (32 : Int32) * a) + (16384 : Int32) * b)) → post (nI pc) (nI pc') wo') : wp_Program_emit (nI pc) wo o a b post := by
  refine ⟨fun c => hk pc wo h (fun z => absurd c (nI_ge (a := pc) (b := 512) z (by decide))), fun c => ?_⟩
  have hp : pc < 512 := by
    rcases Nat.lt_or_ge pc 512 with z | z
    · exact z
    · exact absurd (nI_le (a := 512) z (by omega)) c
  rw [nI_clamp (n := pc) (by omega), nI_1]
  exact ⟨vp_in_nI hp (by decide), hk (pc + 1) _ (by omega) (fun _ => ⟨rfl, rfl⟩)⟩
theorem q_addA {pc a : Nat} {wo : Nat → Int32} {x y : Int32} {post : (Nat → Int32) → Prop} (h : pc ≤ 512) (ha : a ≤ 512) (hk : ∀ wo', (a < pc → wo' = upd wo a (wo a + ((32 : Int32) * x + (16384 : Int32) * y))) → post wo') : wp_Program_addAddresses (nI pc) wo (nI a) x y post := by
  refine ⟨fun c => hk wo (fun z => absurd c (nI_ge z (by omega))), fun c => ?_⟩
  have hp : a < pc := by
    rcases Nat.lt_or_ge a pc with z | z
    · exact z
    · exact absurd (nI_le z (by omega)) c
  have va : vp_in (nI a) 512 := vp_in_nI (by omega) (by decide)
  rw [nI_clamp (n := a) (by omega)]
  exact ⟨va, va, hk _ (fun _ => rfl)⟩
theorem CR.put {o a b : Nat} {x y z : Int32} (hx : x = nI o) (hy : y = nI a) (hz : z = nI b) : CR m F K kids fs 1 0 (gput o a b) (fun fc er fr sz lc co wo post => wp_Program_emit sz wo x y z (fun _ sz wo => post fc er fr sz lc co wo)) := by
  subst hx hy hz
  refine ⟨GB.put, fun er fr pc nc co wo post h1 h2 h3 hF hp => q_emit h1 (fun pc1 wo1 a1 a2 => hp er fr pc1 nc co wo1 a1 h2 (fun _ _ => rfl) (fun _ => rfl) (fun e => ?_))⟩
  obtain ⟨e1, e2⟩ := a2 (by have := (h3 e).1; omega)
  subst e1 e2
  exact ⟨e, rfl, rfl, fun k hk => pk_un (by omega), ⟨by rw [pk_us]; exact wd_eq o a b, trivial⟩, fun _ _ => rfl, trivial⟩
theorem CR.con {j : Nat} : CR m F K kids fs 1 1 (gcon j) (fun fc er fr sz lc co wo post => wp_Translator_constant sz lc co wo (nI j) (fun sz lc co wo => post fc er fr sz lc co wo)) := by
  refine ⟨GB.con, fun er fr pc nc co wo post h1 h2 h3 hF hp => ?_⟩
  have fin : ∀ (nc1 : Nat) (co1 : Nat → Int32), nc1 ≤ 200 → (er = 0 → nc1 = nc + 1 ∧ co1 = upd co (nc + 1) (nI j)) → wp_Program_emit (nI pc) wo (1 : Int32) (nI nc1) (0 : Int32) (fun r_4 sz wo => post (nI fs.length) er fr sz (nI nc1) co1 wo) := fun nc1 co1 hn hc => by
    refine q_emit h1 (fun pc1 wo1 a1 a2 => hp er fr pc1 nc1 co1 wo1 a1 hn (fun _ _ => rfl) (fun _ => rfl) (fun e => ?_))
    obtain ⟨e1, e2⟩ := a2 (by have := (h3 e).1; omega)
    obtain ⟨e3, e4⟩ := hc e
    subst e1 e2 e3 e4
    exact ⟨e, rfl, rfl, fun k hk => pk_un (by omega), ⟨by rw [pk_us]; exact wd_eq 1 (nc + 1) 0, trivial⟩, fun k hk => pk_un (by omega), ⟨pk_us, trivial⟩⟩
  refine ⟨fun c => fin nc co h2 (fun e => absurd c (nI_ge (a := nc) (b := 200) (by have := (h3 e).2; omega) (by decide))), fun c => ?_⟩
  have hn : nc < 200 := by
    rcases Nat.lt_or_ge nc 200 with z | z
    · exact z
    · exact absurd (nI_le (a := 200) z (by omega)) c
  rw [nI_1, nI_clamp (n := nc + 1) (by omega)]
  exact ⟨vp_in_nI (by omega) (by decide), fin (nc + 1) _ (by omega) (fun _ => ⟨rfl, rfl⟩)⟩
end
