/-! arguments, values of bindings, operations: the class's side -/
def dsum (f : Nat → Nat) (l : List Nat) : Nat → Nat
  | 0 => 0
  | k + 1 => f (l.getD k 0) + dsum f l k
theorem getD_mem {l : List Nat} {k : Nat} (h : k < l.length) : l.getD k 0 ∈ l := by
  rw [List.getD_eq_getElem?_getD, List.getElem?_eq_getElem h]
  exact List.getElem_mem h
theorem drop_hdp {l : List Nat} {k : Nat} (h : k < l.length) : hdp (l.drop k) = nI (l.getD k 0) := by
  rw [List.drop_eq_getElem_cons h, List.getD_eq_getElem?_getD, List.getElem?_eq_getElem h]
  rfl
theorem inc.mem {m : Nat} : ∀ {l : List Nat} {lo j : Nat}, inc lo m l → j ∈ l → lo ≤ j ∧ j < m
  | _ :: _, _, _, h, hj => by
    rcases List.mem_cons.mp hj with e | hj
    · rw [e]; exact ⟨h.1, h.2.1⟩
    · have := inc.mem h.2.2 hj
      exact ⟨by have := h.1; omega, this.2⟩
section
variable {m : Nat} {F K V fn : Nat → Int32} {kids : Nat → List Nat} {fs : List (List Nat)} {bl bc : Nat → Nat} {g h : GG} {M M' : CMT} {RE : RET} {c : Nat → GG}
theorem CR.of {b0 k0 : Nat} (h : CR m F K kids fs b0 k0 g M') (hM : ∀ fc er fr sz lc co wo post, M' fc er fr sz lc co wo post → M fc er fr sz lc co wo post) : CR m F K kids fs b0 k0 g M :=
  ⟨h.1, fun er fr pc nc co wo post a1 a2 a3 a4 a5 => hM _ _ _ _ _ _ _ _ (h.2 er fr pc nc co wo post a1 a2 a3 a4 a5)⟩
theorem CR.down {l : List Nat} {x : Int32} (hm : m ≤ 200) (hx : ch F x l) (hi : inc 0 m l) (hc : ∀ j ∈ l, CR m F K kids fs (bl j) (bc j) (c j) (atN RE m F K V fn (nI j))) : ∀ k, k ≤ l.length → CR m F K kids fs (dsum (fun j => bl j + 1) l k) (dsum bc l k) (gdown c l k) (fun fc er fr sz lc co wo post => wp_Translator_arguments_L22 RE fn (nI m) F K V post (k + 1) x (nI k + (-1)) fc er fr sz lc co wo)
  | 0, _ => CR.skip.of (fun fc er fr sz lc co wo post h => ⟨fun _ => h, fun z => absurd (by decide) z⟩)
  | k + 1, hk => by
    have hj := hc _ (getD_mem (l := l) (k := k) (by omega))
    have := hi.len
    refine CR.of (CR.mono (CR.seq hj (CR.seq (CR.put (o := 12) (a := 0) (b := 0) rfl rfl rfl) (CR.down hm hx hi hc k (by omega)))) (by show _ ≤ _ + 1 + _; omega) (by show _ ≤ _ + _; omega)) (fun fc er fr sz lc co wo post h => ⟨fun z => absurd z (by rw [pk_m1]; exact nI_pos (by omega)), fun _ => ?_⟩)
    rw [pk_m1]
    refine q_partBehind hm (by omega) hx hi ?_
    rw [drop_hdp (by omega)]
    exact h
theorem CR.args {l : List Nat} {x : Int32} (hm : m ≤ 200) (hx : ch F x l) (hi : inc 0 m l) (hc : ∀ j ∈ l, CR m F K kids fs (bl j) (bc j) (c j) (atN RE m F K V fn (nI j))) : CR m F K kids fs (1 + dsum (fun j => bl j + 1) l l.length) (dsum bc l l.length) (gargs c l) (fun fc er fr sz lc co wo post => wp_Translator_arguments RE fc er fn fr sz lc co (nI m) F K V wo x post) :=
  CR.of (CR.mono (CR.seq (CR.put (o := 1) (a := 0) (b := 0) rfl rfl rfl) (CR.down hm hx hi hc l.length (Nat.le_refl _))) (Nat.le_refl _) (by omega)) (fun fc er fr sz lc co wo post h => by
    unfold wp_Translator_arguments
    have e : ∀ (P Q : Int32 → Int32 → (Nat → Int32) → Prop), (∀ a b c, P a b c → Q a b c) → wp_Program_emit sz wo 1 0 0 P → wp_Program_emit sz wo 1 0 0 Q := fun P Q pq hP => ⟨fun z => pq _ _ _ (hP.1 z), fun z => ⟨(hP.2 z).1, pq _ _ _ (hP.2 z).2⟩⟩
    exact e _ _ (fun a b c h => q_countFrom hm hx hi ⟨l.length + 1, by rw [Int32.sub_eq_add_neg]; exact h⟩) h)
theorem CR.downB {l : List Nat} {x : Int32} (hm : m ≤ 200) (hT : ∀ j, j < m → K j = 2 → ch F (V j) (kids j) ∧ inc 0 m (kids j)) (hx : ch F x l) (hi : inc 0 m l) (hb : ∀ j ∈ l, bnd K kids j) (hc : ∀ j ∈ l, CR m F K kids fs (bl j) (bc j) (c j) (atN RE m F K V fn (nI ((kids j).getD 1 0)))) : ∀ k, k ≤ l.length → CR m F K kids fs (dsum (fun j => bl j + 1) l k) (dsum bc l k) (gdown c l k) (fun fc er fr sz lc co wo post => wp_Translator_bindingValues_L22 RE fn (nI m) F K V post (k + 1) x (nI k + (-1)) fc er fr sz lc co wo)
  | 0, _ => CR.skip.of (fun fc er fr sz lc co wo post h => ⟨fun _ => h, fun z => absurd (by decide) z⟩)
  | k + 1, hk => by
    have hmem := getD_mem (l := l) (k := k) (by omega)
    have hj := hc _ hmem
    have := hi.len
    refine CR.of (CR.mono (CR.seq hj (CR.seq (CR.put (o := 12) (a := 0) (b := 0) rfl rfl rfl) (CR.downB hm hT hx hi hb hc k (by omega)))) (by show _ ≤ _ + 1 + _; omega) (by show _ ≤ _ + _; omega)) (fun fc er fr sz lc co wo post h => ⟨fun z => absurd z (by rw [pk_m1]; exact nI_pos (by omega)), fun _ => ?_⟩)
    rw [pk_m1]
    refine q_partBehind hm (by omega) hx hi ?_
    rw [drop_hdp (by omega)]
    generalize l.getD k 0 = q at h hmem
    have hq := (hi.mem hmem).2
    obtain ⟨z1, z2, z3⟩ := hb q hmem
    obtain ⟨t1, t2⟩ := hT q hq z1
    unfold wp_Datum_firstPartOf wp_Datum_followerOf
    rw [nI_clamp (n := q) (by omega)]
    have vq : vp_in (nI q) 200 := vp_in_nI (by omega) (by decide)
    refine ⟨vq, fun _ => ⟨vq, ?_⟩, fun z => absurd z1 z⟩
    cases e : kids q with
    | nil => rw [e] at z2; exact absurd z2 (by decide)
    | cons a t =>
      cases t with
      | nil => rw [e] at z2; exact absurd (show 1 = 2 from z2) (by decide)
      | cons v t =>
        rw [e] at t1 t2 h
        rw [show V q = nI a from t1.1, nI_clamp (n := a) (by have := t2.2.1; omega)]
        refine ⟨vp_in_nI (by have := t2.2.1; omega) (by decide), ?_⟩
        rw [show F a = nI v from t1.2.1]
        exact h
theorem CR.vals {l : List Nat} {x : Int32} (hm : m ≤ 200) (hT : ∀ j, j < m → K j = 2 → ch F (V j) (kids j) ∧ inc 0 m (kids j)) (hx : ch F x l) (hi : inc 0 m l) (hb : ∀ j ∈ l, bnd K kids j) (hc : ∀ j ∈ l, CR m F K kids fs (bl j) (bc j) (c j) (atN RE m F K V fn (nI ((kids j).getD 1 0)))) : CR m F K kids fs (1 + dsum (fun j => bl j + 1) l l.length) (dsum bc l l.length) (gargs c l) (fun fc er fr sz lc co wo post => wp_Translator_bindingValues RE fc er fn fr sz lc co (nI m) F K V wo x post) :=
  CR.of (CR.mono (CR.seq (CR.put (o := 1) (a := 0) (b := 0) rfl rfl rfl) (CR.downB hm hT hx hi hb hc l.length (Nat.le_refl _))) (Nat.le_refl _) (by omega)) (fun fc er fr sz lc co wo post h => by
    unfold wp_Translator_bindingValues
    have e : ∀ (P Q : Int32 → Int32 → (Nat → Int32) → Prop), (∀ a b c, P a b c → Q a b c) → wp_Program_emit sz wo 1 0 0 P → wp_Program_emit sz wo 1 0 0 Q := fun P Q pq hP => ⟨fun z => pq _ _ _ (hP.1 z), fun z => ⟨(hP.2 z).1, pq _ _ _ (hP.2 z).2⟩⟩
    exact e _ _ (fun a b c h => q_countFrom hm hx hi ⟨l.length + 1, by rw [Int32.sub_eq_add_neg]; exact h⟩) h)
end
section
variable {m : Nat} {F K V fn : Nat → Int32} {kids : Nat → List Nat} {fs : List (List Nat)} {b0 b1 b2 k0 k1 k2 : Nat} {g h : GG} {M M' : CMT} {RE : RET}
/-- operations: of one value; of two; cons, whose second value comes first -/
theorem CR.op1 {i a : Nat} {x : Int32} (h0 : CR m F K kids fs b0 k0 g (atN RE m F K V fn (nI a))) (ha : a < 200) (hi : i ≤ 2) (hx : x = nI i) : CR m F K kids fs (b0 + 1) (k0 + 0) (gseq g (gput (9 + i) 0 0)) (fun fc er fr sz lc co wo post => wp_Translator_operation RE fc er fn fr sz lc co (nI m) F K V wo x (nI a) post) := by
  subst hx
  refine CR.of (CR.seq h0 (CR.put (x := (9 : Int32) + nI i) (y := 0) (z := 0) (nI_add 9 i) rfl rfl)) (fun fc er fr sz lc co wo post h => ?_)
  unfold wp_Translator_operation wp_Datum_followerOf
  refine ⟨vp_in_nI ha (by decide), fun z => absurd ((nI_eq (a := i) (b := 3) (by omega) (by decide)).mp z) (by omega), fun _ => ?_⟩
  have e : (fun fc_3 er_4 fr_5 sz_6 lc_7 co_8 wo_9 => (wp_Program_emit sz_6 wo_9 ((9 : Int32) + nI i) (0 : Int32) (0 : Int32) (fun _ sz_12 wo_13 => post fc_3 er_4 fr_5 sz_12 lc_7 co_8 wo_13))) = (fun (fc_3 er_4 : Int32) (fr_5 : Nat → Int32) (sz_6 lc_7 : Int32) (co_8 wo_9 : Nat → Int32) => ((nI i ≤ (2 : Int32) → (wp_Program_emit sz_6 wo_9 ((9 : Int32) + nI i) (0 : Int32) (0 : Int32) (fun r_11 sz_12 wo_13 => post fc_3 er_4 fr_5 sz_12 lc_7 co_8 wo_13))) ∧ (¬ nI i ≤ (2 : Int32) → (RE fc_3 er_4 fn fr_5 sz_6 lc_7 co_8 (nI m) F K V wo_9 (F (nI a).toNatClampNeg) (fun fc_14 er_15 fr_16 sz_17 lc_18 co_19 wo_20 => wp_Program_emit sz_17 wo_20 ((9 : Int32) + nI i) (0 : Int32) (0 : Int32) (fun r_21 sz_22 wo_23 => post fc_14 er_15 fr_16 sz_22 lc_18 co_19 wo_23)))))) := by
    funext a1 a2 a3 a4 a5 a6 a7
    have hle : nI i ≤ (2 : Int32) := nI_le (b := 2) hi (by decide)
    exact propext ⟨fun h => ⟨fun _ => h, fun z => absurd hle z⟩, fun h => h.1 hle⟩
  rw [← e]
  exact h
theorem CR.op2 {i a b : Nat} {x : Int32} (h0 : CR m F K kids fs b0 k0 g (atN RE m F K V fn (nI a))) (h1 : CR m F K kids fs b1 k1 h (atN RE m F K V fn (nI b))) (ha : a < 200) (hF : F a = nI b) (hi : 3 < i) (hi2 : i < 11) (hx : x = nI i) : CR m F K kids fs (b0 + (b1 + 1)) (k0 + (k1 + 0)) (gseq g (gseq h (gput (9 + i) 0 0))) (fun fc er fr sz lc co wo post => wp_Translator_operation RE fc er fn fr sz lc co (nI m) F K V wo x (nI a) post) := by
  subst hx
  refine CR.of (CR.seq h0 (CR.seq h1 (CR.put (x := (9 : Int32) + nI i) (y := 0) (z := 0) (nI_add 9 i) rfl rfl))) (fun fc er fr sz lc co wo post h => ?_)
  unfold wp_Translator_operation wp_Datum_followerOf
  refine ⟨vp_in_nI ha (by decide), fun z => absurd ((nI_eq (a := i) (b := 3) (by omega) (by decide)).mp z) (by omega), fun _ => ?_⟩
  rw [nI_clamp (n := a) (by omega), hF]
  have e : (fun fc_3 er_4 fr_5 sz_6 lc_7 co_8 wo_9 => (RE fc_3 er_4 fn fr_5 sz_6 lc_7 co_8 (nI m) F K V wo_9 (nI b) (fun fc_14 er_15 fr_16 sz_17 lc_18 co_19 wo_20 => wp_Program_emit sz_17 wo_20 ((9 : Int32) + nI i) (0 : Int32) (0 : Int32) (fun _ sz_22 wo_23 => post fc_14 er_15 fr_16 sz_22 lc_18 co_19 wo_23)))) = (fun (fc_3 er_4 : Int32) (fr_5 : Nat → Int32) (sz_6 lc_7 : Int32) (co_8 wo_9 : Nat → Int32) => ((nI i ≤ (2 : Int32) → (wp_Program_emit sz_6 wo_9 ((9 : Int32) + nI i) (0 : Int32) (0 : Int32) (fun r_11 sz_12 wo_13 => post fc_3 er_4 fr_5 sz_12 lc_7 co_8 wo_13))) ∧ (¬ nI i ≤ (2 : Int32) → (RE fc_3 er_4 fn fr_5 sz_6 lc_7 co_8 (nI m) F K V wo_9 (nI b) (fun fc_14 er_15 fr_16 sz_17 lc_18 co_19 wo_20 => wp_Program_emit sz_17 wo_20 ((9 : Int32) + nI i) (0 : Int32) (0 : Int32) (fun r_21 sz_22 wo_23 => post fc_14 er_15 fr_16 sz_22 lc_18 co_19 wo_23)))))) := by
    funext a1 a2 a3 a4 a5 a6 a7
    have hle : ¬ nI i ≤ (2 : Int32) := nI_ge (a := 2) (by omega) (by omega)
    exact propext ⟨fun h => ⟨fun z => absurd z hle, fun _ => h⟩, fun h => h.2 hle⟩
  rw [← e]
  exact h
theorem CR.op3 {a b : Nat} {x : Int32} (h0 : CR m F K kids fs b0 k0 g (atN RE m F K V fn (nI a))) (h1 : CR m F K kids fs b1 k1 h (atN RE m F K V fn (nI b))) (ha : a < 200) (hF : F a = nI b) (hx : x = nI 3) : CR m F K kids fs (b1 + (b0 + 1)) (k1 + (k0 + 0)) (gseq h (gseq g (gput 12 0 0))) (fun fc er fr sz lc co wo post => wp_Translator_operation RE fc er fn fr sz lc co (nI m) F K V wo x (nI a) post) := by
  subst hx
  refine CR.of (CR.seq h1 (CR.seq h0 (CR.put (x := (9 : Int32) + nI 3) (y := 0) (z := 0) (nI_add 9 3) rfl rfl))) (fun fc er fr sz lc co wo post h => ?_)
  unfold wp_Translator_operation wp_Datum_followerOf
  refine ⟨vp_in_nI ha (by decide), fun _ => ?_, fun z => absurd rfl z⟩
  rw [nI_clamp (n := a) (by omega), hF]
  exact h
end
