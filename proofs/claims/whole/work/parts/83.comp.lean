/-! what both translate a node to -/
def plc (K V : Nat → Int32) (kids : Nat → List Nat) (v : Int32) : List Nat → Nat → Option Nat
  | [], _ => none
  | j :: t, k => if V (mem0 K kids j) = v then some k else plc K V kids v t (k + 1)
def look (K V : Nat → Int32) (kids : Nat → List Nat) (v : Int32) : List (List Nat) → Nat → Option (Nat × Nat)
  | [], _ => none
  | l :: t, i => match plc K V kids v l 0 with
    | some k => some (i, k)
    | none => look K V kids v t (i + 1)
theorem plc_hit {K V : Nat → Int32} {kids : Nat → List Nat} {v : Int32} : ∀ {l : List Nat} {i k : Nat}, i < l.length → V (mem0 K kids (l.getD i 0)) = v → (∀ i', i' < i → V (mem0 K kids (l.getD i' 0)) ≠ v) → plc K V kids v l k = some (k + i)
  | [], _, _, h, _, _ => absurd h (Nat.not_lt_zero _)
  | j :: l, 0, k, _, h, _ => if_pos h
  | j :: l, i + 1, k, h0, h, h1 => by
    unfold plc
    rw [if_neg (show V (mem0 K kids j) ≠ v from h1 0 (by omega)), plc_hit (i := i) (Nat.lt_of_succ_lt_succ h0) h (fun i' hi => h1 (i' + 1) (by omega)), show k + 1 + i = k + (i + 1) by omega]
theorem plc_miss {K V : Nat → Int32} {kids : Nat → List Nat} {v : Int32} : ∀ {l : List Nat} {k : Nat}, (∀ j ∈ l, V (mem0 K kids j) ≠ v) → plc K V kids v l k = none
  | [], _, _ => rfl
  | j :: l, k, h => by
    unfold plc
    rw [if_neg (h j List.mem_cons_self), plc_miss (fun y hy => h y (List.mem_cons_of_mem _ hy))]
/-- the form that a name is, if it is one -/
def formIx (K V : Nat → Int32) (h : Nat) : Option Nat := if K h = 1 then (List.range 16).find? (fun i => decide (V h = formC.getD i 0)) else none
theorem formIx_some {K V : Nat → Int32} {h i : Nat} (e : formIx K V h = some i) : i < 16 ∧ K h = 1 ∧ V h = formC.getD i 0 := by
  unfold formIx at e
  by_cases c : K h = 1
  · rw [if_pos c] at e
    have h1 := List.find?_some e
    have h2 := List.mem_of_find?_eq_some e
    exact ⟨List.mem_range.mp h2, c, of_decide_eq_true h1⟩
  · rw [if_neg c] at e
    cases e
theorem formIx_none {K V : Nat → Int32} {h : Nat} (e : formIx K V h = none) : K h = 1 → ∀ i, i < 16 → V h ≠ formC.getD i 0 := by
  intro c i hi e2
  unfold formIx at e
  rw [if_pos c] at e
  have := List.find?_eq_none.mp e i (List.mem_range.mpr hi)
  exact this (decide_eq_true e2)
/-- a form's code; c translates a node within frames -/
def cform (kids : Nat → List Nat) (c : List (List Nat) → Nat → GG) (fs : List (List Nat)) (i : Nat) (t : List Nat) : GG :=
  if i ≤ 2 then gseq (c fs (t.getD 0 0)) (gput (9 + i) 0 0)
  else if i = 3 then gseq (c fs (t.getD 1 0)) (gseq (c fs (t.getD 0 0)) (gput 12 0 0))
  else if i < 11 then gseq (c fs (t.getD 0 0)) (gseq (c fs (t.getD 1 0)) (gput (9 + i) 0 0))
  else if i = 11 then gcon (t.getD 0 0)
  else if i = 12 then gseq (c fs (t.getD 0 0)) (gsel (c fs (t.getD 1 0)) (c fs (t.getD 2 0)))
  else if i = 13 then gfn (c (kids (t.getD 0 0) :: fs) (t.getD 1 0))
  else if i = 14 then gseq (gargs (fun j => c fs ((kids j).getD 1 0)) (t.drop 1)) (gseq (gfn (c (t.drop 1 :: fs) (t.getD 0 0))) (gput 3 0 0))
  else gseq (gput 5 0 0) (gseq (gargs (fun j => c (t.drop 1 :: fs) ((kids j).getD 1 0)) (t.drop 1)) (gseq (gfn (c (t.drop 1 :: fs) (t.getD 0 0))) (gput 6 0 0)))
noncomputable def comp (K V : Nat → Int32) (kids : Nat → List Nat) : Nat → List (List Nat) → Nat → GG
  | 0, _, _ => gerr (-2)
  | d + 1, fs, j => if K j = 0 then gcon j
    else if K j = 1 then match look K V kids (V j) fs 0 with
      | some x => gput 0 x.1 x.2
      | none => gerr (-3)
    else match kids j with
      | [] => gerr (-2)
      | h :: t => match formIx K V h with
        | none => gseq (gargs (comp K V kids d fs) t) (gseq (comp K V kids d fs h) (gput 3 0 0))
        | some i => @ite _ (shp K kids i (h :: t)) (Classical.propDecidable _) (cform kids (comp K V kids d) fs i t) (gerr (-2))
/-! the class: a variable -/
theorem q_var_L2 {m : Nat} {F K V fr wo : Nat → Int32} {kids : Nat → List Nat} {n : Nat} {v er sz : Int32} {K34 : Int32 → Int32 → Int32 → Int32 → (Nat → Int32) → Prop} {post : Int32 → Int32 → (Nat → Int32) → Prop} (hm : m ≤ 200) (hn : n ≤ 12) (hT : ∀ j, j < m → K j = 2 → ch F (V j) (kids j) ∧ inc 0 m (kids j)) : ∀ (fs : List (List Nat)) (i : Nat), i + fs.length = n → FRC m F K kids fr fs → (∀ a k, look K V kids v fs i = some (a, k) → K34 (nI a) (nI k) er sz wo) → (look K V kids v fs i = none → post (-3) sz wo) → wp_Translator_variable_L2 (nI n) fr (nI m) F K V K34 post (fs.length + 1) v (nI i) er sz wo
  | [], i, hi, hF, h1, h0 => by
    have e : i = n := hi
    subst e
    exact ⟨fun _ => h0 rfl, fun z => absurd (Int32.le_refl _) z⟩
  | l :: t, i, hi, hF, h1, h0 => by
    have hi' : i + (t.length + 1) = n := hi
    have ex : (nI n - 1) - nI i = nI t.length := by
      rw [show n = (i + t.length) + 1 by omega, nI_pred, pk_sub (by omega), show i + t.length - i = t.length by omega]
    refine ⟨fun z => absurd z (nI_ge (by omega) (by omega)), fun _ => ?_⟩
    rw [ex, nI_clamp (n := t.length) (by omega), nI_1]
    refine ⟨vp_in_nI (by omega) (by decide), ?_⟩
    have unf : look K V kids v (l :: t) i = match plc K V kids v l 0 with
      | some k => some (i, k)
      | none => look K V kids v t (i + 1) := rfl
    have hlen := hF.1.2.1.len
    refine q_place hm hT hF.1.1 hF.1.2.1 hF.1.2.2 (fun k hk c1 c2 => ?_) (fun c => ?_)
    · rw [plc_hit hk c1 c2, Nat.zero_add] at unf
      exact ⟨fun z => absurd z (nI_m1 (by omega)), fun _ => h1 i k unf⟩
    · rw [plc_miss c] at unf
      exact ⟨fun _ => q_var_L2 hm hn hT t (i + 1) (by omega) hF.2 (fun a k e => h1 a k (unf.trans e)) (fun e => h0 (unf.trans e)), fun z => absurd rfl z⟩
theorem dsum_cons (f : Nat → Nat) (a : Nat) (l : List Nat) : ∀ k, dsum f (a :: l) (k + 1) = f a + dsum f l k
  | 0 => rfl
  | k + 1 => by
    have := dsum_cons f a l k
    show f ((a :: l).getD (k + 1) 0) + dsum f (a :: l) (k + 1) = f a + (f (l.getD k 0) + dsum f l k)
    rw [this]
    show f (l.getD k 0) + (f a + dsum f l k) = _
    omega
theorem dsum_all (f : Nat → Nat) : ∀ l : List Nat, dsum f l l.length = wsum f l
  | [] => rfl
  | a :: l => by
    rw [show (a :: l).length = l.length + 1 from rfl, dsum_cons, dsum_all f l]
    rfl
theorem wsum_le {f g : Nat → Nat} : ∀ {l : List Nat}, (∀ j ∈ l, f j ≤ g j) → wsum f l ≤ wsum g l
  | [], _ => Nat.le_refl _
  | a :: l, h => Nat.add_le_add (h a List.mem_cons_self) (wsum_le (fun j hj => h j (List.mem_cons_of_mem _ hj)))
theorem wsum_mul (c : Nat) (f : Nat → Nat) : ∀ l : List Nat, wsum (fun j => c * f j) l = c * wsum f l
  | [] => rfl
  | a :: l => by
    show c * f a + wsum (fun j => c * f j) l = c * (f a + wsum f l)
    rw [wsum_mul c f l, Nat.mul_add]
