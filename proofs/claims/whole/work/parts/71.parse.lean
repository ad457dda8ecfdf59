/-! reading: the two node tables, side by side. b: the reference's base; n: nodes so far; d: unclosed lists -/
def enc (q : Nat) (l : List Nat) : Nat := l.foldl (fun a x => a * q + x) 0
def isNm (l : List Nat) : Prop := l ≠ [] ∧ l.length ≤ 6 ∧ ∀ x ∈ l, 1 ≤ x ∧ x ≤ 26
def nameR (v w : Int32) : Prop := ∃ l : List Nat, isNm l ∧ v = nI (enc 32 l) ∧ w = nI (enc 27 l)
def ptr (b n : Nat) (x y : Int32) : Prop := (x = -1 ∧ y = -1) ∨ ∃ p, p < n ∧ x = nI p ∧ y = nI (b + p)
theorem ptr.mono {b n m : Nat} {x y : Int32} (h : ptr b n x y) (hm : n ≤ m) : ptr b m x y := by
  rcases h with h | ⟨p, h1, h2⟩
  · exact Or.inl h
  · exact Or.inr ⟨p, by omega, h2⟩
theorem ptr.nil {b n : Nat} : ptr b n (-1) (-1) := Or.inl ⟨rfl, rfl⟩
theorem ptr.to {b n p : Nat} (h : p < n) : ptr b n (nI p) (nI (b + p)) := Or.inr ⟨p, h, rfl, rfl⟩
theorem nI_m1 {p : Nat} (h : p < 2 ^ 31) : ¬ nI p = -1 := fun e => by
  have h1 := nI_toInt h
  rw [e] at h1
  have h2 : ((-1 : Int32)).toInt = -1 := by decide
  rw [h2] at h1
  omega
def ndV (b n : Nat) (k v s w c : Int32) : Prop := (k = 0 ∧ s = 0 ∧ v = w ∧ c = -1) ∨ (k = 1 ∧ s = 1 ∧ nameR v w ∧ c = -1) ∨ (k = 2 ∧ s = 2 ∧ ptr b n v c)
theorem ndV.mono {b n m : Nat} {k v s w c : Int32} (h : ndV b n k v s w c) (hm : n ≤ m) : ndV b m k v s w c := by
  rcases h with h | h | ⟨h1, h2, h3⟩
  · exact Or.inl h
  · exact Or.inr (Or.inl h)
  · exact Or.inr (Or.inr ⟨h1, h2, h3.mono hm⟩)
def RD (b n d : Nat) (K V F O P S W C N Q R : Nat → Int32) : Prop :=
  n ≤ 200 ∧ d ≤ 12 ∧ (∀ j, j < n → ptr b n (F j) (N (b + j)) ∧ ndV b n (K j) (V j) (S (b + j)) (W (b + j)) (C (b + j))) ∧
  ∀ i, i < d → (∃ o, o < n ∧ O i = nI o ∧ Q i = nI (b + o) ∧ K o = 2) ∧ ptr b n (P i) (R i)
theorem RD.nil {b : Nat} {K V F O P S W C N Q R : Nat → Int32} : RD b 0 0 K V F O P S W C N Q R := ⟨by omega, by omega, fun j h => absurd h (by omega), fun j h => absurd h (by omega)⟩
/-- a node that isn't in a list -/
theorem RD.add0 {b n : Nat} {K V F O P S W C N Q R : Nat → Int32} {k v w : Int32} (h : RD b n 0 K V F O P S W C N Q R) (hn : n < 200) (hk : ndV b (n + 1) k v k w (-1)) :
    RD b (n + 1) 0 (upd K n k) (upd V n v) (upd F n (-1)) O P (upd S (b + n) k) (upd W (b + n) w) (upd C (b + n) (-1)) (upd N (b + n) (-1)) Q R := by
  obtain ⟨h1, h2, h3, h4⟩ := h
  refine ⟨by omega, by omega, fun j hj => ?_, fun i hi => absurd hi (by omega)⟩
  by_cases e : j = n
  · subst e
    simp only [pk_us]
    exact ⟨ptr.nil, hk⟩
  · have e2 : b + j ≠ b + n := by omega
    simp only [pk_un e, pk_un e2]
    obtain ⟨a1, a2⟩ := h3 j (by omega)
    exact ⟨a1.mono (by omega), a2.mono (by omega)⟩
/-- the first part of the innermost unclosed list -/
theorem RD.addF {b n d o : Nat} {K V F O P S W C N Q R : Nat → Int32} {k v w : Int32} (h : RD b n (d + 1) K V F O P S W C N Q R) (hn : n < 200) (hk : ndV b (n + 1) k v k w (-1)) (hon : o < n) (ho : O d = nI o) :
    RD b (n + 1) (d + 1) (upd K n k) (upd (upd V n v) o (nI n)) (upd F n (-1)) O (upd P d (nI n)) (upd S (b + n) k) (upd W (b + n) w) (upd (upd C (b + n) (-1)) (b + o) (nI (b + n))) (upd N (b + n) (-1)) Q (upd R d (nI (b + n))) := by
  obtain ⟨h1, h2, h3, h4⟩ := h
  obtain ⟨⟨o2, q1, q2, q3, q4⟩, q5⟩ := h4 d (by omega)
  have eo : o2 = o := (nI_eq (by omega) (by omega)).mp (q2.symm.trans ho)
  subst eo
  refine ⟨by omega, h2, fun j hj => ?_, fun i hi => ?_⟩
  · by_cases e : j = n
    · subst e
      have e1 : j ≠ o2 := by omega
      have e2 : b + j ≠ b + o2 := by omega
      simp only [pk_us, pk_un e1, pk_un e2]
      exact ⟨ptr.nil, hk⟩
    · have e2 : b + j ≠ b + n := by omega
      obtain ⟨a1, a2⟩ := h3 j (by omega)
      by_cases eo : j = o2
      · subst eo
        simp only [pk_un e, pk_un e2, pk_us]
        refine ⟨a1.mono (by omega), Or.inr (Or.inr ⟨q4, ?_, ptr.to (by omega)⟩)⟩
        rcases a2 with a2 | a2 | a2
        · exact absurd (q4.symm.trans a2.1) (by decide)
        · exact absurd (q4.symm.trans a2.1) (by decide)
        · exact a2.2.1
      · have e3 : b + j ≠ b + o2 := by omega
        simp only [pk_un e, pk_un e2, pk_un eo, pk_un e3]
        exact ⟨a1.mono (by omega), a2.mono (by omega)⟩
  · obtain ⟨⟨o3, r1, r2, r3, r4⟩, r5⟩ := h4 i hi
    have e0 : o3 ≠ n := by omega
    refine ⟨⟨o3, by omega, r2, r3, by rw [pk_un e0]; exact r4⟩, ?_⟩
    by_cases e : i = d
    · subst e
      rw [pk_us, pk_us]
      exact ptr.to (by omega)
    · rw [pk_un e, pk_un e]
      exact r5.mono (by omega)
/-- a further part of the innermost unclosed list -/
theorem RD.addG {b n d p : Nat} {K V F O P S W C N Q R : Nat → Int32} {k v w : Int32} (h : RD b n (d + 1) K V F O P S W C N Q R) (hn : n < 200) (hk : ndV b (n + 1) k v k w (-1)) (hpn : p < n) (hp : P d = nI p) :
    RD b (n + 1) (d + 1) (upd K n k) (upd V n v) (upd (upd F n (-1)) p (nI n)) O (upd P d (nI n)) (upd S (b + n) k) (upd W (b + n) w) (upd C (b + n) (-1)) (upd (upd N (b + n) (-1)) (b + p) (nI (b + n))) Q (upd R d (nI (b + n))) := by
  obtain ⟨h1, h2, h3, h4⟩ := h
  refine ⟨by omega, h2, fun j hj => ?_, fun i hi => ?_⟩
  · by_cases e : j = n
    · subst e
      have e1 : j ≠ p := by omega
      have e2 : b + j ≠ b + p := by omega
      simp only [pk_us, pk_un e1, pk_un e2]
      exact ⟨ptr.nil, hk⟩
    · have e2 : b + j ≠ b + n := by omega
      obtain ⟨a1, a2⟩ := h3 j (by omega)
      by_cases eo : j = p
      · subst eo
        simp only [pk_un e, pk_un e2, pk_us]
        exact ⟨ptr.to (by omega), a2.mono (by omega)⟩
      · have e3 : b + j ≠ b + p := by omega
        simp only [pk_un e, pk_un e2, pk_un eo, pk_un e3]
        exact ⟨a1.mono (by omega), a2.mono (by omega)⟩
  · obtain ⟨⟨o3, r1, r2, r3, r4⟩, r5⟩ := h4 i hi
    have e0 : o3 ≠ n := by omega
    refine ⟨⟨o3, by omega, r2, r3, by rw [pk_un e0]; exact r4⟩, ?_⟩
    by_cases e : i = d
    · subst e
      rw [pk_us, pk_us]
      exact ptr.to (by omega)
    · rw [pk_un e, pk_un e]
      exact r5.mono (by omega)
/-- a list is opened: its node has been added last -/
theorem RD.opd {b n d : Nat} {K V F O P S W C N Q R : Nat → Int32} (h : RD b (n + 1) d K V F O P S W C N Q R) (hd : d < 12) (hk : K n = 2) :
    RD b (n + 1) (d + 1) K V F (upd O d (nI n)) (upd P d (-1)) S W C N (upd Q d (nI (b + n))) (upd R d (-1)) := by
  obtain ⟨h1, h2, h3, h4⟩ := h
  refine ⟨h1, by omega, h3, fun i hi => ?_⟩
  by_cases e : i = d
  · subst e
    simp only [pk_us]
    exact ⟨⟨n, by omega, rfl, rfl, hk⟩, ptr.nil⟩
  · simp only [pk_un e]
    exact h4 i (by omega)
theorem RD.close {b n d : Nat} {K V F O P S W C N Q R : Nat → Int32} (h : RD b n (d + 1) K V F O P S W C N Q R) : RD b n d K V F O P S W C N Q R := by
  obtain ⟨h1, h2, h3, h4⟩ := h
  exact ⟨h1, by omega, h3, fun i hi => h4 i (by omega)⟩
theorem q_addPart {F P O V : Nat → Int32} {i n o : Nat} {post : (Nat → Int32) → (Nat → Int32) → (Nat → Int32) → Prop} (hi : i < 12) (ho : O i = nI o) (ho2 : o < 200) (hl : P i = -1 ∧ post F (upd P i (nI n)) (upd V o (nI n)) ∨ ∃ p, p < 200 ∧ P i = nI p ∧ post (upd F p (nI n)) (upd P i (nI n)) V) : wp_Datum_addPart F P O V (nI i) (nI n) post := by
  have e : (nI i).toNatClampNeg = i := nI_clamp (by omega)
  have vi : vp_in (nI i) 12 := vp_in_nI hi (by decide)
  unfold wp_Datum_addPart
  rw [e, ho, nI_clamp (n := o) (by omega)]
  refine ⟨vi, fun c => ⟨vi, vp_in_nI ho2 (by decide), vi, ?_⟩, fun c => ⟨vi, ?_⟩⟩
  · rcases hl with h | ⟨p, h1, h2, h3⟩
    · exact h.2
    · exact absurd (h2.symm.trans c) (nI_m1 (by omega))
  · rcases hl with h | ⟨p, h1, h2, h3⟩
    · exact absurd h.1 c
    · rw [h2, nI_clamp (n := p) (by omega)]
      exact ⟨vp_in_nI h1 (by decide), vi, h3⟩
/-- what adding a node has changed in the class's tables -/
def NR (n d : Nat) (k v : Int32) (K V F O P K' V' F' P' : Nat → Int32) : Prop :=
  K' n = k ∧ (∀ j, j < n → K' j = K j) ∧ V' n = v ∧ (∀ j, j < n → V' j = V j ∨ (0 < d ∧ O (d - 1) = nI j ∧ V' j = nI n)) ∧ F' n = -1 ∧ (∀ j, j < n → F' j = F j ∨ (0 < d ∧ P (d - 1) = nI j ∧ F' j = nI n)) ∧ (0 < d → P' (d - 1) = nI n) ∧ (∀ i, i + 1 < d → P' i = P i) ∧ (0 < d → (P (d - 1) = -1 ∧ (∀ j, j < n → O (d - 1) = nI j → V' j = nI n) ∧ ∀ j, j < n → F' j = F j) ∨ ∃ p, p < n ∧ P (d - 1) = nI p ∧ F' p = nI n ∧ ∀ j, j < n → V' j = V j)
theorem NR.base {k v : Int32} {K V F O P : Nat → Int32} : NR 0 0 k v K V F O P (upd K 0 k) (upd V 0 v) (upd F 0 (-1)) P :=
  ⟨pk_us, fun j h => absurd h (by omega), pk_us, fun j h => absurd h (by omega), pk_us, fun j h => absurd h (by omega), fun h => absurd h (by omega), fun i h => absurd h (by omega), fun h => absurd h (by omega)⟩
theorem NR.first {n d o : Nat} {k v : Int32} {K V F O P : Nat → Int32} (hon : o < n) (ho : O d = nI o) (hpd : P d = -1) (hn2 : n < 200) : NR n (d + 1) k v K V F O P (upd K n k) (upd (upd V n v) o (nI n)) (upd F n (-1)) (upd P d (nI n)) := by
  refine ⟨pk_us, fun j h => pk_un (by omega), by rw [pk_un (by omega), pk_us], fun j h => ?_, pk_us, fun j h => Or.inl (pk_un (by omega)), fun _ => pk_us, fun i h => pk_un (by omega), fun _ => Or.inl ⟨hpd, fun j hj hj2 => ?_, fun j hj => pk_un (by omega)⟩⟩
  · by_cases e : j = o
    · subst e
      exact Or.inr ⟨by omega, ho, pk_us⟩
    · exact Or.inl (by rw [pk_un e, pk_un (by omega)])
  · have : j = o := (nI_eq (by omega) (by omega)).mp (hj2.symm.trans ho)
    rw [this, pk_us]
theorem NR.further {n d p : Nat} {k v : Int32} {K V F O P : Nat → Int32} (hpn : p < n) (hp : P d = nI p) : NR n (d + 1) k v K V F O P (upd K n k) (upd V n v) (upd (upd F n (-1)) p (nI n)) (upd P d (nI n)) := by
  refine ⟨pk_us, fun j h => pk_un (by omega), pk_us, fun j h => Or.inl (pk_un (by omega)), by rw [pk_un (by omega), pk_us], fun j h => ?_, fun _ => pk_us, fun i h => pk_un (by omega), fun _ => Or.inr ⟨p, hpn, hp, pk_us, fun j hj => pk_un (by omega)⟩⟩
  by_cases e : j = p
  · subst e
    exact Or.inr ⟨by omega, hp, pk_us⟩
  · exact Or.inl (by rw [pk_un e, pk_un (by omega)])
/-- the other half of the reference's tables is left alone -/
def OUTS (b : Nat) (S W C N S' W' C' N' : Nat → Int32) : Prop := ∀ k, (k < b ∨ b + 200 ≤ k) → S' k = S k ∧ W' k = W k ∧ C' k = C k ∧ N' k = N k
theorem OUTS.refl {b : Nat} {S W C N : Nat → Int32} : OUTS b S W C N S W C N := fun _ _ => ⟨rfl, rfl, rfl, rfl⟩
theorem OUTS.trans {b : Nat} {S W C N S' W' C' N' S2 W2 C2 N2 : Nat → Int32} (h : OUTS b S W C N S' W' C' N') (h2 : OUTS b S' W' C' N' S2 W2 C2 N2) : OUTS b S W C N S2 W2 C2 N2 := fun k hk => by
  obtain ⟨a1, a2, a3, a4⟩ := h k hk
  obtain ⟨b1, b2, b3, b4⟩ := h2 k hk
  exact ⟨b1.trans a1, b2.trans a2, b3.trans a3, b4.trans a4⟩
/-- a node is added, or refused, on both sides -/
theorem RD.node {b n d : Nat} {bank : Int32} {K V F O P S W C N Q R : Nat → Int32} {k v w : Int32} (h : RD b n d K V F O P S W C N Q R) (hn : n < 200) (hb : b ≤ 200) (hbk : (200 : Int32) * ((1 : Int32) - bank) = nI b) (hk : ndV b (n + 1) k v k w (-1)) :
    (¬ (d = 0 ∧ 0 < n) ∧ ∃ K' V' F' P' S' W' C' N' R' : Nat → Int32, RD b (n + 1) d K' V' F' O P' S' W' C' N' Q R' ∧ NR n d k v K V F O P K' V' F' P' ∧ OUTS b S W C N S' W' C' N' ∧
      (∀ pc : Int32 → Int32 → (Nat → Int32) → (Nat → Int32) → (Nat → Int32) → (Nat → Int32) → Prop, pc 1 (nI (n + 1)) F' K' P' V' → wp_Datum_addNode (nI n) (nI d) F K P O V k v pc) ∧
      (∀ pm : Int32 → Int32 → (Nat → Int32) → (Nat → Int32) → (Nat → Int32) → (Nat → Int32) → (Nat → Int32) → Prop, pm (nI (b + n)) (nI (n + 1)) C' R' N' S' W' → wp_Model_node bank (nI n) C R N Q S W (nI d) k w pm)) ∨
    ((d = 0 ∧ 0 < n) ∧ (∀ pc : Int32 → Int32 → (Nat → Int32) → (Nat → Int32) → (Nat → Int32) → (Nat → Int32) → Prop, pc 0 (nI n) F K P V → wp_Datum_addNode (nI n) (nI d) F K P O V k v pc) ∧
      (∀ pm : Int32 → Int32 → (Nat → Int32) → (Nat → Int32) → (Nat → Int32) → (Nat → Int32) → (Nat → Int32) → Prop, pm (-1) (nI n) C R N S W → wp_Model_node bank (nI n) C R N Q S W (nI d) k w pm)) := by
  have en : (nI n).toNatClampNeg = n := nI_clamp (by omega)
  have vn : vp_in (nI n) 200 := vp_in_nI hn (by decide)
  have c200 : ¬ (200 : Int32) ≤ nI n := fun c => by
    have := (nI_leI (a := 200) (b := n) (by decide) (by omega)).mp c
    omega
  have eb : nI b + nI n = nI (b + n) := nI_add b n
  have ebn : (nI (b + n)).toNatClampNeg = b + n := nI_clamp (by omega)
  have vbn : vp_in (nI (b + n)) 400 := vp_in_nI (by omega) (by decide)
  cases d with
  | zero =>
    by_cases h0 : 0 < n
    · refine Or.inr ⟨⟨rfl, h0⟩, fun pc hp => ?_, fun pm hp => ?_⟩
      · refine ⟨fun c => absurd c c200, fun _ => ⟨fun _ => ⟨fun c => absurd c (nI_nle h0 (by omega)), fun _ => hp⟩, fun c => absurd rfl c⟩⟩
      · exact ⟨fun _ => ⟨fun c => absurd c (nI_nle h0 (by omega)), fun _ => hp⟩, fun c => absurd rfl c⟩
    · have hz : n = 0 := by omega
      subst hz
      refine Or.inl ⟨fun q => h0 q.2, _, _, _, _, _, _, _, _, _, h.add0 hn hk, NR.base, (fun x hx => ⟨pk_un (by omega), pk_un (by omega), pk_un (by omega), pk_un (by omega)⟩), fun pc hp => ?_, fun pm hp => ?_⟩
      · refine ⟨fun c => absurd c c200, fun _ => ⟨fun _ => ⟨fun _ => ?_, fun c => absurd (by decide) c⟩, fun c => absurd rfl c⟩⟩
        unfold wp_Datum_addNode_J26
        rw [en, nI_1]
        exact ⟨vn, vn, vn, fun _ => hp, fun c => absurd (by decide) c⟩
      · refine ⟨fun _ => ⟨fun _ => ?_, fun c => absurd (by decide) c⟩, fun c => absurd rfl c⟩
        unfold wp_Model_node_J25
        rw [hbk, eb, ebn, nI_1]
        exact ⟨vbn, vbn, vbn, vbn, fun _ => hp, fun c => absurd (by decide) c⟩
  | succ d =>
    obtain ⟨⟨o, q1, q2, q3, q4⟩, q5⟩ := h.2.2.2 d (by omega)
    have hd : d < 12 := by have := h.2.1; omega
    have vd : vp_in (nI d) 12 := vp_in_nI hd (by decide)
    have ed : (nI d).toNatClampNeg = d := nI_clamp (by omega)
    have ne0 : ¬ nI (d + 1) = 0 := nI_ne0 (by omega) (by omega)
    have nle : ¬ nI (d + 1) ≤ 0 := nI_nle (by omega) (by omega)
    rcases q5 with ⟨q6, q7⟩ | ⟨p, q6, q7, q8⟩
    · refine Or.inl ⟨fun q => absurd q.1 (by omega), _, _, _, _, _, _, _, _, _, h.addF hn hk q1 q2, NR.first q1 q2 q6 hn, (fun x hx => ⟨pk_un (by omega), pk_un (by omega), (pk_un (by omega)).trans (pk_un (by omega)), pk_un (by omega)⟩), fun pc hp => ?_, fun pm hp => ?_⟩
      · refine ⟨fun c => absurd c c200, fun _ => ⟨fun c => absurd c ne0, fun _ => ?_⟩⟩
        unfold wp_Datum_addNode_J26
        rw [en, nI_1, nI_pred]
        exact ⟨vn, vn, vn, fun c => absurd c nle, fun _ => q_addPart hd q2 (by omega) (Or.inl ⟨q6, hp⟩)⟩
      · refine ⟨fun c => absurd c ne0, fun _ => ?_⟩
        unfold wp_Model_node_J25
        rw [hbk, eb, ebn, nI_1, nI_pred, ed, q7, q3, nI_clamp (n := b + o) (by omega)]
        exact ⟨vbn, vbn, vbn, vbn, fun c => absurd c nle, fun _ => ⟨vd, fun c => absurd c (by decide), fun _ => ⟨vd, vp_in_nI (by omega) (by decide), vd, hp⟩⟩⟩
    · refine Or.inl ⟨fun q => absurd q.1 (by omega), _, _, _, _, _, _, _, _, _, h.addG hn hk q6 q7, NR.further q6 q7, (fun x hx => ⟨pk_un (by omega), pk_un (by omega), pk_un (by omega), (pk_un (by omega)).trans (pk_un (by omega))⟩), fun pc hp => ?_, fun pm hp => ?_⟩
      · refine ⟨fun c => absurd c c200, fun _ => ⟨fun c => absurd c ne0, fun _ => ?_⟩⟩
        unfold wp_Datum_addNode_J26
        rw [en, nI_1, nI_pred]
        exact ⟨vn, vn, vn, fun c => absurd c nle, fun _ => q_addPart hd q2 (by omega) (Or.inr ⟨p, by omega, q7, hp⟩)⟩
      · refine ⟨fun c => absurd c ne0, fun _ => ?_⟩
        unfold wp_Model_node_J25
        rw [hbk, eb, ebn, nI_1, nI_pred, ed, q8, nI_clamp (n := b + p) (by omega)]
        exact ⟨vbn, vbn, vbn, vbn, fun c => absurd c nle, fun _ => ⟨vd, fun _ => ⟨vd, vp_in_nI (by omega) (by decide), vd, hp⟩, fun c => absurd (nI_pos' (by omega)) c⟩⟩
/-! where each node's characters stand, its list and its depth: cs, ce, pa, dp -/
def clo (d : Nat) (O : Nat → Int32) (j : Nat) : Prop := ∀ i, i < d → O i ≠ nI j
def GI (n d q : Nat) (K V F O P : Nat → Int32) (cs ce pa dp : Nat → Nat) : Prop :=
  (∀ j, j < n → cs j < q ∧ dp j ≤ 12 ∧ (K j = 2 → dp j ≤ 11) ∧ (clo d O j → cs j < ce j ∧ ce j ≤ q)) ∧
  (∀ j, j < n → F j = -1 ∨ ∃ p, p < n ∧ F j = nI p ∧ j < p ∧ clo d O j ∧ ce j ≤ cs p ∧ pa p = pa j ∧ dp p = dp j) ∧
  (∀ j, j < n → K j = 2 → V j = -1 ∨ ∃ p, p < n ∧ V j = nI p ∧ j < p ∧ cs j < cs p ∧ pa p = j ∧ dp p = dp j + 1) ∧
  (∀ p, 0 < p → p < n → pa p < p ∧ dp p = dp (pa p) + 1 ∧ (clo d O (pa p) → clo d O p ∧ ce p < ce (pa p))) ∧
  (∀ i, i < d → ∃ o, o < n ∧ O i = nI o ∧ dp o = i ∧ K o = 2 ∧ ((P i = -1 ∧ i + 1 = d) ∨ ∃ p, p < n ∧ P i = nI p ∧ 0 < p ∧ pa p = o ∧ dp p = i + 1 ∧ (i + 1 < d → O (i + 1) = nI p) ∧ (i + 1 = d → clo d O p))) ∧
  (∀ j, j < n → K j = 1 → ∃ l : List Nat, isNm l ∧ V j = nI (enc 32 l) ∧ ce j = cs j + l.length) ∧
  (∀ j, j < n → K j = 2 → clo d O j → cs j + 2 ≤ ce j)
theorem gh_new (f : Nat → Nat) (n x : Nat) : ∃ g : Nat → Nat, g n = x ∧ ∀ j, j < n → g j = f j := ⟨fun j => if j = n then x else f j, if_pos rfl, fun j hj => if_neg (by omega)⟩
theorem gh_set (f : Nat → Nat) (n x : Nat) : ∃ g : Nat → Nat, g n = x ∧ ∀ j, j ≠ n → g j = f j := ⟨fun j => if j = n then x else f j, if_pos rfl, fun j hj => if_neg hj⟩
theorem GI.mono {n d q e : Nat} {K V F O P : Nat → Int32} {cs ce pa dp : Nat → Nat} (h : GI n d q K V F O P cs ce pa dp) (hq : q ≤ e) : GI n d e K V F O P cs ce pa dp := by
  obtain ⟨A, B, C, D, E, N, G⟩ := h
  refine ⟨fun j hj => ?_, B, C, D, E, N, G⟩
  obtain ⟨a1, a2, a3, a4⟩ := A j hj
  exact ⟨by omega, a2, a3, fun c => by have := a4 c; omega⟩
theorem GI.leaf0 {q e : Nat} {K V F O P : Nat → Int32} (hq : q < e) (hF : F 0 = -1) (hk : K 0 ≠ 2) (hnm : K 0 = 1 → ∃ l : List Nat, isNm l ∧ V 0 = nI (enc 32 l) ∧ e = q + l.length) : GI 1 0 e K V F O P (fun _ => q) (fun _ => e) (fun _ => 0) (fun _ => 0) := by
  refine ⟨fun j hj => ⟨hq, Nat.zero_le _, fun _ => Nat.zero_le _, fun _ => ⟨hq, Nat.le_refl _⟩⟩, fun j hj => ?_, fun j hj k => ?_, fun p h1 h2 => absurd h2 (by omega), fun i hi => absurd hi (by omega), fun j hj k => ?_, fun j hj k _ => ?_⟩
  · have : j = 0 := by omega
    subst this
    exact Or.inl hF
  · have : j = 0 := by omega
    subst this
    exact absurd k hk
  · have : j = 0 := by omega
    subst this
    exact hnm k
  · have : j = 0 := by omega
    subst this
    exact absurd k hk
theorem GI.open0 {q : Nat} {K V F O P : Nat → Int32} (hF : F 0 = -1) (hk : K 0 = 2) (hV : V 0 = -1) (hO : O 0 = nI 0) (hP : P 0 = -1) : GI 1 1 (q + 1) K V F O P (fun _ => q) (fun _ => q) (fun _ => 0) (fun _ => 0) := by
  refine ⟨fun j hj => ⟨Nat.lt_succ_self q, Nat.zero_le _, fun _ => Nat.zero_le _, fun c => ?_⟩, fun j hj => ?_, fun j hj k => ?_, fun p h1 h2 => absurd h2 (by omega), fun i hi => ?_, fun j hj k => ?_, fun j hj k c => ?_⟩
  · have : j = 0 := by omega
    subst this
    exact absurd hO (c 0 (by omega))
  · have : j = 0 := by omega
    subst this
    exact Or.inl hF
  · have : j = 0 := by omega
    subst this
    exact Or.inl hV
  · have : i = 0 := by omega
    subst this
    exact ⟨0, by omega, hO, rfl, hk, Or.inl ⟨hP, rfl⟩⟩
  · have : j = 0 := by omega
    subst this
    rw [hk] at k
    exact absurd k (by decide)
  · have : j = 0 := by omega
    subst this
    exact absurd hO (c 0 (by omega))
theorem GI.leaf {n d q e o : Nat} {K V F O P K' V' F' P' : Nat → Int32} {cs ce pa dp : Nat → Nat} (h : GI n (d + 1) q K V F O P cs ce pa dp) (hn : n < 200) (hd : d + 1 ≤ 12) (hqe : q < e) (ho : O d = nI o) (hon : o < n) (hK : ∀ j, j < n → K' j = K j) (hV : ∀ j, j < n → V' j = V j ∨ (j = o ∧ V' j = nI n)) (hF : ∀ j, j < n → F' j = F j ∨ (P d = nI j ∧ F' j = nI n)) (hFn : F' n = -1) (hP : P' d = nI n) (hP2 : ∀ i, i < d → P' i = P i) (hk : K' n ≠ 2) (hnm : K' n = 1 → ∃ l : List Nat, isNm l ∧ V' n = nI (enc 32 l) ∧ e = q + l.length) : ∃ cs ce pa dp, GI (n + 1) (d + 1) e K' V' F' O P' cs ce pa dp := by
  obtain ⟨A, B, C, D, E, N, G⟩ := h
  obtain ⟨cs', c0, c1⟩ := gh_new cs n q
  obtain ⟨ce', e0, e1⟩ := gh_new ce n e
  obtain ⟨pa', p0, p1⟩ := gh_new pa n o
  obtain ⟨dp', d0, d1⟩ := gh_new dp n (d + 1)
  obtain ⟨o2, o3, o4, o5, o6, o7⟩ := E d (by omega)
  have eo : o2 = o := (nI_eq (by omega) (by omega)).mp (o4.symm.trans ho)
  subst eo
  have hcn : clo (d + 1) O n := fun i hi c => by
    obtain ⟨o', h1, h2, -⟩ := E i hi
    have := (nI_eq (by omega) (by omega)).mp (h2.symm.trans c)
    omega
  refine ⟨cs', ce', pa', dp', fun j hj => ?_, fun j hj => ?_, fun j hj k => ?_, fun p h1 h2 => ?_, fun i hi => ?_, fun j hj k => ?_, fun j hj k c => ?_⟩
  · by_cases ej : j = n
    · subst ej
      rw [c0, e0, d0]
      exact ⟨hqe, hd, fun c => absurd c hk, fun _ => ⟨hqe, Nat.le_refl _⟩⟩
    · have hj : j < n := by omega
      rw [c1 j hj, e1 j hj, d1 j hj, hK j hj]
      obtain ⟨a1, a2, a3, a4⟩ := A j hj
      exact ⟨by omega, a2, a3, fun c => by have := a4 c; omega⟩
  · by_cases ej : j = n
    · subst ej
      exact Or.inl hFn
    · have hj : j < n := by omega
      rcases hF j hj with g | ⟨g1, g2⟩
      · rw [g]
        rcases B j hj with b | ⟨p, b1, b2, b3, b4, b5, b6, b7⟩
        · exact Or.inl b
        · exact Or.inr ⟨p, by omega, b2, b3, b4, by rw [e1 j hj, c1 p b1]; exact b5, by rw [p1 j hj, p1 p b1]; exact b6, by rw [d1 j hj, d1 p b1]; exact b7⟩
      · rcases o7 with ⟨x1, x2⟩ | ⟨p, x1, x2, x3, x4, x5, x6, x7⟩
        · exact absurd (g1.symm.trans x1) (nI_m1 (by omega))
        · have ep : p = j := (nI_eq (by omega) (by omega)).mp (x2.symm.trans g1)
          subst ep
          have cp := x7 rfl
          have := (A p hj).2.2.2 cp
          exact Or.inr ⟨n, by omega, g2, hj, cp, by rw [e1 p hj, c0]; omega, by rw [p0, p1 p hj, x4], by rw [d0, d1 p hj, x5]⟩
  · by_cases ej : j = n
    · subst ej
      exact absurd k hk
    · have hj : j < n := by omega
      rw [hK j hj] at k
      rcases hV j hj with g | ⟨g1, g2⟩
      · rw [g]
        rcases C j hj k with b | ⟨p, b1, b2, b3, b4, b5, b6⟩
        · exact Or.inl b
        · exact Or.inr ⟨p, by omega, b2, b3, by rw [c1 j hj, c1 p b1]; exact b4, by rw [p1 p b1]; exact b5, by rw [d1 j hj, d1 p b1]; exact b6⟩
      · subst g1
        have := (A j hj).1
        exact Or.inr ⟨n, by omega, g2, hj, by rw [c1 j hj, c0]; omega, p0, by rw [d0, d1 j hj, o5]⟩
  · by_cases ep : p = n
    · subst ep
      rw [p0]
      exact ⟨hon, by rw [d0, d1 o2 hon, o5], fun c => absurd ho (c d (by omega))⟩
    · have hp : p < n := by omega
      obtain ⟨x1, x2, x3⟩ := D p h1 hp
      rw [p1 p hp]
      exact ⟨x1, by rw [d1 p hp, d1 (pa p) (by omega)]; exact x2, fun c => by rw [e1 p hp, e1 (pa p) (by omega)]; exact x3 c⟩
  · obtain ⟨o', h1, h2, h3, h4, h5⟩ := E i hi
    refine ⟨o', by omega, h2, by rw [d1 o' h1]; exact h3, by rw [hK o' h1]; exact h4, ?_⟩
    by_cases ei : i = d
    · subst ei
      have : o' = o2 := (nI_eq (by omega) (by omega)).mp (h2.symm.trans ho)
      subst this
      exact Or.inr ⟨n, by omega, hP, by omega, p0, d0, fun c => absurd c (by omega), fun _ => hcn⟩
    · rw [hP2 i (by omega)]
      rcases h5 with x | ⟨p, x1, x2, x3, x4, x5, x6, x7⟩
      · exact Or.inl x
      · exact Or.inr ⟨p, by omega, x2, x3, by rw [p1 p x1]; exact x4, by rw [d1 p x1]; exact x5, x6, x7⟩
  · by_cases ej : j = n
    · subst ej
      obtain ⟨l, l1, l2, l3⟩ := hnm k
      exact ⟨l, l1, l2, by rw [e0, c0]; exact l3⟩
    · have hj : j < n := by omega
      rw [hK j hj] at k
      obtain ⟨l, l1, l2, l3⟩ := N j hj k
      refine ⟨l, l1, ?_, by rw [e1 j hj, c1 j hj]; exact l3⟩
      rcases hV j hj with g | ⟨g1, g2⟩
      · rw [g]; exact l2
      · subst g1
        exact absurd (o6.symm.trans k) (by decide)
  · by_cases ej : j = n
    · subst ej
      exact absurd k hk
    · have hj : j < n := by omega
      rw [hK j hj] at k
      rw [e1 j hj, c1 j hj]
      exact G j hj k c
theorem GI.opn {n d q o : Nat} {K V F O P K' V' F' O' P' : Nat → Int32} {cs ce pa dp : Nat → Nat} (h : GI n (d + 1) q K V F O P cs ce pa dp) (hn : n < 200) (hd : d + 1 < 12) (ho : O d = nI o) (hon : o < n) (hK : ∀ j, j < n → K' j = K j) (hV : ∀ j, j < n → V' j = V j ∨ (j = o ∧ V' j = nI n)) (hF : ∀ j, j < n → F' j = F j ∨ (P d = nI j ∧ F' j = nI n)) (hFn : F' n = -1) (hP : P' d = nI n) (hP2 : ∀ i, i < d → P' i = P i) (hk : K' n = 2) (hVn : V' n = -1) (hO : O' (d + 1) = nI n) (hO2 : ∀ i, i < d + 1 → O' i = O i) (hPn : P' (d + 1) = -1) : ∃ cs ce pa dp, GI (n + 1) (d + 2) (q + 1) K' V' F' O' P' cs ce pa dp := by
  obtain ⟨A, B, C, D, E, N, G⟩ := h
  obtain ⟨cs', c0, c1⟩ := gh_new cs n q
  obtain ⟨pa', p0, p1⟩ := gh_new pa n o
  obtain ⟨dp', d0, d1⟩ := gh_new dp n (d + 1)
  obtain ⟨o2, o3, o4, o5, o6, o7⟩ := E d (by omega)
  have eo : o2 = o := (nI_eq (by omega) (by omega)).mp (o4.symm.trans ho)
  subst eo
  have cl : ∀ j, j < n → (clo (d + 2) O' j ↔ clo (d + 1) O j) := fun j hj => by
    constructor
    · intro c i hi
      rw [← hO2 i hi]
      exact c i (by omega)
    · intro c i hi
      by_cases ei : i = d + 1
      · rw [ei, hO]
        intro x
        have := (nI_eq (by omega) (by omega)).mp x
        omega
      · rw [hO2 i (by omega)]
        exact c i (by omega)
  have cln : ¬ clo (d + 2) O' n := fun c => c (d + 1) (by omega) hO
  refine ⟨cs', ce, pa', dp', fun j hj => ?_, fun j hj => ?_, fun j hj k => ?_, fun p h1 h2 => ?_, fun i hi => ?_, fun j hj k => ?_, fun j hj k c => ?_⟩
  · by_cases ej : j = n
    · subst ej
      rw [c0, d0]
      exact ⟨by omega, by omega, fun _ => by omega, fun c => absurd c cln⟩
    · have hj : j < n := by omega
      rw [c1 j hj, d1 j hj, hK j hj, cl j hj]
      obtain ⟨a1, a2, a3, a4⟩ := A j hj
      exact ⟨by omega, a2, a3, fun c => by have := a4 c; omega⟩
  · by_cases ej : j = n
    · subst ej
      exact Or.inl hFn
    · have hj : j < n := by omega
      rw [cl j hj]
      rcases hF j hj with g | ⟨g1, g2⟩
      · rw [g]
        rcases B j hj with b | ⟨p, b1, b2, b3, b4, b5, b6, b7⟩
        · exact Or.inl b
        · exact Or.inr ⟨p, by omega, b2, b3, b4, by rw [c1 p b1]; exact b5, by rw [p1 j hj, p1 p b1]; exact b6, by rw [d1 j hj, d1 p b1]; exact b7⟩
      · rcases o7 with ⟨x1, x2⟩ | ⟨p, x1, x2, x3, x4, x5, x6, x7⟩
        · exact absurd (g1.symm.trans x1) (nI_m1 (by omega))
        · have ep : p = j := (nI_eq (by omega) (by omega)).mp (x2.symm.trans g1)
          subst ep
          have cp := x7 rfl
          have := (A p hj).2.2.2 cp
          exact Or.inr ⟨n, by omega, g2, hj, cp, by rw [c0]; omega, by rw [p0, p1 p hj, x4], by rw [d0, d1 p hj, x5]⟩
  · by_cases ej : j = n
    · subst ej
      exact Or.inl hVn
    · have hj : j < n := by omega
      rw [hK j hj] at k
      rcases hV j hj with g | ⟨g1, g2⟩
      · rw [g]
        rcases C j hj k with b | ⟨p, b1, b2, b3, b4, b5, b6⟩
        · exact Or.inl b
        · exact Or.inr ⟨p, by omega, b2, b3, by rw [c1 j hj, c1 p b1]; exact b4, by rw [p1 p b1]; exact b5, by rw [d1 j hj, d1 p b1]; exact b6⟩
      · subst g1
        have := (A j hj).1
        exact Or.inr ⟨n, by omega, g2, hj, by rw [c1 j hj, c0]; omega, p0, by rw [d0, d1 j hj, o5]⟩
  · by_cases ep : p = n
    · subst ep
      rw [p0, cl o2 hon]
      exact ⟨hon, by rw [d0, d1 o2 hon, o5], fun c => absurd ho (c d (by omega))⟩
    · have hp : p < n := by omega
      obtain ⟨x1, x2, x3⟩ := D p h1 hp
      rw [p1 p hp, cl (pa p) (by omega), cl p hp]
      exact ⟨x1, by rw [d1 p hp, d1 (pa p) (by omega)]; exact x2, x3⟩
  · by_cases ei : i = d + 1
    · subst ei
      exact ⟨n, by omega, hO, d0, hk, Or.inl ⟨hPn, rfl⟩⟩
    · obtain ⟨o', h1, h2, h3, h4, h5⟩ := E i (by omega)
      refine ⟨o', by omega, by rw [hO2 i (by omega)]; exact h2, by rw [d1 o' h1]; exact h3, by rw [hK o' h1]; exact h4, ?_⟩
      by_cases ei : i = d
      · subst ei
        have : o' = o2 := (nI_eq (by omega) (by omega)).mp (h2.symm.trans ho)
        subst this
        exact Or.inr ⟨n, by omega, hP, by omega, p0, d0, fun _ => hO, fun c => absurd c (by omega)⟩
      · rw [hP2 i (by omega)]
        rcases h5 with x | ⟨p, x1, x2, x3, x4, x5, x6, x7⟩
        · exact absurd x.2 (by omega)
        · exact Or.inr ⟨p, by omega, x2, x3, by rw [p1 p x1]; exact x4, by rw [d1 p x1]; exact x5, fun c => by rw [hO2 (i + 1) (by omega)]; exact x6 (by omega), fun c => absurd c (by omega)⟩
  · by_cases ej : j = n
    · subst ej
      exact absurd (hk.symm.trans k) (by decide)
    · have hj : j < n := by omega
      rw [hK j hj] at k
      obtain ⟨l, l1, l2, l3⟩ := N j hj k
      refine ⟨l, l1, ?_, by rw [c1 j hj]; exact l3⟩
      rcases hV j hj with g | ⟨g1, g2⟩
      · rw [g]; exact l2
      · subst g1
        exact absurd (o6.symm.trans k) (by decide)
  · by_cases ej : j = n
    · subst ej
      exact absurd c cln
    · have hj : j < n := by omega
      rw [hK j hj] at k
      rw [c1 j hj]
      exact G j hj k ((cl j hj).mp c)
theorem GI.close {n d q : Nat} {K V F O P : Nat → Int32} {cs ce pa dp : Nat → Nat} (h : GI n (d + 1) q K V F O P cs ce pa dp) (hn : n ≤ 200) : ∃ ce, GI n d (q + 1) K V F O P cs ce pa dp := by
  obtain ⟨A, B, C, D, E, N, G⟩ := h
  obtain ⟨o, o3, o4, o5, o6, o7⟩ := E d (by omega)
  obtain ⟨ce', e0, e1⟩ := gh_set ce o (q + 1)
  have nco : ¬ clo (d + 1) O o := fun c => c d (by omega) o4
  have up : ∀ j, clo (d + 1) O j → clo d O j := fun j c i hi => c i (by omega)
  have dn : ∀ j, j < n → j ≠ o → clo d O j → clo (d + 1) O j := fun j hj hne c i hi => by
    by_cases ei : i = d
    · rw [ei, o4]
      intro x
      have := (nI_eq (by omega) (by omega)).mp x
      omega
    · exact c i (by omega)
  have clo_o : clo d O o := fun i hi x => by
    obtain ⟨o', h1, h2, h3, -⟩ := E i (by omega)
    have : o' = o := (nI_eq (by omega) (by omega)).mp (h2.symm.trans x)
    subst this
    omega
  refine ⟨ce', fun j hj => ?_, fun j hj => ?_, C, fun p h1 h2 => ?_, fun i hi => ?_, fun j hj k => ?_, fun j hj k c => ?_⟩
  · obtain ⟨a1, a2, a3, a4⟩ := A j hj
    refine ⟨by omega, a2, a3, fun c => ?_⟩
    by_cases ej : j = o
    · subst ej
      rw [e0]
      omega
    · rw [e1 j ej]
      have := a4 (dn j hj ej c)
      omega
  · rcases B j hj with b | ⟨p, b1, b2, b3, b4, b5, b6, b7⟩
    · exact Or.inl b
    · have ej : j ≠ o := fun e => by subst e; exact nco b4
      exact Or.inr ⟨p, b1, b2, b3, up j b4, by rw [e1 j ej]; exact b5, b6, b7⟩
  · obtain ⟨x1, x2, x3⟩ := D p h1 h2
    refine ⟨x1, x2, fun c => ?_⟩
    by_cases ep : pa p = o
    · have cp : clo (d + 1) O p := fun i hi x => by
        obtain ⟨o', g1, g2, g3, -⟩ := E i hi
        have : o' = p := (nI_eq (by omega) (by omega)).mp (g2.symm.trans x)
        subst this
        rw [ep, o5] at x2
        omega
      have ne : p ≠ o := fun e => by subst e; exact nco cp
      have := (A p h2).2.2.2 cp
      rw [ep, e0, e1 p ne]
      exact ⟨up p cp, by omega⟩
    · obtain ⟨y1, y2⟩ := x3 (dn (pa p) (by omega) ep c)
      have ne : p ≠ o := fun e => by subst e; exact nco y1
      rw [e1 p ne, e1 (pa p) ep]
      exact ⟨up p y1, y2⟩
  · obtain ⟨o', h1, h2, h3, h4, h5⟩ := E i (by omega)
    refine ⟨o', h1, h2, h3, h4, ?_⟩
    rcases h5 with x | ⟨p, x1, x2, x3, x4, x5, x6, x7⟩
    · exact absurd x.2 (by omega)
    · refine Or.inr ⟨p, x1, x2, x3, x4, x5, fun c => x6 (by omega), fun c => ?_⟩
      have y := x6 (by omega)
      rw [c] at y
      have : p = o := (nI_eq (by omega) (by omega)).mp (y.symm.trans o4)
      rw [this]
      exact clo_o
  · obtain ⟨l, l1, l2, l3⟩ := N j hj k
    have ej : j ≠ o := fun e => by subst e; exact absurd (o6.symm.trans k) (by decide)
    exact ⟨l, l1, l2, by rw [e1 j ej]; exact l3⟩
  · by_cases ej : j = o
    · subst ej
      have := (A j hj).1
      rw [e0]
      omega
    · rw [e1 j ej]
      exact G j hj k (dn j hj ej c)
/-! the nodes of a list stand one behind the other: en is the first index behind a node's own -/
def EI (n d : Nat) (K V F O P : Nat → Int32) (en pe : Nat → Nat) : Prop :=
  (∀ j, j < n → (K j ≠ 2 → en j = j + 1) ∧ (F j = -1 ∨ (F j = nI (en j) ∧ en j < n ∧ pe (en j) = pe j)) ∧ (K j = 2 → V j = -1 ∨ (V j = nI (j + 1) ∧ j + 1 < n ∧ pe (j + 1) = j)) ∧ (K j = 2 → clo d O j → V j = -1 → en j = j + 1)) ∧
  (∀ j, 0 < j → j < n → F j = -1 → (clo d O (pe j) → en j = en (pe j)) ∧ ∀ i, i < d → O i = nI (pe j) → P i = nI j) ∧
  (∀ i, i < d → ∃ o, o < n ∧ O i = nI o ∧ K o = 2 ∧ F o = -1 ∧ ((P i = -1 ∧ i + 1 = d ∧ V o = -1 ∧ n = o + 1) ∨ ∃ p, 0 < p ∧ p < n ∧ P i = nI p ∧ F p = -1 ∧ pe p = o ∧ ¬ V o = -1 ∧ (i + 1 = d → en p = n) ∧ (i + 1 < d → O (i + 1) = nI p))) ∧
  (∀ i i' a c, i < i' → i' < d → O i = nI a → O i' = nI c → a < 200 → c < 200 → a < c) ∧ (∀ j, 0 < j → j < n → pe j < j) ∧ (0 < d → O 0 = nI 0)
theorem EI.one {K V F O P : Nat → Int32} (hK : K 0 ≠ 2) (hF : F 0 = -1) : EI 1 0 K V F O P (fun _ => 1) (fun _ => 0) :=
  ⟨fun j hj => ⟨fun _ => by show 1 = j + 1; omega, Or.inl (by rw [show j = 0 by omega]; exact hF), fun z => absurd (by rw [show j = 0 by omega] at z; exact z) hK, fun z => absurd (by rw [show j = 0 by omega] at z; exact z) hK⟩, fun j h1 h2 => absurd h2 (by omega), fun i hi => absurd hi (by omega), fun i i' a c _ hi => absurd hi (by omega), fun j h1 h2 => absurd h2 (by omega), fun z => absurd z (by omega)⟩
theorem EI.one' {K V F O P : Nat → Int32} (hK : K 0 = 2) (hV : V 0 = -1) (hF : F 0 = -1) (hO : O 0 = nI 0) (hP : P 0 = -1) : EI 1 1 K V F O P (fun _ => 1) (fun _ => 0) :=
  ⟨fun j hj => ⟨fun _ => by show 1 = j + 1; omega, Or.inl (by rw [show j = 0 by omega]; exact hF), fun _ => Or.inl (by rw [show j = 0 by omega]; exact hV), fun _ _ _ => by show 1 = j + 1; omega⟩, fun j h1 h2 => absurd h2 (by omega), fun i hi => ⟨0, by omega, by rw [show i = 0 by omega]; exact hO, hK, hF, Or.inl ⟨by rw [show i = 0 by omega]; exact hP, by omega, hV, rfl⟩⟩, fun i i' a c hi hi' => absurd hi' (by omega), fun j h1 h2 => absurd h2 (by omega), fun _ => hO⟩
theorem EI.close {n d : Nat} {K V F O P : Nat → Int32} {en pe : Nat → Nat} (h : EI n (d + 1) K V F O P en pe) (hn : n ≤ 200) : ∃ en' pe', EI n d K V F O P en' pe' := by
  obtain ⟨A, B, C, D, E, Z⟩ := h
  obtain ⟨o, o1, o2, o3, o3b, o4⟩ := C d (by omega)
  have eqn : ∀ {a c : Nat}, a < 200 → c < 200 → nI a = nI c → a = c := fun ha hc z => (nI_eq (by omega) (by omega)).mp z
  have cl : ∀ j, j < n → clo d O j → j ≠ o → clo (d + 1) O j := fun j hj hc hne i hi => by
    by_cases e : i = d
    · subst e
      rw [o2]
      exact fun z => hne (eqn (by omega) (by omega) z).symm
    · exact hc i (by omega)
  refine ⟨fun j => if j = o then n else en j, pe, fun j hj => ?_, fun j h1 h2 h3 => ?_, fun i hi => ?_, fun i i' a c h1 h2 => D i i' a c h1 (by omega), E, fun z => Z (by omega)⟩
  · obtain ⟨a1, a2, a3, a4⟩ := A j hj
    by_cases e : j = o
    · subst e
      simp only [if_pos]
      refine ⟨fun z => absurd o3 z, Or.inl o3b, a3, fun _ _ hv => ?_⟩
      rcases o4 with ⟨p1, p2, p3, p4⟩ | ⟨p, p0, p1, p2, p3, p4, p5, p6, p7⟩
      · exact p4
      · exact absurd hv p5
    · simp only [if_neg e]
      exact ⟨a1, a2, a3, fun hk hc hv => a4 hk (cl j hj hc e) hv⟩
  · obtain ⟨b1, b2⟩ := B j h1 h2 h3
    have e2 := E j h1 h2
    refine ⟨fun hc => ?_, fun i hi => b2 i (by omega)⟩
    by_cases ep : pe j = o
    · have hP := b2 d (by omega) (by rw [ep]; exact o2)
      rcases o4 with ⟨p1, -⟩ | ⟨p, p0, p1, p2, p3, p4, p5, p6, p7⟩
      · exact absurd (hP.symm.trans p1) (nI_m1 (by omega))
      · have : j = p := eqn (by omega) (by omega) (hP.symm.trans p2)
        subst this
        simp only [if_pos ep, if_neg (show ¬ j = o by omega)]
        exact p6 rfl
    · by_cases ej : j = o
      · exfalso
        subst ej
        cases d with
        | zero => exact absurd (eqn (by omega) (by omega) ((Z (by omega)).symm.trans o2)) (by omega)
        | succ d =>
          obtain ⟨a, q1, q2, q3, q3b, q4⟩ := C d (by omega)
          rcases q4 with ⟨p1, p2, -⟩ | ⟨p, p0, p1, p2, p3, p4, p5, p6, p7⟩
          · exact absurd p2 (by omega)
          · have : p = j := eqn (by omega) (by omega) ((p7 (by omega)).symm.trans o2)
            subst this
            rw [p4] at hc
            exact hc d (by omega) q2
      · simp only [if_neg ep, if_neg ej]
        exact b1 (cl _ (by omega) hc ep)
  · obtain ⟨a, q1, q2, q3, q3b, q4⟩ := C i (by omega)
    refine ⟨a, q1, q2, q3, q3b, ?_⟩
    rcases q4 with ⟨p1, p2, -⟩ | ⟨p, p0, p1, p2, p3, p4, p5, p6, p7⟩
    · exact absurd p2 (by omega)
    · refine Or.inr ⟨p, p0, p1, p2, p3, p4, p5, fun z => ?_, fun z => p7 (by omega)⟩
      have : O d = nI p := by rw [← z]; exact p7 (by omega)
      rw [eqn (by omega) (by omega) (this.symm.trans o2)]
      exact if_pos rfl
theorem EI.leaf {n d : Nat} {k v : Int32} {K V F O P K' V' F' P' : Nat → Int32} {en pe : Nat → Nat} (h : EI n (d + 1) K V F O P en pe) (hn : n < 200) (hr : NR n (d + 1) k v K V F O P K' V' F' P') (hk : k ≠ 2) : ∃ en' pe', EI (n + 1) (d + 1) K' V' F' O P' en' pe' := by
  obtain ⟨A, B, C, D, E, Z⟩ := h
  obtain ⟨r1, r2, r3, r4, r5, r6, r7, r8, r9⟩ := hr
  obtain ⟨o, o1, o2, o3, o3b, o4⟩ := C d (by omega)
  have r7' : P' d = nI n := r7 (by omega)
  have r8' : ∀ i, i < d → P' i = P i := fun i hi => r8 i (by omega)
  have eqn : ∀ {a c : Nat}, a < 200 → c < 200 → nI a = nI c → a = c := fun ha hc z => (nI_eq (by omega) (by omega)).mp z
  have dist : ∀ i, i < d + 1 → O i = nI o → i = d := fun i hi e => by
    by_cases c : i = d
    · exact c
    · obtain ⟨a, a1, a2, -⟩ := C i hi
      have := D i d a o (by omega) (by omega) a2 o2 (by omega) (by omega)
      have := eqn (by omega) (by omega) (a2.symm.trans e)
      omega
  have nclo : ∀ c, O d = nI c → ¬ clo (d + 1) O c := fun c e z => z d (by omega) e
  -- how the tables change
  have ch : (n = o + 1 ∧ V o = -1 ∧ P d = -1 ∧ V' o = nI n ∧ (∀ j, j < n → j ≠ o → V' j = V j) ∧ ∀ j, j < n → F' j = F j) ∨ (∃ p, 0 < p ∧ p < n ∧ o < p ∧ P d = nI p ∧ F p = -1 ∧ pe p = o ∧ en p = n ∧ ¬ V o = -1 ∧ F' p = nI n ∧ (∀ j, j < n → j ≠ p → F' j = F j) ∧ ∀ j, j < n → V' j = V j) := by
    rcases r9 (by omega) with ⟨z1, z2, z3⟩ | ⟨p, z1, z2, z3, z4⟩
    · left
      have z1' : P d = -1 := z1
      rcases o4 with ⟨p1, p2, p3, p4⟩ | ⟨p, p0, p1, p2, -⟩
      · refine ⟨p4, p3, z1', z2 o o1 o2, fun j hj hne => ?_, z3⟩
        rcases r4 j hj with y | ⟨-, y, -⟩
        · exact y
        · exact absurd (eqn (by omega) (by omega) (y.symm.trans o2)) hne
      · exact absurd (p2.symm.trans z1') (nI_m1 (by omega))
    · right
      have z2' : P d = nI p := z2
      rcases o4 with ⟨p1, -⟩ | ⟨p', p0, p1, p2, p3, p4, p5, p6, p7⟩
      · exact absurd (z2'.symm.trans p1) (nI_m1 (by omega))
      · have : p = p' := eqn (by omega) (by omega) (z2'.symm.trans p2)
        subst this
        refine ⟨p, p0, z1, by rw [← p4]; exact E p p0 z1, z2', p3, p4, p6 rfl, p5, z3, fun j hj hne => ?_, z4⟩
        rcases r6 j hj with y | ⟨-, y, -⟩
        · exact y
        · exact absurd (eqn (by omega) (by omega) (y.symm.trans z2')) hne
  have vo : ¬ V' o = -1 := by
    rcases ch with ⟨c1, c2, c3, c4, -⟩ | ⟨p, c0, c1, c2, c3, c4, c5, c6, c7, c8, c9, c10⟩
    · rw [c4]; exact nI_m1 (by omega)
    · rw [c10 o o1]; exact c7
  have vk : ∀ j, j < n → ¬ V j = -1 → ¬ V' j = -1 := fun j hj hv => by
    by_cases e : j = o
    · rw [e]; exact vo
    · rcases ch with ⟨c1, c2, c3, c4, c5, -⟩ | ⟨p, c0, c1, c2, c3, c4, c5, c6, c7, c8, c9, c10⟩
      · rw [c5 j hj e]; exact hv
      · rw [c10 j hj]; exact hv
  have fk : ∀ j, j ≤ o → F j = -1 → F' j = -1 := fun j hj hf => by
    rcases ch with ⟨c1, c2, c3, c4, c5, c6⟩ | ⟨p, c0, c1, c2, c3, c4, c5, c6, c7, c8, c9, c10⟩
    · rw [c6 j (by omega)]; exact hf
    · rw [c9 j (by omega) (by omega)]; exact hf
  have le : ∀ i a, i < d + 1 → O i = nI a → a < n → a ≤ o := fun i a hi e ha => by
    by_cases c : i = d
    · subst c
      rw [eqn (by omega) (by omega) (e.symm.trans o2)]
      omega
    · have := D i d a o (by omega) (by omega) e o2 (by omega) (by omega)
      omega
  refine ⟨fun j => if j = n then n + 1 else en j, fun j => if j = n then o else pe j, fun j hj => ?_, fun j h1 h2 h3 => ?_, fun i hi => ?_, ?_, fun j h1 h2 => ?_, fun _ => Z (by omega)⟩
  · by_cases e : j = n
    · subst e
      simp only [if_pos]
      exact ⟨fun _ => trivial, Or.inl r5, fun z => absurd (r1.symm.trans z) hk, fun z => absurd (r1.symm.trans z) hk⟩
    · obtain ⟨a1, a2, a3, a4⟩ := A j (by omega)
      simp only [if_neg e]
      rw [r2 j (by omega)]
      refine ⟨a1, ?_, fun hk => ?_, fun hk hc hv => ?_⟩
      · rcases ch with ⟨c1, c2, c3, c4, c5, c6⟩ | ⟨p, c0, c1, c2, c3, c4, c5, c6, c7, c8, c9, c10⟩
        · rw [c6 j (by omega)]
          rcases a2 with y | ⟨y1, y2, y3⟩
          · exact Or.inl y
          · exact Or.inr ⟨y1, by omega, by rw [if_neg (by omega)]; exact y3⟩
        · by_cases ep : j = p
          · subst ep
            right
            refine ⟨by rw [c8, c6], by omega, ?_⟩
            rw [c6, if_pos rfl, c5]
          · rw [c9 j (by omega) ep]
            rcases a2 with y | ⟨y1, y2, y3⟩
            · exact Or.inl y
            · exact Or.inr ⟨y1, by omega, by rw [if_neg (by omega)]; exact y3⟩
      · rcases ch with ⟨c1, c2, c3, c4, c5, c6⟩ | ⟨p, c0, c1, c2, c3, c4, c5, c6, c7, c8, c9, c10⟩
        · by_cases eo : j = o
          · subst eo
            right
            exact ⟨by rw [c4, c1], by omega, by rw [if_pos (by omega)]⟩
          · rw [c5 j (by omega) eo]
            rcases a3 hk with y | ⟨y1, y2, y3⟩
            · exact Or.inl y
            · exact Or.inr ⟨y1, by omega, by rw [if_neg (by omega)]; exact y3⟩
        · rw [c10 j (by omega)]
          rcases a3 hk with y | ⟨y1, y2, y3⟩
          · exact Or.inl y
          · exact Or.inr ⟨y1, by omega, by rw [if_neg (by omega)]; exact y3⟩
      · refine a4 hk hc ?_
        by_cases y : V j = -1
        · exact y
        · exact absurd hv (vk j (by omega) y)
  · by_cases e : j = n
    · subst e
      simp only [if_pos]
      refine ⟨fun z => absurd z (nclo o o2), fun i hi ei => ?_⟩
      rw [dist i hi ei]
      exact r7'
    · have e2 : pe j < j := E j h1 (by omega)
      simp only [if_neg e, if_neg (show ¬ pe j = n by omega)]
      have fj : F j = -1 := by
        rcases ch with ⟨c1, c2, c3, c4, c5, c6⟩ | ⟨p, c0, c1, c2, c3, c4, c5, c6, c7, c8, c9, c10⟩
        · rw [← c6 j (by omega)]; exact h3
        · by_cases ep : j = p
          · rw [ep]; exact c4
          · rw [← c9 j (by omega) ep]; exact h3
      have nP : ¬ P d = nI j := fun z => by
        rcases ch with ⟨c1, c2, c3, -⟩ | ⟨p, c0, c1, c2, c3, c4, c5, c6, c7, c8, c9, c10⟩
        · exact absurd (z.symm.trans c3) (nI_m1 (by omega))
        · have : j = p := eqn (by omega) (by omega) (z.symm.trans c3)
          subst this
          exact absurd (c8.symm.trans h3) (nI_m1 (by omega))
      obtain ⟨b1, b2⟩ := B j h1 (by omega) fj
      refine ⟨fun z => b1 z, fun i hi ei => ?_⟩
      by_cases ed : i = d
      · subst ed
        exact absurd (b2 i hi ei) nP
      · rw [r8' i (by omega)]
        exact b2 i hi ei
  · by_cases ed : i = d
    · subst ed
      exact ⟨o, by omega, o2, by rw [r2 o o1]; exact o3, fk o (Nat.le_refl _) o3b, Or.inr ⟨n, by omega, by omega, r7', r5, if_pos rfl, vo, fun _ => if_pos rfl, fun z => absurd z (by omega)⟩⟩
    · obtain ⟨a, a1, a2, a3, a3b, a4⟩ := C i hi
      have la := le i a hi a2 a1
      refine ⟨a, by omega, a2, by rw [r2 a a1]; exact a3, fk a la a3b, ?_⟩
      rcases a4 with ⟨p1, p2, -⟩ | ⟨p, p0, p1, p2, p3, p4, p5, p6, p7⟩
      · exact absurd p2 (by omega)
      · have lp := le (i + 1) p (by omega) (p7 (by omega)) p1
        exact Or.inr ⟨p, p0, by omega, by rw [r8' i (by omega)]; exact p2, fk p lp p3, (if_neg (by omega)).trans p4, vk a a1 p5, fun z => absurd z (by omega), p7⟩
  · exact D
  · by_cases e : j = n
    · subst e
      simp only [if_pos]
      omega
    · simp only [if_neg e]
      exact E j h1 (by omega)
theorem EI.opn {n d : Nat} {k v : Int32} {K V F O P K' V' F' P' : Nat → Int32} {en pe : Nat → Nat} (h : EI n (d + 1) K V F O P en pe) (hn : n < 200) (hr : NR n (d + 1) k v K V F O P K' V' F' P') (hk : k = 2) (hv : v = -1) : ∃ en' pe', EI (n + 1) (d + 2) K' V' F' (upd O (d + 1) (nI n)) (upd P' (d + 1) (-1)) en' pe' := by
  obtain ⟨A, B, C, D, E, Z⟩ := h
  obtain ⟨r1, r2, r3, r4, r5, r6, r7, r8, r9⟩ := hr
  obtain ⟨o, o1, o2, o3, o3b, o4⟩ := C d (by omega)
  have r7' : P' d = nI n := r7 (by omega)
  have r8' : ∀ i, i < d → P' i = P i := fun i hi => r8 i (by omega)
  have eqn : ∀ {a c : Nat}, a < 200 → c < 200 → nI a = nI c → a = c := fun ha hc z => (nI_eq (by omega) (by omega)).mp z
  have dist : ∀ i, i < d + 1 → O i = nI o → i = d := fun i hi e => by
    by_cases c : i = d
    · exact c
    · obtain ⟨a, a1, a2, -⟩ := C i hi
      have := D i d a o (by omega) (by omega) a2 o2 (by omega) (by omega)
      have := eqn (by omega) (by omega) (a2.symm.trans e)
      omega
  have nclo : ∀ c, O d = nI c → ¬ clo (d + 1) O c := fun c e z => z d (by omega) e
  have clo2 : ∀ c, clo (d + 2) (upd O (d + 1) (nI n)) c → clo (d + 1) O c := fun c z i hi => by
    have := z i (by omega)
    rw [pk_un (by omega)] at this
    exact this
  -- how the tables change
  have ch : (n = o + 1 ∧ V o = -1 ∧ P d = -1 ∧ V' o = nI n ∧ (∀ j, j < n → j ≠ o → V' j = V j) ∧ ∀ j, j < n → F' j = F j) ∨ (∃ p, 0 < p ∧ p < n ∧ o < p ∧ P d = nI p ∧ F p = -1 ∧ pe p = o ∧ en p = n ∧ ¬ V o = -1 ∧ F' p = nI n ∧ (∀ j, j < n → j ≠ p → F' j = F j) ∧ ∀ j, j < n → V' j = V j) := by
    rcases r9 (by omega) with ⟨z1, z2, z3⟩ | ⟨p, z1, z2, z3, z4⟩
    · left
      have z1' : P d = -1 := z1
      rcases o4 with ⟨p1, p2, p3, p4⟩ | ⟨p, p0, p1, p2, -⟩
      · refine ⟨p4, p3, z1', z2 o o1 o2, fun j hj hne => ?_, z3⟩
        rcases r4 j hj with y | ⟨-, y, -⟩
        · exact y
        · exact absurd (eqn (by omega) (by omega) (y.symm.trans o2)) hne
      · exact absurd (p2.symm.trans z1') (nI_m1 (by omega))
    · right
      have z2' : P d = nI p := z2
      rcases o4 with ⟨p1, -⟩ | ⟨p', p0, p1, p2, p3, p4, p5, p6, p7⟩
      · exact absurd (z2'.symm.trans p1) (nI_m1 (by omega))
      · have : p = p' := eqn (by omega) (by omega) (z2'.symm.trans p2)
        subst this
        refine ⟨p, p0, z1, by rw [← p4]; exact E p p0 z1, z2', p3, p4, p6 rfl, p5, z3, fun j hj hne => ?_, z4⟩
        rcases r6 j hj with y | ⟨-, y, -⟩
        · exact y
        · exact absurd (eqn (by omega) (by omega) (y.symm.trans z2')) hne
  have vo : ¬ V' o = -1 := by
    rcases ch with ⟨c1, c2, c3, c4, -⟩ | ⟨p, c0, c1, c2, c3, c4, c5, c6, c7, c8, c9, c10⟩
    · rw [c4]; exact nI_m1 (by omega)
    · rw [c10 o o1]; exact c7
  have vk : ∀ j, j < n → ¬ V j = -1 → ¬ V' j = -1 := fun j hj hv => by
    by_cases e : j = o
    · rw [e]; exact vo
    · rcases ch with ⟨c1, c2, c3, c4, c5, -⟩ | ⟨p, c0, c1, c2, c3, c4, c5, c6, c7, c8, c9, c10⟩
      · rw [c5 j hj e]; exact hv
      · rw [c10 j hj]; exact hv
  have fk : ∀ j, j ≤ o → F j = -1 → F' j = -1 := fun j hj hf => by
    rcases ch with ⟨c1, c2, c3, c4, c5, c6⟩ | ⟨p, c0, c1, c2, c3, c4, c5, c6, c7, c8, c9, c10⟩
    · rw [c6 j (by omega)]; exact hf
    · rw [c9 j (by omega) (by omega)]; exact hf
  have le : ∀ i a, i < d + 1 → O i = nI a → a < n → a ≤ o := fun i a hi e ha => by
    by_cases c : i = d
    · subst c
      rw [eqn (by omega) (by omega) (e.symm.trans o2)]
      omega
    · have := D i d a o (by omega) (by omega) e o2 (by omega) (by omega)
      omega
  refine ⟨fun j => if j = n then n + 1 else en j, fun j => if j = n then o else pe j, fun j hj => ?_, fun j h1 h2 h3 => ?_, fun i hi => ?_, ?_, fun j h1 h2 => ?_, fun _ => by rw [pk_un (by omega)]; exact Z (by omega)⟩
  · by_cases e : j = n
    · subst e
      simp only [if_pos]
      refine ⟨fun _ => trivial, Or.inl r5, fun _ => Or.inl (r3.trans hv), fun _ z => absurd pk_us (z (d + 1) (by omega))⟩
    · obtain ⟨a1, a2, a3, a4⟩ := A j (by omega)
      simp only [if_neg e]
      rw [r2 j (by omega)]
      refine ⟨a1, ?_, fun hk => ?_, fun hk hc hv => ?_⟩
      · rcases ch with ⟨c1, c2, c3, c4, c5, c6⟩ | ⟨p, c0, c1, c2, c3, c4, c5, c6, c7, c8, c9, c10⟩
        · rw [c6 j (by omega)]
          rcases a2 with y | ⟨y1, y2, y3⟩
          · exact Or.inl y
          · exact Or.inr ⟨y1, by omega, by rw [if_neg (by omega)]; exact y3⟩
        · by_cases ep : j = p
          · subst ep
            right
            refine ⟨by rw [c8, c6], by omega, ?_⟩
            rw [c6, if_pos rfl, c5]
          · rw [c9 j (by omega) ep]
            rcases a2 with y | ⟨y1, y2, y3⟩
            · exact Or.inl y
            · exact Or.inr ⟨y1, by omega, by rw [if_neg (by omega)]; exact y3⟩
      · rcases ch with ⟨c1, c2, c3, c4, c5, c6⟩ | ⟨p, c0, c1, c2, c3, c4, c5, c6, c7, c8, c9, c10⟩
        · by_cases eo : j = o
          · subst eo
            right
            exact ⟨by rw [c4, c1], by omega, by rw [if_pos (by omega)]⟩
          · rw [c5 j (by omega) eo]
            rcases a3 hk with y | ⟨y1, y2, y3⟩
            · exact Or.inl y
            · exact Or.inr ⟨y1, by omega, by rw [if_neg (by omega)]; exact y3⟩
        · rw [c10 j (by omega)]
          rcases a3 hk with y | ⟨y1, y2, y3⟩
          · exact Or.inl y
          · exact Or.inr ⟨y1, by omega, by rw [if_neg (by omega)]; exact y3⟩
      · refine a4 hk (clo2 j hc) ?_
        by_cases y : V j = -1
        · exact y
        · exact absurd hv (vk j (by omega) y)
  · by_cases e : j = n
    · subst e
      simp only [if_pos]
      refine ⟨fun z => absurd (clo2 o z) (nclo o o2), fun i hi ei => ?_⟩
      by_cases e1 : i = d + 1
      · rw [e1, pk_us] at ei
        exact absurd (eqn (by omega) (by omega) ei) (by omega)
      · rw [pk_un e1] at ei ⊢
        rw [dist i (by omega) ei]
        exact r7'
    · have e2 : pe j < j := E j h1 (by omega)
      simp only [if_neg e, if_neg (show ¬ pe j = n by omega)]
      have fj : F j = -1 := by
        rcases ch with ⟨c1, c2, c3, c4, c5, c6⟩ | ⟨p, c0, c1, c2, c3, c4, c5, c6, c7, c8, c9, c10⟩
        · rw [← c6 j (by omega)]; exact h3
        · by_cases ep : j = p
          · rw [ep]; exact c4
          · rw [← c9 j (by omega) ep]; exact h3
      have nP : ¬ P d = nI j := fun z => by
        rcases ch with ⟨c1, c2, c3, -⟩ | ⟨p, c0, c1, c2, c3, c4, c5, c6, c7, c8, c9, c10⟩
        · exact absurd (z.symm.trans c3) (nI_m1 (by omega))
        · have : j = p := eqn (by omega) (by omega) (z.symm.trans c3)
          subst this
          exact absurd (c8.symm.trans h3) (nI_m1 (by omega))
      obtain ⟨b1, b2⟩ := B j h1 (by omega) fj
      refine ⟨fun z => b1 (clo2 _ z), fun i hi ei => ?_⟩
      by_cases e1 : i = d + 1
      · rw [e1, pk_us] at ei
        exact absurd (eqn (by omega) (by omega) ei) (by omega)
      · rw [pk_un e1] at ei ⊢
        by_cases ed : i = d
        · subst ed
          exact absurd (b2 i (by omega) ei) nP
        · rw [r8' i (by omega)]
          exact b2 i (by omega) ei
  · by_cases e1 : i = d + 1
    · subst e1
      exact ⟨n, by omega, pk_us, r1.trans hk, r5, Or.inl ⟨pk_us, rfl, r3.trans hv, rfl⟩⟩
    · rw [pk_un e1, pk_un e1]
      by_cases ed : i = d
      · subst ed
        exact ⟨o, by omega, o2, by rw [r2 o o1]; exact o3, fk o (Nat.le_refl _) o3b, Or.inr ⟨n, by omega, by omega, r7', r5, if_pos rfl, vo, fun z => absurd z (by omega), fun _ => pk_us⟩⟩
      · obtain ⟨a, a1, a2, a3, a3b, a4⟩ := C i (by omega)
        have la := le i a (by omega) a2 a1
        refine ⟨a, by omega, a2, by rw [r2 a a1]; exact a3, fk a la a3b, ?_⟩
        rcases a4 with ⟨p1, p2, -⟩ | ⟨p, p0, p1, p2, p3, p4, p5, p6, p7⟩
        · exact absurd p2 (by omega)
        · have lp := le (i + 1) p (by omega) (p7 (by omega)) p1
          exact Or.inr ⟨p, p0, by omega, by rw [r8' i (by omega)]; exact p2, fk p lp p3, (if_neg (by omega)).trans p4, vk a a1 p5, fun z => absurd z (by omega), fun _ => by rw [pk_un (by omega)]; exact p7 (by omega)⟩
  · intro i i' a c h1 h2 h3 h4 ha hc
    by_cases e1 : i' = d + 1
    · rw [e1, pk_us] at h4
      rw [pk_un (by omega)] at h3
      obtain ⟨x, x1, x2, -⟩ := C i (by omega)
      have := eqn (by omega) (by omega) (h3.symm.trans x2)
      have := eqn (by omega) (by omega) h4
      omega
    · rw [pk_un (by omega)] at h3 h4
      exact D i i' a c h1 (by omega) h3 h4 ha hc
  · by_cases e : j = n
    · subst e
      simp only [if_pos]
      omega
    · simp only [if_neg e]
      exact E j h1 (by omega)
/-- the tables of both, and where their characters stand -/
def RX (b n d q : Nat) (K V F O P S W C N Q R : Nat → Int32) : Prop := RD b n d K V F O P S W C N Q R ∧ ∃ cs ce pa dp : Nat → Nat, GI n d q K V F O P cs ce pa dp ∧ (n = 0 ∨ ∃ en pe : Nat → Nat, EI n d K V F O P en pe)
section RX
variable {b n d q e : Nat} {K V F O P S W C N Q R K' V' F' P' S' W' C' N' R' : Nat → Int32} {k v : Int32}
theorem RX.nil : RX b 0 0 0 K V F O P S W C N Q R :=
  ⟨RD.nil, fun _ => 0, fun _ => 0, fun _ => 0, fun _ => 0, ⟨fun j h => absurd h (by omega), fun j h => absurd h (by omega), fun j h => absurd h (by omega), fun p _ h => absurd h (by omega), fun i h => absurd h (by omega), fun j h => absurd h (by omega), fun j h => absurd h (by omega)⟩, Or.inl rfl⟩
theorem RX.blank (h : RX b n d q K V F O P S W C N Q R) : RX b n d (q + 1) K V F O P S W C N Q R := by
  obtain ⟨h, cs, ce, pa, dp, g, hE⟩ := h
  exact ⟨h, cs, ce, pa, dp, g.mono (by omega), hE⟩
theorem RX.close (h : RX b n (d + 1) q K V F O P S W C N Q R) : RX b n d (q + 1) K V F O P S W C N Q R := by
  obtain ⟨h, cs, ce, pa, dp, g, hE⟩ := h
  obtain ⟨ce', g⟩ := g.close h.1
  refine ⟨h.close, cs, ce', pa, dp, g, ?_⟩
  rcases hE with z | ⟨en, pe, z⟩
  · exact Or.inl z
  · exact Or.inr (z.close h.1)
theorem RX.leaf (h : RX b n d q K V F O P S W C N Q R) (hr : NR n d k v K V F O P K' V' F' P') (hR : RD b (n + 1) d K' V' F' O P' S' W' C' N' Q R') (hn : n < 200) (hqe : q < e) (hk : k ≠ 2) (hnm : k = 1 → ∃ l : List Nat, isNm l ∧ v = nI (enc 32 l) ∧ e = q + l.length) (h0 : ¬ (d = 0 ∧ 0 < n)) : RX b (n + 1) d e K' V' F' O P' S' W' C' N' Q R' := by
  obtain ⟨h, cs, ce, pa, dp, g, hE⟩ := h
  have hr2 := hr
  obtain ⟨r1, r2, r3, r4, r5, r6, r7, r8, r9⟩ := hr
  refine ⟨hR, ?_⟩
  cases d with
  | zero =>
    have e0 : n = 0 := by omega
    subst e0
    exact ⟨_, _, _, _, GI.leaf0 hqe r5 (by rw [r1]; exact hk) (fun c => by rw [r3]; exact hnm (r1.symm.trans c)), Or.inr ⟨_, _, EI.one (by rw [r1]; exact hk) r5⟩⟩
  | succ d =>
    obtain ⟨⟨o, q1, q2, q3, q4⟩, -⟩ := h.2.2.2 d (by omega)
    have eI : ∃ en pe : Nat → Nat, EI (n + 1) (d + 1) K' V' F' O P' en pe := by
      rcases hE with z | ⟨en, pe, z⟩
      · exact absurd q1 (by omega)
      · exact z.leaf hn hr2 hk
    obtain ⟨x1, x2, x3, x4, x5⟩ := g.leaf (V' := V') (F' := F') (P' := P') (K' := K') hn h.2.1 hqe q2 q1 r2 (fun j hj => by
      rcases r4 j hj with x | ⟨-, x1, x2⟩
      · exact Or.inl x
      · exact Or.inr ⟨(nI_eq (by omega) (by omega)).mp (x1.symm.trans q2), x2⟩) (fun j hj => by
      rcases r6 j hj with x | ⟨-, x1, x2⟩
      · exact Or.inl x
      · exact Or.inr ⟨x1, x2⟩) r5 (r7 (by omega)) (fun i hi => r8 i (by omega)) (by rw [r1]; exact hk) (fun c => by rw [r3]; exact hnm (r1.symm.trans c))
    exact ⟨x1, x2, x3, x4, x5, Or.inr eI⟩
theorem RX.opn (h : RX b n d q K V F O P S W C N Q R) (hr : NR n d 2 (-1) K V F O P K' V' F' P') (hR : RD b (n + 1) (d + 1) K' V' F' (upd O d (nI n)) (upd P' d (-1)) S' W' C' N' (upd Q d (nI (b + n))) (upd R' d (-1))) (hn : n < 200) (hd : d < 12) (h0 : ¬ (d = 0 ∧ 0 < n)) : RX b (n + 1) (d + 1) (q + 1) K' V' F' (upd O d (nI n)) (upd P' d (-1)) S' W' C' N' (upd Q d (nI (b + n))) (upd R' d (-1)) := by
  obtain ⟨h, cs, ce, pa, dp, g, hE⟩ := h
  have hr2 := hr
  obtain ⟨r1, r2, r3, r4, r5, r6, r7, r8, r9⟩ := hr
  refine ⟨hR, ?_⟩
  cases d with
  | zero =>
    have e0 : n = 0 := by omega
    subst e0
    exact ⟨_, _, _, _, GI.open0 r5 r1 r3 pk_us pk_us, Or.inr ⟨_, _, EI.one' r1 r3 r5 pk_us pk_us⟩⟩
  | succ d =>
    obtain ⟨⟨o, q1, q2, q3, q4⟩, -⟩ := h.2.2.2 d (by omega)
    have eI : ∃ en pe : Nat → Nat, EI (n + 1) (d + 2) K' V' F' (upd O (d + 1) (nI n)) (upd P' (d + 1) (-1)) en pe := by
      rcases hE with z | ⟨en, pe, z⟩
      · exact absurd q1 (by omega)
      · exact z.opn hn hr2 rfl rfl
    obtain ⟨x1, x2, x3, x4, x5⟩ := g.opn (V' := V') (F' := F') (P' := upd P' (d + 1) (-1)) (O' := upd O (d + 1) (nI n)) (K' := K') hn hd q2 q1 r2 (fun j hj => by
      rcases r4 j hj with x | ⟨-, x1, x2⟩
      · exact Or.inl x
      · exact Or.inr ⟨(nI_eq (by omega) (by omega)).mp (x1.symm.trans q2), x2⟩) (fun j hj => by
      rcases r6 j hj with x | ⟨-, x1, x2⟩
      · exact Or.inl x
      · exact Or.inr ⟨x1, x2⟩) r5 (by rw [pk_un (by omega)]; exact r7 (by omega)) (fun i hi => by rw [pk_un (by omega)]; exact r8 i (by omega)) r1 r3 pk_us (fun i hi => pk_un (by omega)) pk_us
    exact ⟨x1, x2, x3, x4, x5, Or.inr eI⟩
end RX
