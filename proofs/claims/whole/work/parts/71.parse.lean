/-! reading: the two node tables, side by side. b: the reference's base; n: nodes so far; d: unclosed lists -/
def enc (q : Nat) (l : List Nat) : Nat := l.foldl (fun a x => a * q + x) 0
def isNm (l : List Nat) : Prop := l ≠ [] ∧ l.length ≤ 6 ∧ ∀ x ∈ l, 1 ≤ x ∧ x ≤ 26
def nameR (v w : Int32) : Prop := ∃ l : List Nat, isNm l ∧ v = nI (enc 32 l) ∧ w = nI (enc 27 l)
def ptr (b n : Nat) (x y : Int32) : Prop := (x = -1 ∧ y = -1) ∨ ∃ p, p < n ∧ x = nI p ∧ y = nI (b + p)
theorem ptr.mono {b n m : Nat} {x y : Int32} (h : ptr b n x y) (hm : n ≤ m) : ptr b m x y := by
  rcases h with h | ⟨p, h1, h2⟩
  · exact Or.inl h
  · exact Or.inr ⟨p, by omega, h2⟩
theorem ptr.nil {b n : Nat} : ptr b n (-1) (-1) := Or.inl ⟨rfl, rfl⟩
theorem ptr.to {b n p : Nat} (h : p < n) : ptr b n (nI p) (nI (b + p)) := Or.inr ⟨p, h, rfl, rfl⟩
theorem nI_m1 {p : Nat} (h : p < 2 ^ 31) : ¬ nI p = -1 := fun e => by
  have h1 := nI_toInt h
  rw [e] at h1
  have h2 : ((-1 : Int32)).toInt = -1 := by decide
  rw [h2] at h1
  omega
def ndV (b n : Nat) (k v s w c : Int32) : Prop := (k = 0 ∧ s = 0 ∧ v = w ∧ c = -1) ∨ (k = 1 ∧ s = 1 ∧ nameR v w ∧ c = -1) ∨ (k = 2 ∧ s = 2 ∧ ptr b n v c)
theorem ndV.mono {b n m : Nat} {k v s w c : Int32} (h : ndV b n k v s w c) (hm : n ≤ m) : ndV b m k v s w c := by
  rcases h with h | h | ⟨h1, h2, h3⟩
  · exact Or.inl h
  · exact Or.inr (Or.inl h)
  · exact Or.inr (Or.inr ⟨h1, h2, h3.mono hm⟩)
def RD (b n d : Nat) (K V F O P S W C N Q R : Nat → Int32) : Prop :=
  n ≤ 200 ∧ d ≤ 12 ∧ (∀ j, j < n → ptr b n (F j) (N (b + j)) ∧ ndV b n (K j) (V j) (S (b + j)) (W (b + j)) (C (b + j))) ∧
  ∀ i, i < d → (∃ o, o < n ∧ O i = nI o ∧ Q i = nI (b + o) ∧ K o = 2) ∧ ptr b n (P i) (R i)
theorem RD.nil {b : Nat} {K V F O P S W C N Q R : Nat → Int32} : RD b 0 0 K V F O P S W C N Q R := ⟨by omega, by omega, fun j h => absurd h (by omega), fun j h => absurd h (by omega)⟩
/-- a node that isn't in a list -/
theorem RD.add0 {b n : Nat} {K V F O P S W C N Q R : Nat → Int32} {k v w : Int32} (h : RD b n 0 K V F O P S W C N Q R) (hn : n < 200) (hk : ndV b (n + 1) k v k w (-1)) :
    RD b (n + 1) 0 (upd K n k) (upd V n v) (upd F n (-1)) O P (upd S (b + n) k) (upd W (b + n) w) (upd C (b + n) (-1)) (upd N (b + n) (-1)) Q R := by
  obtain ⟨h1, h2, h3, h4⟩ := h
  refine ⟨by omega, by omega, fun j hj => ?_, fun i hi => absurd hi (by omega)⟩
  by_cases e : j = n
  · subst e
    simp only [pk_us]
    exact ⟨ptr.nil, hk⟩
  · have e2 : b + j ≠ b + n := by omega
    simp only [pk_un e, pk_un e2]
    obtain ⟨a1, a2⟩ := h3 j (by omega)
    exact ⟨a1.mono (by omega), a2.mono (by omega)⟩
/-- the first part of the innermost unclosed list -/
theorem RD.addF {b n d o : Nat} {K V F O P S W C N Q R : Nat → Int32} {k v w : Int32} (h : RD b n (d + 1) K V F O P S W C N Q R) (hn : n < 200) (hk : ndV b (n + 1) k v k w (-1)) (hon : o < n) (ho : O d = nI o) :
    RD b (n + 1) (d + 1) (upd K n k) (upd (upd V n v) o (nI n)) (upd F n (-1)) O (upd P d (nI n)) (upd S (b + n) k) (upd W (b + n) w) (upd (upd C (b + n) (-1)) (b + o) (nI (b + n))) (upd N (b + n) (-1)) Q (upd R d (nI (b + n))) := by
  obtain ⟨h1, h2, h3, h4⟩ := h
  obtain ⟨⟨o2, q1, q2, q3, q4⟩, q5⟩ := h4 d (by omega)
  have eo : o2 = o := (nI_eq (by omega) (by omega)).mp (q2.symm.trans ho)
  subst eo
  refine ⟨by omega, h2, fun j hj => ?_, fun i hi => ?_⟩
  · by_cases e : j = n
    · subst e
      have e1 : j ≠ o2 := by omega
      have e2 : b + j ≠ b + o2 := by omega
      simp only [pk_us, pk_un e1, pk_un e2]
      exact ⟨ptr.nil, hk⟩
    · have e2 : b + j ≠ b + n := by omega
      obtain ⟨a1, a2⟩ := h3 j (by omega)
      by_cases eo : j = o2
      · subst eo
        simp only [pk_un e, pk_un e2, pk_us]
        refine ⟨a1.mono (by omega), Or.inr (Or.inr ⟨q4, ?_, ptr.to (by omega)⟩)⟩
        rcases a2 with a2 | a2 | a2
        · exact absurd (q4.symm.trans a2.1) (by decide)
        · exact absurd (q4.symm.trans a2.1) (by decide)
        · exact a2.2.1
      · have e3 : b + j ≠ b + o2 := by omega
        simp only [pk_un e, pk_un e2, pk_un eo, pk_un e3]
        exact ⟨a1.mono (by omega), a2.mono (by omega)⟩
  · obtain ⟨⟨o3, r1, r2, r3, r4⟩, r5⟩ := h4 i hi
    have e0 : o3 ≠ n := by omega
    refine ⟨⟨o3, by omega, r2, r3, by rw [pk_un e0]; exact r4⟩, ?_⟩
    by_cases e : i = d
    · subst e
      rw [pk_us, pk_us]
      exact ptr.to (by omega)
    · rw [pk_un e, pk_un e]
      exact r5.mono (by omega)
/-- a further part of the innermost unclosed list -/
theorem RD.addG {b n d p : Nat} {K V F O P S W C N Q R : Nat → Int32} {k v w : Int32} (h : RD b n (d + 1) K V F O P S W C N Q R) (hn : n < 200) (hk : ndV b (n + 1) k v k w (-1)) (hpn : p < n) (hp : P d = nI p) :
    RD b (n + 1) (d + 1) (upd K n k) (upd V n v) (upd (upd F n (-1)) p (nI n)) O (upd P d (nI n)) (upd S (b + n) k) (upd W (b + n) w) (upd C (b + n) (-1)) (upd (upd N (b + n) (-1)) (b + p) (nI (b + n))) Q (upd R d (nI (b + n))) := by
  obtain ⟨h1, h2, h3, h4⟩ := h
  refine ⟨by omega, h2, fun j hj => ?_, fun i hi => ?_⟩
  · by_cases e : j = n
    · subst e
      have e1 : j ≠ p := by omega
      have e2 : b + j ≠ b + p := by omega
      simp only [pk_us, pk_un e1, pk_un e2]
      exact ⟨ptr.nil, hk⟩
    · have e2 : b + j ≠ b + n := by omega
      obtain ⟨a1, a2⟩ := h3 j (by omega)
      by_cases eo : j = p
      · subst eo
        simp only [pk_un e, pk_un e2, pk_us]
        exact ⟨ptr.to (by omega), a2.mono (by omega)⟩
      · have e3 : b + j ≠ b + p := by omega
        simp only [pk_un e, pk_un e2, pk_un eo, pk_un e3]
        exact ⟨a1.mono (by omega), a2.mono (by omega)⟩
  · obtain ⟨⟨o3, r1, r2, r3, r4⟩, r5⟩ := h4 i hi
    have e0 : o3 ≠ n := by omega
    refine ⟨⟨o3, by omega, r2, r3, by rw [pk_un e0]; exact r4⟩, ?_⟩
    by_cases e : i = d
    · subst e
      rw [pk_us, pk_us]
      exact ptr.to (by omega)
    · rw [pk_un e, pk_un e]
      exact r5.mono (by omega)
/-- a list is opened: its node has been added last -/
theorem RD.opd {b n d : Nat} {K V F O P S W C N Q R : Nat → Int32} (h : RD b (n + 1) d K V F O P S W C N Q R) (hd : d < 12) (hk : K n = 2) :
    RD b (n + 1) (d + 1) K V F (upd O d (nI n)) (upd P d (-1)) S W C N (upd Q d (nI (b + n))) (upd R d (-1)) := by
  obtain ⟨h1, h2, h3, h4⟩ := h
  refine ⟨h1, by omega, h3, fun i hi => ?_⟩
  by_cases e : i = d
  · subst e
    simp only [pk_us]
    exact ⟨⟨n, by omega, rfl, rfl, hk⟩, ptr.nil⟩
  · simp only [pk_un e]
    exact h4 i (by omega)
theorem RD.close {b n d : Nat} {K V F O P S W C N Q R : Nat → Int32} (h : RD b n (d + 1) K V F O P S W C N Q R) : RD b n d K V F O P S W C N Q R := by
  obtain ⟨h1, h2, h3, h4⟩ := h
  exact ⟨h1, by omega, h3, fun i hi => h4 i (by omega)⟩
theorem q_addPart {F P O V : Nat → Int32} {i n o : Nat} {post : (Nat → Int32) → (Nat → Int32) → (Nat → Int32) → Prop} (hi : i < 12) (ho : O i = nI o) (ho2 : o < 200) (hl : P i = -1 ∧ post F (upd P i (nI n)) (upd V o (nI n)) ∨ ∃ p, p < 200 ∧ P i = nI p ∧ post (upd F p (nI n)) (upd P i (nI n)) V) : wp_Datum_addPart F P O V (nI i) (nI n) post := by
  have e : (nI i).toNatClampNeg = i := nI_clamp (by omega)
  have vi : vp_in (nI i) 12 := vp_in_nI hi (by decide)
  unfold wp_Datum_addPart
  rw [e, ho, nI_clamp (n := o) (by omega)]
  refine ⟨vi, fun c => ⟨vi, vp_in_nI ho2 (by decide), vi, ?_⟩, fun c => ⟨vi, ?_⟩⟩
  · rcases hl with h | ⟨p, h1, h2, h3⟩
    · exact h.2
    · exact absurd (h2.symm.trans c) (nI_m1 (by omega))
  · rcases hl with h | ⟨p, h1, h2, h3⟩
    · exact absurd h.1 c
    · rw [h2, nI_clamp (n := p) (by omega)]
      exact ⟨vp_in_nI h1 (by decide), vi, h3⟩
/-- what adding a node has changed in the class's tables -/
def NR (n d : Nat) (k v : Int32) (K V F O P K' V' F' P' : Nat → Int32) : Prop :=
  K' n = k ∧ (∀ j, j < n → K' j = K j) ∧ V' n = v ∧ (∀ j, j < n → V' j = V j ∨ (0 < d ∧ O (d - 1) = nI j ∧ V' j = nI n)) ∧ F' n = -1 ∧ (∀ j, j < n → F' j = F j ∨ (0 < d ∧ P (d - 1) = nI j ∧ F' j = nI n)) ∧ (0 < d → P' (d - 1) = nI n) ∧ ∀ i, i + 1 < d → P' i = P i
theorem NR.base {k v : Int32} {K V F O P : Nat → Int32} : NR 0 0 k v K V F O P (upd K 0 k) (upd V 0 v) (upd F 0 (-1)) P :=
  ⟨pk_us, fun j h => absurd h (by omega), pk_us, fun j h => absurd h (by omega), pk_us, fun j h => absurd h (by omega), fun h => absurd h (by omega), fun i h => absurd h (by omega)⟩
theorem NR.first {n d o : Nat} {k v : Int32} {K V F O P : Nat → Int32} (hon : o < n) (ho : O d = nI o) : NR n (d + 1) k v K V F O P (upd K n k) (upd (upd V n v) o (nI n)) (upd F n (-1)) (upd P d (nI n)) := by
  refine ⟨pk_us, fun j h => pk_un (by omega), by rw [pk_un (by omega), pk_us], fun j h => ?_, pk_us, fun j h => Or.inl (pk_un (by omega)), fun _ => pk_us, fun i h => pk_un (by omega)⟩
  by_cases e : j = o
  · subst e
    exact Or.inr ⟨by omega, ho, pk_us⟩
  · exact Or.inl (by rw [pk_un e, pk_un (by omega)])
theorem NR.further {n d p : Nat} {k v : Int32} {K V F O P : Nat → Int32} (hpn : p < n) (hp : P d = nI p) : NR n (d + 1) k v K V F O P (upd K n k) (upd V n v) (upd (upd F n (-1)) p (nI n)) (upd P d (nI n)) := by
  refine ⟨pk_us, fun j h => pk_un (by omega), pk_us, fun j h => Or.inl (pk_un (by omega)), by rw [pk_un (by omega), pk_us], fun j h => ?_, fun _ => pk_us, fun i h => pk_un (by omega)⟩
  by_cases e : j = p
  · subst e
    exact Or.inr ⟨by omega, hp, pk_us⟩
  · exact Or.inl (by rw [pk_un e, pk_un (by omega)])
/-- a node is added, or refused, on both sides -/
theorem RD.node {b n d : Nat} {bank : Int32} {K V F O P S W C N Q R : Nat → Int32} {k v w : Int32} (h : RD b n d K V F O P S W C N Q R) (hn : n < 200) (hb : b ≤ 200) (hbk : (200 : Int32) * ((1 : Int32) - bank) = nI b) (hk : ndV b (n + 1) k v k w (-1)) :
    (¬ (d = 0 ∧ 0 < n) ∧ ∃ K' V' F' P' S' W' C' N' R' : Nat → Int32, RD b (n + 1) d K' V' F' O P' S' W' C' N' Q R' ∧ NR n d k v K V F O P K' V' F' P' ∧
      (∀ pc : Int32 → Int32 → (Nat → Int32) → (Nat → Int32) → (Nat → Int32) → (Nat → Int32) → Prop, pc 1 (nI (n + 1)) F' K' P' V' → wp_Datum_addNode (nI n) (nI d) F K P O V k v pc) ∧
      (∀ pm : Int32 → Int32 → (Nat → Int32) → (Nat → Int32) → (Nat → Int32) → (Nat → Int32) → (Nat → Int32) → Prop, pm (nI (b + n)) (nI (n + 1)) C' R' N' S' W' → wp_Model_node bank (nI n) C R N Q S W (nI d) k w pm)) ∨
    ((d = 0 ∧ 0 < n) ∧ (∀ pc : Int32 → Int32 → (Nat → Int32) → (Nat → Int32) → (Nat → Int32) → (Nat → Int32) → Prop, pc 0 (nI n) F K P V → wp_Datum_addNode (nI n) (nI d) F K P O V k v pc) ∧
      (∀ pm : Int32 → Int32 → (Nat → Int32) → (Nat → Int32) → (Nat → Int32) → (Nat → Int32) → (Nat → Int32) → Prop, pm (-1) (nI n) C R N S W → wp_Model_node bank (nI n) C R N Q S W (nI d) k w pm)) := by
  have en : (nI n).toNatClampNeg = n := nI_clamp (by omega)
  have vn : vp_in (nI n) 200 := vp_in_nI hn (by decide)
  have c200 : ¬ (200 : Int32) ≤ nI n := fun c => by
    have := (nI_leI (a := 200) (b := n) (by decide) (by omega)).mp c
    omega
  have eb : nI b + nI n = nI (b + n) := nI_add b n
  have ebn : (nI (b + n)).toNatClampNeg = b + n := nI_clamp (by omega)
  have vbn : vp_in (nI (b + n)) 400 := vp_in_nI (by omega) (by decide)
  cases d with
  | zero =>
    by_cases h0 : 0 < n
    · refine Or.inr ⟨⟨rfl, h0⟩, fun pc hp => ?_, fun pm hp => ?_⟩
      · refine ⟨fun c => absurd c c200, fun _ => ⟨fun _ => ⟨fun c => absurd c (nI_nle h0 (by omega)), fun _ => hp⟩, fun c => absurd rfl c⟩⟩
      · exact ⟨fun _ => ⟨fun c => absurd c (nI_nle h0 (by omega)), fun _ => hp⟩, fun c => absurd rfl c⟩
    · have hz : n = 0 := by omega
      subst hz
      refine Or.inl ⟨fun q => h0 q.2, _, _, _, _, _, _, _, _, _, h.add0 hn hk, NR.base, fun pc hp => ?_, fun pm hp => ?_⟩
      · refine ⟨fun c => absurd c c200, fun _ => ⟨fun _ => ⟨fun _ => ?_, fun c => absurd (by decide) c⟩, fun c => absurd rfl c⟩⟩
        unfold wp_Datum_addNode_J26
        rw [en, nI_1]
        exact ⟨vn, vn, vn, fun _ => hp, fun c => absurd (by decide) c⟩
      · refine ⟨fun _ => ⟨fun _ => ?_, fun c => absurd (by decide) c⟩, fun c => absurd rfl c⟩
        unfold wp_Model_node_J25
        rw [hbk, eb, ebn, nI_1]
        exact ⟨vbn, vbn, vbn, vbn, fun _ => hp, fun c => absurd (by decide) c⟩
  | succ d =>
    obtain ⟨⟨o, q1, q2, q3, q4⟩, q5⟩ := h.2.2.2 d (by omega)
    have hd : d < 12 := by have := h.2.1; omega
    have vd : vp_in (nI d) 12 := vp_in_nI hd (by decide)
    have ed : (nI d).toNatClampNeg = d := nI_clamp (by omega)
    have ne0 : ¬ nI (d + 1) = 0 := nI_ne0 (by omega) (by omega)
    have nle : ¬ nI (d + 1) ≤ 0 := nI_nle (by omega) (by omega)
    rcases q5 with ⟨q6, q7⟩ | ⟨p, q6, q7, q8⟩
    · refine Or.inl ⟨fun q => absurd q.1 (by omega), _, _, _, _, _, _, _, _, _, h.addF hn hk q1 q2, NR.first q1 q2, fun pc hp => ?_, fun pm hp => ?_⟩
      · refine ⟨fun c => absurd c c200, fun _ => ⟨fun c => absurd c ne0, fun _ => ?_⟩⟩
        unfold wp_Datum_addNode_J26
        rw [en, nI_1, nI_pred]
        exact ⟨vn, vn, vn, fun c => absurd c nle, fun _ => q_addPart hd q2 (by omega) (Or.inl ⟨q6, hp⟩)⟩
      · refine ⟨fun c => absurd c ne0, fun _ => ?_⟩
        unfold wp_Model_node_J25
        rw [hbk, eb, ebn, nI_1, nI_pred, ed, q7, q3, nI_clamp (n := b + o) (by omega)]
        exact ⟨vbn, vbn, vbn, vbn, fun c => absurd c nle, fun _ => ⟨vd, fun c => absurd c (by decide), fun _ => ⟨vd, vp_in_nI (by omega) (by decide), vd, hp⟩⟩⟩
    · refine Or.inl ⟨fun q => absurd q.1 (by omega), _, _, _, _, _, _, _, _, _, h.addG hn hk q6 q7, NR.further q6 q7, fun pc hp => ?_, fun pm hp => ?_⟩
      · refine ⟨fun c => absurd c c200, fun _ => ⟨fun c => absurd c ne0, fun _ => ?_⟩⟩
        unfold wp_Datum_addNode_J26
        rw [en, nI_1, nI_pred]
        exact ⟨vn, vn, vn, fun c => absurd c nle, fun _ => q_addPart hd q2 (by omega) (Or.inr ⟨p, by omega, q7, hp⟩)⟩
      · refine ⟨fun c => absurd c ne0, fun _ => ?_⟩
        unfold wp_Model_node_J25
        rw [hbk, eb, ebn, nI_1, nI_pred, ed, q8, nI_clamp (n := b + p) (by omega)]
        exact ⟨vbn, vbn, vbn, vbn, fun c => absurd c nle, fun _ => ⟨vd, fun _ => ⟨vd, vp_in_nI (by omega) (by decide), vd, hp⟩, fun c => absurd (nI_pos' (by omega)) c⟩⟩
