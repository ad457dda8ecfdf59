/-! generators of code: from the next line and the last constant, an error, or the lines and the nodes of the constants -/
abbrev GG : Type := Nat → Nat → Except Int32 (List (Nat × Nat × Nat) × List Nat)
def gput (o a b : Nat) : GG := fun _ _ => .ok ([(o, a, b)], [])
def gskip : GG := fun _ _ => .ok ([], [])
def gcon (j : Nat) : GG := fun _ nc => .ok ([(1, nc + 1, 0)], [j])
def gerr (e : Int32) : GG := fun _ _ => .error e
def gseq (g h : GG) : GG := fun pc nc => match g pc nc with
  | .error e => .error e
  | .ok r => match h (pc + r.1.length) (nc + r.2.length) with
    | .error e => .error e
    | .ok s => .ok (r.1 ++ s.1, r.2 ++ s.2)
def gfn (g : GG) : GG := fun pc nc => match g (pc + 1) nc with
  | .error e => .error e
  | .ok r => .ok ((2, pc + r.1.length + 2, 0) :: (r.1 ++ [(4, 0, 0)]), r.2)
def gsel (g h : GG) : GG := fun pc nc => match g (pc + 1) nc with
  | .error e => .error e
  | .ok r => match h (pc + r.1.length + 2) (nc + r.2.length) with
    | .error e => .error e
    | .ok s => .ok ((7, pc + r.1.length + 2, pc + r.1.length + s.1.length + 3) :: (r.1 ++ (8, 0, 0) :: (s.1 ++ [(8, 0, 0)])), r.2 ++ s.2)
/-- the values of a list, the last one first, each put before the others -/
def gdown (c : Nat → GG) (l : List Nat) : Nat → GG
  | 0 => gskip
  | k + 1 => gseq (c (l.getD k 0)) (gseq (gput 12 0 0) (gdown c l k))
def gargs (c : Nat → GG) (l : List Nat) : GG := gseq (gput 1 0 0) (gdown c l l.length)
/-- no more than bl lines and bc constants, and an error is not 0 -/
def GB (g : GG) (bl bc : Nat) : Prop := ∀ pc nc, match g pc nc with
  | .error e => e ≠ 0
  | .ok r => r.1.length ≤ bl ∧ r.2.length ≤ bc
theorem GB.mono {g : GG} {bl bc bl' bc' : Nat} (h : GB g bl bc) (h1 : bl ≤ bl') (h2 : bc ≤ bc') : GB g bl' bc' := fun pc nc => by
  have := h pc nc
  cases e : g pc nc with
  | error x => rw [e] at this; exact this
  | ok r => rw [e] at this; exact ⟨Nat.le_trans this.1 h1, Nat.le_trans this.2 h2⟩
theorem GB.put {o a b : Nat} : GB (gput o a b) 1 0 := fun _ _ => ⟨Nat.le_refl _, Nat.le_refl _⟩
theorem GB.skip : GB gskip 0 0 := fun _ _ => ⟨Nat.le_refl _, Nat.le_refl _⟩
theorem GB.con {j : Nat} : GB (gcon j) 1 1 := fun _ _ => ⟨Nat.le_refl _, Nat.le_refl _⟩
theorem GB.err {e : Int32} (h : e ≠ 0) : GB (gerr e) 0 0 := fun _ _ => h
theorem GB.seq {g h : GG} {a b a' b' : Nat} (hg : GB g a b) (hh : GB h a' b') : GB (gseq g h) (a + a') (b + b') := fun pc nc => by
  have h1 := hg pc nc
  unfold gseq
  cases e : g pc nc with
  | error x => rw [e] at h1; exact h1
  | ok r =>
    rw [e] at h1
    have h2 := hh (pc + r.1.length) (nc + r.2.length)
    simp only
    cases e2 : h (pc + r.1.length) (nc + r.2.length) with
    | error x => rw [e2] at h2; exact h2
    | ok s =>
      rw [e2] at h2
      simp only [List.length_append]
      exact ⟨Nat.add_le_add h1.1 h2.1, Nat.add_le_add h1.2 h2.2⟩
theorem GB.fn {g : GG} {a b : Nat} (hg : GB g a b) : GB (gfn g) (a + 2) b := fun pc nc => by
  have h1 := hg (pc + 1) nc
  unfold gfn
  cases e : g (pc + 1) nc with
  | error x => rw [e] at h1; exact h1
  | ok r =>
    rw [e] at h1
    simp only [List.length_append, List.length_cons, List.length_nil]
    exact ⟨by omega, h1.2⟩
theorem GB.sel {g h : GG} {a b a' b' : Nat} (hg : GB g a b) (hh : GB h a' b') : GB (gsel g h) (a + a' + 3) (b + b') := fun pc nc => by
  have h1 := hg (pc + 1) nc
  unfold gsel
  cases e : g (pc + 1) nc with
  | error x => rw [e] at h1; exact h1
  | ok r =>
    rw [e] at h1
    have h2 := hh (pc + r.1.length + 2) (nc + r.2.length)
    simp only
    cases e2 : h (pc + r.1.length + 2) (nc + r.2.length) with
    | error x => rw [e2] at h2; exact h2
    | ok s =>
      rw [e2] at h2
      simp only [List.length_append, List.length_cons, List.length_nil]
      exact ⟨by omega, by omega⟩
/-- the word of a line -/
def wd (x : Nat × Nat × Nat) : Int32 := nI (x.1 + 32 * x.2.1 + 16384 * x.2.2)
theorem wd_eq (o a b : Nat) : (nI o + (32 : Int32) * nI a) + (16384 : Int32) * nI b = wd (o, a, b) := by
  rw [show (32 : Int32) * nI a = nI (32 * a) from pk_mul 32 _, show (16384 : Int32) * nI b = nI (16384 * b) from pk_mul 16384 _, nI_add, nI_add]
  rfl
/-- from p on, the row holds the words of the lines -/
def WL (wo : Nat → Int32) : Nat → List (Nat × Nat × Nat) → Prop
  | _, [] => True
  | p, x :: t => wo p = wd x ∧ WL wo (p + 1) t
theorem WL.app {wo : Nat → Int32} : ∀ {L M : List (Nat × Nat × Nat)} {p : Nat}, WL wo p L → WL wo (p + L.length) M → WL wo p (L ++ M)
  | [], _, _, _, h => h
  | _ :: l, _, p, h1, h2 => ⟨h1.1, WL.app h1.2 (by rw [show p + 1 + l.length = p + (l.length + 1) from by omega]; exact h2)⟩
theorem WL.to {wo wo' : Nat → Int32} : ∀ {L : List (Nat × Nat × Nat)} {p : Nat}, WL wo p L → (∀ k, p ≤ k → k < p + L.length → wo' k = wo k) → WL wo' p L
  | [], _, _, _ => trivial
  | _ :: l, p, h1, h2 => ⟨by rw [h2 p (Nat.le_refl _) (by show p < p + (l.length + 1); omega)]; exact h1.1, WL.to h1.2 (fun k hk hk2 => h2 k (by omega) (by show k < p + (l.length + 1); omega))⟩
theorem WL.at {wo : Nat → Int32} : ∀ {L : List (Nat × Nat × Nat)} {p k : Nat}, WL wo p L → k < L.length → wo (p + k) = wd (L.getD k (0, 0, 0))
  | [], _, _, _, h => absurd h (Nat.not_lt_zero _)
  | _ :: _, _, 0, h1, _ => h1.1
  | _ :: _, p, k + 1, h1, h2 => by
    have := WL.at (k := k) h1.2 (Nat.lt_of_succ_lt_succ h2)
    rw [show p + (k + 1) = p + 1 + k from by omega]
    exact this
/-- behind p, the row holds the nodes -/
def CL (co : Nat → Int32) : Nat → List Nat → Prop
  | _, [] => True
  | p, x :: t => co (p + 1) = nI x ∧ CL co (p + 1) t
theorem CL.app {co : Nat → Int32} : ∀ {L M : List Nat} {p : Nat}, CL co p L → CL co (p + L.length) M → CL co p (L ++ M)
  | [], _, _, _, h => h
  | _ :: l, _, p, h1, h2 => ⟨h1.1, CL.app h1.2 (by rw [show p + 1 + l.length = p + (l.length + 1) from by omega]; exact h2)⟩
theorem CL.to {co co' : Nat → Int32} : ∀ {L : List Nat} {p : Nat}, CL co p L → (∀ k, p < k → k ≤ p + L.length → co' k = co k) → CL co' p L
  | [], _, _, _ => trivial
  | _ :: l, p, h1, h2 => ⟨by rw [h2 (p + 1) (by omega) (by show p + 1 ≤ p + (l.length + 1); omega)]; exact h1.1, CL.to h1.2 (fun k hk hk2 => h2 k (by omega) (by show k ≤ p + (l.length + 1); omega))⟩
