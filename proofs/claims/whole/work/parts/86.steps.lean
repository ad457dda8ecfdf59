/-! the steps of the reference's loop over its tasks -/
section
variable {bank : Int32} {b to : Nat} {C fo N S W : Nat → Int32} {KK PP : KT} {P Q : Nat → (Nat → Int32) → (Nat → Int32) → (Nat → Int32) → Prop} {g h : GG} {bl bc bf bs bt : Nat} {l : List (Int32 × Int32 × Int32)} {k tc fc pc nc : Nat} {ab ar fi fx li nm op pd wh wi x1 x2 : Nat → Int32}
theorem LP.s0 (hk : k < 2000) (ht : tc < 600) (hw : wh tc = 0) (hp : wp_Model_expression bank (nI tc) (nI fc) ab ar C fi fx fo li nm N op pd S W wh wi x1 x2 (ab tc) (wi tc) (fun r ts fr ab ar fi fx li nm op pd wh wi x1 x2 => wp_Model_translate_L46 bank C fo N S W KK PP (2000 - k) ((1 : Int32) - bank) r (nI (k + 1)) ts fr ab ar fi fx li nm op pd wh wi x1 x2)) : LP bank C fo N S W KK PP k (tc + 1) fc ab ar fi fx li nm op pd wh wi x1 x2 := by
  unfold LP
  rw [show 2001 - k = (2000 - k) + 1 by omega]
  refine ⟨fun c => absurd c (nI_ge (a := k) (b := 2000) hk (by decide)), fun _ => ⟨fun c => absurd c (nI_nle (by omega) (by omega)), fun _ => ⟨fun _ => ?_, fun z => absurd rfl z⟩⟩⟩
  have vt : vp_in (nI tc) 600 := vp_in_nI ht (by decide)
  rw [nI_pred, nI_clamp (n := tc) (by omega), hw]
  refine ⟨vt, vt, vt, fun _ => ?_, fun z => absurd rfl z⟩
  unfold wp_Model_translate_J223
  rw [nI_1]
  exact hp
theorem LP.s1 (hk : k < 2000) (ht : tc < 600) (hw : wh tc = 1) (hp : wp_Model_emit bank li op x1 x2 (ab tc) (0 : Int32) (0 : Int32) (fun _ li op x1 x2 => LP bank C fo N S W KK PP (k + 1) tc fc ab ar fi fx li nm op pd wh wi x1 x2)) : LP bank C fo N S W KK PP k (tc + 1) fc ab ar fi fx li nm op pd wh wi x1 x2 := by
  unfold LP at hp ⊢
  rw [show 2001 - k = (2000 - k) + 1 by omega]
  rw [show 2001 - (k + 1) = 2000 - k by omega] at hp
  refine ⟨fun c => absurd c (nI_ge (a := k) (b := 2000) hk (by decide)), fun _ => ⟨fun c => absurd c (nI_nle (by omega) (by omega)), fun _ => ⟨fun _ => ?_, fun z => absurd rfl z⟩⟩⟩
  have vt : vp_in (nI tc) 600 := vp_in_nI ht (by decide)
  rw [nI_pred, nI_clamp (n := tc) (by omega), hw]
  refine ⟨vt, vt, vt, fun z => absurd z (by decide), fun _ => ⟨fun _ => ?_, fun z => absurd rfl z⟩⟩
  unfold wp_Model_translate_J223
  rw [nI_1]
  exact hp
theorem LP.s2 (hk : k < 2000) (ht : tc < 600) (hw : wh tc = 2) (hp : wp_Model_body bank (nI tc) ab li op wh wi x1 x2 (ab tc) (wi tc) (fun ts ab li op wh wi x1 x2 => wp_Model_translate_L46 bank C fo N S W KK PP (2000 - k) ((1 : Int32) - bank) 0 (nI (k + 1)) ts (nI fc) ab ar fi fx li nm op pd wh wi x1 x2)) : LP bank C fo N S W KK PP k (tc + 1) fc ab ar fi fx li nm op pd wh wi x1 x2 := by
  unfold LP
  rw [show 2001 - k = (2000 - k) + 1 by omega]
  refine ⟨fun c => absurd c (nI_ge (a := k) (b := 2000) hk (by decide)), fun _ => ⟨fun c => absurd c (nI_nle (by omega) (by omega)), fun _ => ⟨fun _ => ?_, fun z => absurd rfl z⟩⟩⟩
  have vt : vp_in (nI tc) 600 := vp_in_nI ht (by decide)
  rw [nI_pred, nI_clamp (n := tc) (by omega), hw]
  refine ⟨vt, vt, vt, fun z => absurd z (by decide), fun _ => ⟨fun z => absurd z (by decide), fun _ => ⟨fun _ => ?_, fun z => absurd rfl z⟩⟩⟩
  unfold wp_Model_translate_J223
  rw [nI_1]
  exact hp
theorem LP.s3 (hk : k < 2000) (ht : tc < 600) (hw : wh tc = 3) (hp : wp_Model_choice bank (nI tc) ab C li N op wh wi x1 x2 (ab tc) (wi tc) (fun ts ab li op wh wi x1 x2 => wp_Model_translate_L46 bank C fo N S W KK PP (2000 - k) ((1 : Int32) - bank) 0 (nI (k + 1)) ts (nI fc) ab ar fi fx li nm op pd wh wi x1 x2)) : LP bank C fo N S W KK PP k (tc + 1) fc ab ar fi fx li nm op pd wh wi x1 x2 := by
  unfold LP
  rw [show 2001 - k = (2000 - k) + 1 by omega]
  refine ⟨fun c => absurd c (nI_ge (a := k) (b := 2000) hk (by decide)), fun _ => ⟨fun c => absurd c (nI_nle (by omega) (by omega)), fun _ => ⟨fun _ => ?_, fun z => absurd rfl z⟩⟩⟩
  have vt : vp_in (nI tc) 600 := vp_in_nI ht (by decide)
  rw [nI_pred, nI_clamp (n := tc) (by omega), hw]
  refine ⟨vt, vt, vt, fun z => absurd z (by decide), fun _ => ⟨fun z => absurd z (by decide), fun _ => ⟨fun z => absurd z (by decide), fun _ => ⟨fun _ => ?_, fun z => absurd rfl z⟩⟩⟩⟩
  unfold wp_Model_translate_J223
  rw [nI_1]
  exact hp
theorem LP.s4 {p : Nat} (hbk : (1 : Int32) - bank = nI to) (hto : to < 2) (hk : k < 2000) (ht : tc < 600) (hw : wh tc = 4) (ha : ab tc = nI p) (hpp : p < 512) (hp : LP bank C fo N S W KK PP (k + 1) tc fc ab ar fi fx li nm op pd wh wi (upd x1 (512 * to + p) (li to)) x2) : LP bank C fo N S W KK PP k (tc + 1) fc ab ar fi fx li nm op pd wh wi x1 x2 := by
  unfold LP at hp ⊢
  rw [show 2001 - k = (2000 - k) + 1 by omega]
  rw [show 2001 - (k + 1) = 2000 - k by omega] at hp
  rw [hbk] at hp ⊢
  refine ⟨fun c => absurd c (nI_ge (a := k) (b := 2000) hk (by decide)), fun _ => ⟨fun c => absurd c (nI_nle (by omega) (by omega)), fun _ => ⟨fun _ => ?_, fun z => absurd rfl z⟩⟩⟩
  have vt : vp_in (nI tc) 600 := vp_in_nI ht (by decide)
  have ea : (512 : Int32) * nI to + nI p = nI (512 * to + p) := by
    rw [show (512 : Int32) * nI to = nI (512 * to) from pk_mul 512 _, nI_add]
  rw [nI_pred, nI_clamp (n := tc) (by omega), hw, ha, ea, nI_clamp (n := to) (by omega), nI_clamp (n := 512 * to + p) (by omega)]
  refine ⟨vt, vt, vt, fun z => absurd z (by decide), fun _ => ⟨fun z => absurd z (by decide), fun _ => ⟨fun z => absurd z (by decide), fun _ => ⟨fun z => absurd z (by decide), fun _ => ⟨fun _ => ⟨vp_in_nI hto (by decide), vp_in_nI (by omega) (by decide), ?_⟩, fun z => absurd rfl z⟩⟩⟩⟩⟩
  unfold wp_Model_translate_J223
  rw [nI_1]
  exact hp
theorem LP.s5 {p : Nat} (hbk : (1 : Int32) - bank = nI to) (hto : to < 2) (hk : k < 2000) (ht : tc < 600) (hw : wh tc = 5) (ha : ab tc = nI p) (hpp : p < 512) (hp : LP bank C fo N S W KK PP (k + 1) tc fc ab ar fi fx li nm op pd wh wi x1 (upd x2 (512 * to + p) (li to))) : LP bank C fo N S W KK PP k (tc + 1) fc ab ar fi fx li nm op pd wh wi x1 x2 := by
  unfold LP at hp ⊢
  rw [show 2001 - k = (2000 - k) + 1 by omega]
  rw [show 2001 - (k + 1) = 2000 - k by omega] at hp
  rw [hbk] at hp ⊢
  refine ⟨fun c => absurd c (nI_ge (a := k) (b := 2000) hk (by decide)), fun _ => ⟨fun c => absurd c (nI_nle (by omega) (by omega)), fun _ => ⟨fun _ => ?_, fun z => absurd rfl z⟩⟩⟩
  have vt : vp_in (nI tc) 600 := vp_in_nI ht (by decide)
  have ea : (512 : Int32) * nI to + nI p = nI (512 * to + p) := by
    rw [show (512 : Int32) * nI to = nI (512 * to) from pk_mul 512 _, nI_add]
  rw [nI_pred, nI_clamp (n := tc) (by omega), hw, ha, ea, nI_clamp (n := to) (by omega), nI_clamp (n := 512 * to + p) (by omega)]
  refine ⟨vt, vt, vt, fun z => absurd z (by decide), fun _ => ⟨fun z => absurd z (by decide), fun _ => ⟨fun z => absurd z (by decide), fun _ => ⟨fun z => absurd z (by decide), fun _ => ⟨fun z => absurd z (by decide), fun _ => ⟨vp_in_nI hto (by decide), vp_in_nI (by omega) (by decide), ?_⟩⟩⟩⟩⟩⟩
  unfold wp_Model_translate_J223
  rw [nI_1]
  exact hp
/-- an error ends the loop -/
theorem LP.fault {fu : Nat} {v1 v2 v3 ts fr : Int32} (h : v2 ≠ 0) (hp : KK v2 ts fr ab ar fi fx li nm op pd wh wi x1 x2) : wp_Model_translate_L46 bank C fo N S W KK PP (fu + 1) v1 v2 v3 ts fr ab ar fi fx li nm op pd wh wi x1 x2 :=
  ⟨fun _ => hp, fun _ => ⟨fun _ => hp, fun _ => ⟨fun z => absurd z h, fun _ => hp⟩⟩⟩
theorem q_memit {o a c : Int32} {post : Int32 → (Nat → Int32) → (Nat → Int32) → (Nat → Int32) → (Nat → Int32) → Prop} (hbk : (1 : Int32) - bank = nI to) (hto : to < 2) (hl : li to = nI pc) (hpc : pc < 512) (hp : post (nI pc) (upd li to (nI (pc + 1))) (upd op (512 * to + pc) o) (upd x1 (512 * to + pc) a) (upd x2 (512 * to + pc) c)) : wp_Model_emit bank li op x1 x2 o a c post := by
  have vt : vp_in (nI to) 2 := vp_in_nI hto (by decide)
  have et : (nI to).toNatClampNeg = to := nI_clamp (by omega)
  have ea : (512 : Int32) * nI to + nI pc = nI (512 * to + pc) := by
    rw [show (512 : Int32) * nI to = nI (512 * to) from pk_mul 512 _, nI_add]
  have ve : vp_in (nI (512 * to + pc)) 1024 := vp_in_nI (by omega) (by decide)
  unfold wp_Model_emit
  rw [hbk, et, hl, ea, nI_clamp (n := 512 * to + pc) (by omega), nI_1]
  exact ⟨vt, ve, ve, ve, vt, vt, hp⟩
/-- one line put out -/
theorem MOK.one {o a c : Nat} (hl : li to = nI pc) (hx : fx to = nI nc) (hpc : pc < 512) : MOK b to ([(o, a, c)], []) pc nc fi fx li op x1 x2 fi fx (upd li to (nI (pc + 1))) (upd op (512 * to + pc) (nI o)) (upd x1 (512 * to + pc) (nI a)) (upd x2 (512 * to + pc) (nI c)) :=
  ⟨pk_us, hx, fun k hk => ⟨pk_un hk, rfl⟩, fun k hk => ⟨pk_un (by omega), pk_un (by omega), pk_un (by omega)⟩, fun _ _ => rfl, ⟨⟨pk_us, pk_us, pk_us⟩, trivial⟩, trivial⟩
theorem MR.put {o : Nat} {f : Int32} (hbk : (1 : Int32) - bank = nI to) (hto : to < 2) : MR bank b to C fo N S W KK PP P 1 0 0 1 1 [(1, nI o, f)] (gput o 0 0) := by
  refine ⟨GB.put, fun k tc fc pc nc ab ar fi fx li nm op pd wh wi x1 x2 a1 a2 a3 a4 a5 a6 a7 a8 a9 a10 a11 => ?_⟩
  obtain ⟨⟨w1, w2, w3⟩, -⟩ := a2
  refine LP.s1 (by omega) (by omega) w1 ?_
  refine q_memit hbk hto a3 (by omega) ?_
  rw [show ab tc = nI o from w2]
  exact a10 (k + 1) fc ([(o, 0, 0)], []) _ _ _ _ _ _ _ _ _ _ _ _ (by omega) (by omega) (by omega) (by omega) (fun _ _ => ⟨rfl, rfl, rfl⟩) (fun _ _ => ⟨rfl, rfl, rfl⟩) rfl (MOK.one a3 a4 (by omega))
/-! what an expression pushes -/
def SS (ab0 wh0 wi0 : Nat → Int32) (tc : Nat) (l : List (Int32 × Int32 × Int32)) (ab wh wi : Nat → Int32) : Prop := STK ab wh wi tc l ∧ ∀ i, i < tc → ab i = ab0 i ∧ wh i = wh0 i ∧ wi i = wi0 i
theorem SS.nil : SS ab wh wi tc [] ab wh wi := ⟨trivial, fun _ _ => ⟨rfl, rfl, rfl⟩⟩
theorem q_later {n : Nat} {ab0 wh0 wi0 : Nat → Int32} {w a f : Int32} {post : Int32 → (Nat → Int32) → (Nat → Int32) → (Nat → Int32) → Prop} (h : SS ab0 wh0 wi0 tc l ab wh wi) (hn : n = tc + l.length) (hc : n < 600) (hp : ∀ ab' wh' wi', SS ab0 wh0 wi0 tc ((w, a, f) :: l) ab' wh' wi' → post (nI (n + 1)) ab' wh' wi') : wp_Model_later (nI n) ab wh wi w a f post := by
  subst hn
  have v : vp_in (nI (tc + l.length)) 600 := vp_in_nI hc (by decide)
  unfold wp_Model_later
  rw [nI_clamp (n := tc + l.length) (by omega), nI_1]
  refine ⟨v, v, v, hp _ _ _ ⟨⟨⟨pk_us, pk_us, pk_us⟩, h.1.to (fun i hi => ⟨pk_un (by omega), pk_un (by omega), pk_un (by omega)⟩)⟩, fun i hi => ?_⟩⟩
  obtain ⟨e1, e2, e3⟩ := h.2 i hi
  exact ⟨(pk_un (by omega)).trans e1, (pk_un (by omega)).trans e2, (pk_un (by omega)).trans e3⟩
/-- an expression that pushes tasks: they put out what it stands for -/
theorem MR.expF {j af : Nat} {f : Int32} {l : Nat → List (Int32 × Int32 × Int32)} {Q : Nat → Nat → (Nat → Int32) → (Nat → Int32) → (Nat → Int32) → Prop} (hgb : GB g bl bc) (hm : ∀ n, n + af ≤ 40 → MR bank b to C fo N S W KK PP (Q n) bl bc bf bs bt (l n) g) (hlb : ∀ n, (l n).length ≤ bt)
    (hx : ∀ (tc fc : Nat) (ab ar fi fx li nm op pd wh wi x1 x2 : Nat → Int32) (post : Int32 → Int32 → Int32 → (Nat → Int32) → (Nat → Int32) → (Nat → Int32) → (Nat → Int32) → (Nat → Int32) → (Nat → Int32) → (Nat → Int32) → (Nat → Int32) → (Nat → Int32) → (Nat → Int32) → (Nat → Int32) → (Nat → Int32) → Prop), P fc ar nm pd → tc + bt ≤ 600 → fc + (bf + af) ≤ 40 →
      (∀ fc' ar' nm' pd' ab' wh' wi', fc ≤ fc' → fc' ≤ fc + af → (∀ i, i < fc → ar' i = ar i ∧ nm' i = nm i ∧ pd' i = pd i) → Q fc fc' ar' nm' pd' → SS ab wh wi tc (l fc) ab' wh' wi' → post 0 (nI (tc + (l fc).length)) (nI fc') ab' ar' fi fx li nm' op pd' wh' wi' x1 x2) →
      wp_Model_expression bank (nI tc) (nI fc) ab ar C fi fx fo li nm N op pd S W wh wi x1 x2 (nI (b + j)) f post) : MR bank b to C fo N S W KK PP P bl bc (bf + af) (bs + 1) (bt + 1) [(0, nI (b + j), f)] g := by
  refine ⟨hgb, fun k tc fc pc nc ab ar fi fx li nm op pd wh wi x1 x2 a1 a2 a3 a4 a5 a6 a7 a8 a9 a10 a11 => ?_⟩
  obtain ⟨⟨w1, w2, w3⟩, -⟩ := a2
  refine LP.s0 (by omega) (by omega) w1 ?_
  rw [show ab tc = nI (b + j) from w2, show wi tc = f from w3]
  refine hx tc fc ab ar fi fx li nm op pd wh wi x1 x2 _ a1 (by omega) a7 (fun fc' ar' nm' pd' ab' wh' wi' b1 b2 b3 b4 b5 => ?_)
  have := (hm fc (by omega)).2 (k + 1) tc fc' pc nc ab' ar' fi fx li nm' op pd' wh' wi' x1 x2 b4 b5.1 a3 a4 a5 a6 (by omega) (by omega) (by omega) (fun k2 fc2 r ab2 ar2 fi2 fx2 li2 nm2 op2 pd2 wh2 wi2 x12 x22 c0 c1 c2 c3 c4 c5 c6 c7 => a10 k2 fc2 r ab2 ar2 fi2 fx2 li2 nm2 op2 pd2 wh2 wi2 x12 x22 (by omega) (by omega) (by omega) (by omega) (fun i hi => ?_) (fun i hi => ?_) c6 c7) a11
  · unfold LP at this
    rw [show 2001 - (k + 1) = 2000 - k by omega] at this
    exact this
  · obtain ⟨d1, d2, d3⟩ := c4 i hi
    obtain ⟨e1, e2, e3⟩ := b5.2 i hi
    exact ⟨d1.trans e1, d2.trans e2, d3.trans e3⟩
  · obtain ⟨d1, d2, d3⟩ := c5 i (by omega)
    obtain ⟨e1, e2, e3⟩ := b3 i hi
    exact ⟨d1.trans e1, d2.trans e2, d3.trans e3⟩
theorem MR.exp {j af : Nat} {f : Int32} (hm : MR bank b to C fo N S W KK PP Q bl bc bf bs bt l g) (hlb : l.length ≤ bt)
    (hx : ∀ (tc fc : Nat) (ab ar fi fx li nm op pd wh wi x1 x2 : Nat → Int32) (post : Int32 → Int32 → Int32 → (Nat → Int32) → (Nat → Int32) → (Nat → Int32) → (Nat → Int32) → (Nat → Int32) → (Nat → Int32) → (Nat → Int32) → (Nat → Int32) → (Nat → Int32) → (Nat → Int32) → (Nat → Int32) → (Nat → Int32) → Prop), P fc ar nm pd → tc + bt ≤ 600 → fc + (bf + af) ≤ 40 →
      (∀ fc' ar' nm' pd' ab' wh' wi', fc ≤ fc' → fc' ≤ fc + af → (∀ i, i < fc → ar' i = ar i ∧ nm' i = nm i ∧ pd' i = pd i) → Q fc' ar' nm' pd' → SS ab wh wi tc l ab' wh' wi' → post 0 (nI (tc + l.length)) (nI fc') ab' ar' fi fx li nm' op pd' wh' wi' x1 x2) →
      wp_Model_expression bank (nI tc) (nI fc) ab ar C fi fx fo li nm N op pd S W wh wi x1 x2 (nI (b + j)) f post) : MR bank b to C fo N S W KK PP P bl bc (bf + af) (bs + 1) (bt + 1) [(0, nI (b + j), f)] g :=
  MR.expF (l := fun _ => l) (Q := fun _ => Q) hm.1 (fun _ _ => hm) (fun _ => hlb) hx
end
